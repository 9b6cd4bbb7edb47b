section WX6
set_option maxRecDepth 20000 in
set_option maxHeartbeats 4000000 in
theorem B_X6_measure_0 {k : Nat} {P : Option Nat} {I : Nat → Nat → Int32} {J : Nat → Nat → Int64} {x1 : Int} {Q : Option AV → Mem → Prop} (hk : 1 ≤ k) (h : (0 ≤ ((3 + (x1 * 14)) + 0) ∧ ((3 + (x1 * 14)) + 0) < 87) ∧ ((0 ≤ (gi I 19 ((3 + (x1 * 14)) + 0).toNat) ∧ (gi I 19 ((3 + (x1 * 14)) + 0).toNat) < 5) ∧ (WPm (k - 1) LAY m_X9_lightAt [vR (some 36), vI (gi I 19 ((3 + (x1 * 14)) + 0).toNat), vI (gi I 15 (gi I 19 ((3 + (x1 * 14)) + 0).toNat).toNat)] (mem (P, some 5, some 22) I J) (retI (fun v3 I4 J5 => (0 ≤ x1 ∧ x1 < 3) ∧ (WPm (k - 1) LAY m_X9_setNow [vR (some 36), vI x1] (mem (P, some 5, some 22) (si (si (si I4 58 (x1).toNat v3) 61 (x1).toNat 0) 62 (x1).toNat 0) J5) (retV (fun I8 J9 => WP k LAY m_X6_measure 60 [(0, vR (some 54)), (1, vI x1), (3, vI 0)] [] (mem (P, some 5, some 22) I8 J9) Q) (P, some 5, some 22)))) (P, some 5, some 22))))) : WP k LAY m_X6_measure 0 [(0, vR (some 54)), (1, vI x1)] [] (mem (P, some 5, some 22) I J) Q := by
  refine st_aload_n (pc' := 1) dX6_measure_0 rfl rfl (j := 0) rfl ?_
  refine G_X6_40_54 dX6_measure_1 (pc' := 4) rfl rfl ?_
  refine st_iload_n (pc' := 5) dX6_measure_4 rfl rfl (j := 1) rfl ?_
  refine st_iconst (pc' := 6) dX6_measure_5 rfl ?_
  refine st_callV (pc' := 9) (kc := k - 1) (E' := LAY) (cal := m_X2_of) (n := 2) (as := [vI x1, vI 0]) (S := []) dX6_measure_6 rfl l_X6_93 k_X2_of rfl L_4 c_X2 rfl rfl (Nat.le_of_ble_eq_true rfl) (by omega) ⟨Nat.le_refl _, Nat.le_refl _, Nat.le_refl _, Nat.le_refl _⟩ (Q1 := fun r M' => WP k LAY m_X6_measure 9 [(0, vR (some 54)), (1, vI x1)] (r.toList ++ []) M' Q) (WPm.of k_X2_of.1 (Nat.le_of_ble_eq_true rfl) (B_X2_of_0 (by omega) ?_)) (fun r M' q => q)
  obtain ⟨e1, h⟩ := h
  refine ⟨e1, ?_⟩
  change WP _ LAY m_X6_measure 9 [(0, vR (some 54)), (1, vI x1)] [vI (gi I 19 ((3 + (x1 * 14)) + 0).toNat)] (mem (P, some 5, some 22) I J) Q
  refine st_istore_n (pc' := 10) (L' := [(2, vI (gi I 19 ((3 + (x1 * 14)) + 0).toNat)), (0, vR (some 54)), (1, vI x1)]) dX6_measure_9 rfl rfl (by decide) rfl ?_
  refine st_aload_n (pc' := 11) dX6_measure_10 rfl rfl (j := 1) rfl ?_
  refine G_X6_25_54 dX6_measure_11 (pc' := 14) rfl rfl ?_
  refine st_iload_n (pc' := 15) dX6_measure_14 rfl rfl (j := 2) rfl ?_
  refine st_aload_n (pc' := 16) dX6_measure_15 rfl rfl (j := 1) rfl ?_
  refine G_X6_44_54 dX6_measure_16 (pc' := 19) rfl rfl ?_
  refine st_iload_n (pc' := 20) dX6_measure_19 rfl rfl (j := 0) rfl ?_
  refine st_aload_n (pc' := 21) dX6_measure_20 rfl rfl (j := 1) rfl ?_
  refine G_X6_40_54 dX6_measure_21 (pc' := 24) rfl rfl ?_
  refine G_X6_61_4 dX6_measure_24 (pc' := 27) rfl rfl ?_
  refine G_X6_96_5 dX6_measure_27 (pc' := 30) rfl rfl ?_
  refine st_iload_n (pc' := 31) dX6_measure_30 rfl rfl (j := 0) rfl ?_
  obtain ⟨e2, h⟩ := h
  refine st_iaload (pc' := 32) (v := (gi I 15 (gi I 19 ((3 + (x1 * 14)) + 0).toNat).toNat)) dX6_measure_31 rfl L_15 (by decide) e2 (show gi I 15 (gi I 19 ((3 + (x1 * 14)) + 0).toNat).toNat = (gi I 15 (gi I 19 ((3 + (x1 * 14)) + 0).toNat).toNat) from rfl) ?_
  refine st_callV (pc' := 35) (kc := k - 1) (E' := LAY) (cal := m_X9_lightAt) (n := 2) (as := [vI (gi I 19 ((3 + (x1 * 14)) + 0).toNat), vI (gi I 15 (gi I 19 ((3 + (x1 * 14)) + 0).toNat).toNat)]) (S := [vI x1, vR (some 58)]) dX6_measure_32 rfl l_X6_99 k_X9_lightAt rfl L_36 c_X9 rfl rfl (Nat.le_of_ble_eq_true rfl) (by omega) ⟨Nat.le_refl _, Nat.le_refl _, Nat.le_refl _, Nat.le_refl _⟩ h (fun r M' q => ?_)
  obtain ⟨v3, I4, J5, rfl, rfl, h⟩ := q
  change WP _ LAY m_X6_measure 35 [(2, vI (gi I 19 ((3 + (x1 * 14)) + 0).toNat)), (0, vR (some 54)), (1, vI x1)] [vI v3, vI x1, vR (some 58)] (mem (P, some 5, some 22) I4 J5) Q
  obtain ⟨e6, h⟩ := h
  refine st_iastore (pc' := 36) (M' := (mem (P, some 5, some 22) (si I4 58 (x1).toNat v3) J5)) dX6_measure_35 rfl L_58 (by decide) e6 rfl ?_
  refine st_aload_n (pc' := 37) dX6_measure_36 rfl rfl (j := 1) rfl ?_
  refine G_X6_34_54 dX6_measure_37 (pc' := 40) rfl rfl ?_
  refine st_iload_n (pc' := 41) dX6_measure_40 rfl rfl (j := 2) rfl ?_
  refine st_iconst (pc' := 42) dX6_measure_41 rfl ?_
  refine st_iastore (pc' := 43) (M' := (mem (P, some 5, some 22) (si (si I4 58 (x1).toNat v3) 61 (x1).toNat 0) J5)) dX6_measure_42 rfl L_61 (by decide) e6 rfl ?_
  refine st_aload_n (pc' := 44) dX6_measure_43 rfl rfl (j := 1) rfl ?_
  refine G_X6_37_54 dX6_measure_44 (pc' := 47) rfl rfl ?_
  refine st_iload_n (pc' := 48) dX6_measure_47 rfl rfl (j := 2) rfl ?_
  refine st_iconst (pc' := 49) dX6_measure_48 rfl ?_
  refine st_iastore (pc' := 50) (M' := (mem (P, some 5, some 22) (si (si (si I4 58 (x1).toNat v3) 61 (x1).toNat 0) 62 (x1).toNat 0) J5)) dX6_measure_49 rfl L_62 (by decide) e6 rfl ?_
  refine st_aload_n (pc' := 51) dX6_measure_50 rfl rfl (j := 1) rfl ?_
  refine G_X6_44_54 dX6_measure_51 (pc' := 54) rfl rfl ?_
  refine st_iload_n (pc' := 55) dX6_measure_54 rfl rfl (j := 2) rfl ?_
  refine st_callV (pc' := 58) (kc := k - 1) (E' := LAY) (cal := m_X9_setNow) (n := 1) (as := [vI x1]) (S := []) dX6_measure_55 rfl l_X6_104 k_X9_setNow rfl L_36 c_X9 rfl rfl (Nat.le_of_ble_eq_true rfl) (by omega) ⟨Nat.le_refl _, Nat.le_refl _, Nat.le_refl _, Nat.le_refl _⟩ h (fun r M' q => ?_)
  obtain ⟨I8, J9, rfl, rfl, h⟩ := q
  change WP _ LAY m_X6_measure 58 [(2, vI (gi I 19 ((3 + (x1 * 14)) + 0).toNat)), (0, vR (some 54)), (1, vI x1)] [] (mem (P, some 5, some 22) I8 J9) Q
  refine st_iconst (pc' := 59) dX6_measure_58 rfl ?_
  refine st_istore_n (pc' := 60) (L' := [(3, vI 0), (2, vI (gi I 19 ((3 + (x1 * 14)) + 0).toNat)), (0, vR (some 54)), (1, vI x1)]) dX6_measure_59 rfl rfl (by decide) rfl ?_
  refine WP_sub (L' := [(0, vR (some 54)), (1, vI x1), (3, vI 0)]) [2, 3, 0] rfl ?_
  exact h
set_option maxRecDepth 20000 in
set_option maxHeartbeats 4000000 in
theorem B_X6_measure_60 {k : Nat} {P : Option Nat} {I : Nat → Nat → Int32} {J : Nat → Nat → Int64} {x1 : Int} {x3 : Int} {Q : Option AV → Mem → Prop} (hk : 1 ≤ k) (h : inR x3 ∧ (((gi I 6 1) ≤ x3 → (WP k LAY m_X6_measure 103 [(0, vR (some 54)), (1, vI x1), (3, vI 0)] [] (mem (P, some 5, some 22) I J) Q)) ∧ (¬ (gi I 6 1) ≤ x3 → (WPm (k - 1) LAY m_X9_pageMinutes [vR (some 36), vI x3] (mem (P, some 5, some 22) I J) (retI (fun v2 I3 J4 => (0 ≤ ((x1 * 14) + x3) ∧ ((x1 * 14) + x3) < 42) ∧ (WP k LAY m_X6_measure 60 [(0, vR (some 54)), (1, vI x1), (3, vI (x3 + 1))] [] (mem (P, some 5, some 22) (si I3 59 ((x1 * 14) + x3).toNat v2) J4) Q)) (P, some 5, some 22)))))) : WP k LAY m_X6_measure 60 [(0, vR (some 54)), (1, vI x1), (3, vI x3)] [] (mem (P, some 5, some 22) I J) Q := by
  refine st_iload_n (pc' := 61) dX6_measure_60 rfl rfl (j := 2) rfl ?_
  refine st_aload_n (pc' := 62) dX6_measure_61 rfl rfl (j := 0) rfl ?_
  refine G_X6_40_54 dX6_measure_62 (pc' := 65) rfl rfl ?_
  refine G_X6_61_4 dX6_measure_65 (pc' := 68) rfl rfl ?_
  refine G_X6_65_5 dX6_measure_68 (pc' := 71) rfl rfl ?_
  refine st_iconst (pc' := 72) dX6_measure_71 rfl ?_
  refine st_iaload (pc' := 73) (v := (gi I 6 1)) dX6_measure_72 rfl L_6 (by decide) (by decide) (show gi I 6 1 = (gi I 6 1) from rfl) ?_
  obtain ⟨e1, h⟩ := h
  refine st_icmp_ge (tg := 101) (pc' := 76) dX6_measure_73 (by decide) rfl e1 (gi_in _ _ _) (fun c => ?_) (fun c => ?_)
  · replace h := h.1 c
    refine st_iconst (pc' := 102) dX6_measure_101 rfl ?_
    refine st_istore_n (pc' := 103) (L' := [(3, vI 0), (0, vR (some 54)), (1, vI x1)]) dX6_measure_102 rfl rfl (by decide) rfl ?_
    refine WP_sub (L' := [(0, vR (some 54)), (1, vI x1), (3, vI 0)]) [1, 2, 0] rfl ?_
    exact h
  · replace h := h.2 c
    refine st_aload_n (pc' := 77) dX6_measure_76 rfl rfl (j := 0) rfl ?_
    refine G_X6_28_54 dX6_measure_77 (pc' := 80) rfl rfl ?_
    refine st_iload_n (pc' := 81) dX6_measure_80 rfl rfl (j := 1) rfl ?_
    refine st_bipush (pc' := 83) dX6_measure_81 rfl (by decide) ?_
    refine st_imul (pc' := 84) dX6_measure_83 rfl ?_
    refine st_iload_n (pc' := 85) dX6_measure_84 rfl rfl (j := 2) rfl ?_
    refine st_iadd (pc' := 86) dX6_measure_85 rfl ?_
    refine st_aload_n (pc' := 87) dX6_measure_86 rfl rfl (j := 0) rfl ?_
    refine G_X6_44_54 dX6_measure_87 (pc' := 90) rfl rfl ?_
    refine st_iload_n (pc' := 91) dX6_measure_90 rfl rfl (j := 2) rfl ?_
    refine st_callV (pc' := 94) (kc := k - 1) (E' := LAY) (cal := m_X9_pageMinutes) (n := 1) (as := [vI x3]) (S := [vI ((x1 * 14) + x3), vR (some 59)]) dX6_measure_91 rfl l_X6_107 k_X9_pageMinutes rfl L_36 c_X9 rfl rfl (Nat.le_of_ble_eq_true rfl) (by omega) ⟨Nat.le_refl _, Nat.le_refl _, Nat.le_refl _, Nat.le_refl _⟩ h (fun r M' q => ?_)
    obtain ⟨v2, I3, J4, rfl, rfl, h⟩ := q
    change WP _ LAY m_X6_measure 94 [(0, vR (some 54)), (1, vI x1), (3, vI x3)] [vI v2, vI ((x1 * 14) + x3), vR (some 59)] (mem (P, some 5, some 22) I3 J4) Q
    obtain ⟨e5, h⟩ := h
    refine st_iastore (pc' := 95) (M' := (mem (P, some 5, some 22) (si I3 59 ((x1 * 14) + x3).toNat v2) J4)) dX6_measure_94 rfl L_59 (by decide) e5 rfl ?_
    refine st_iinc (pc' := 98) (L' := [(3, vI (x3 + 1)), (0, vR (some 54)), (1, vI x1)]) (j := 2) dX6_measure_95 rfl (by decide) rfl rfl ?_
    refine st_goto (pc' := 60) dX6_measure_98 (by decide) ?_
    refine WP_sub (L' := [(0, vR (some 54)), (1, vI x1), (3, vI (x3 + 1))]) [1, 2, 0] rfl ?_
    exact h
set_option maxRecDepth 20000 in
set_option maxHeartbeats 4000000 in
theorem B_X6_measure_103 {k : Nat} {P : Option Nat} {I : Nat → Nat → Int32} {J : Nat → Nat → Int64} {x1 : Int} {x3 : Int} {Q : Option AV → Mem → Prop} (hk : 1 ≤ k) (h : inR x3 ∧ (((gi I 54 7) ≤ x3 → (Q none (mem (P, some 5, some 22) I J))) ∧ (¬ (gi I 54 7) ≤ x3 → ((0 ≤ x3 ∧ x3 < 8) ∧ (WPm (k - 1) LAY m_X8_pagesOf [vR (some 51), vI x1, vI (shl32 1 (gi I 55 (x3).toNat)), vI (-1)] (mem (P, some 5, some 22) I J) (retI (fun v3 I4 J5 => (0 ≤ ((x1 * 8) + x3) ∧ ((x1 * 8) + x3) < 24) ∧ (WP k LAY m_X6_measure 103 [(0, vR (some 54)), (1, vI x1), (3, vI (x3 + 1))] [] (mem (P, some 5, some 22) (si I4 60 ((x1 * 8) + x3).toNat v3) J5) Q)) (P, some 5, some 22))))))) : WP k LAY m_X6_measure 103 [(0, vR (some 54)), (1, vI x1), (3, vI x3)] [] (mem (P, some 5, some 22) I J) Q := by
  refine st_iload_n (pc' := 104) dX6_measure_103 rfl rfl (j := 2) rfl ?_
  refine st_aload_n (pc' := 105) dX6_measure_104 rfl rfl (j := 0) rfl ?_
  refine G_X6_52_54 dX6_measure_105 (pc' := 108) rfl rfl ?_
  obtain ⟨e1, h⟩ := h
  refine st_icmp_ge (tg := 145) (pc' := 111) dX6_measure_108 (by decide) rfl e1 (gi_in _ _ _) (fun c => ?_) (fun c => ?_)
  · replace h := h.1 c
    exact st_vret dX6_measure_145 rfl rfl h
  · replace h := h.2 c
    refine st_aload_n (pc' := 112) dX6_measure_111 rfl rfl (j := 0) rfl ?_
    refine G_X6_31_54 dX6_measure_112 (pc' := 115) rfl rfl ?_
    refine st_iload_n (pc' := 116) dX6_measure_115 rfl rfl (j := 1) rfl ?_
    refine st_bipush (pc' := 118) dX6_measure_116 rfl (by decide) ?_
    refine st_imul (pc' := 119) dX6_measure_118 rfl ?_
    refine st_iload_n (pc' := 120) dX6_measure_119 rfl rfl (j := 2) rfl ?_
    refine st_iadd (pc' := 121) dX6_measure_120 rfl ?_
    refine st_aload_n (pc' := 122) dX6_measure_121 rfl rfl (j := 0) rfl ?_
    refine G_X6_48_54 dX6_measure_122 (pc' := 125) rfl rfl ?_
    refine st_iload_n (pc' := 126) dX6_measure_125 rfl rfl (j := 1) rfl ?_
    refine st_iconst (pc' := 127) dX6_measure_126 rfl ?_
    refine st_aload_n (pc' := 128) dX6_measure_127 rfl rfl (j := 0) rfl ?_
    refine G_X6_15_54 dX6_measure_128 (pc' := 131) rfl rfl ?_
    refine st_iload_n (pc' := 132) dX6_measure_131 rfl rfl (j := 2) rfl ?_
    obtain ⟨e2, h⟩ := h
    refine st_iaload (pc' := 133) (v := (gi I 55 (x3).toNat)) dX6_measure_132 rfl L_55 (by decide) e2 (show gi I 55 (x3).toNat = (gi I 55 (x3).toNat) from rfl) ?_
    refine st_ishl (pc' := 134) (z := (shl32 1 (gi I 55 (x3).toNat))) dX6_measure_133 rfl rfl ?_
    refine st_iconst (pc' := 135) dX6_measure_134 rfl ?_
    refine st_callV (pc' := 138) (kc := k - 1) (E' := LAY) (cal := m_X8_pagesOf) (n := 3) (as := [vI x1, vI (shl32 1 (gi I 55 (x3).toNat)), vI (-1)]) (S := [vI ((x1 * 8) + x3), vR (some 60)]) dX6_measure_135 rfl l_X6_111 k_X8_pagesOf rfl L_51 c_X8 rfl rfl (Nat.le_of_ble_eq_true rfl) (by omega) ⟨Nat.le_refl _, Nat.le_refl _, Nat.le_refl _, Nat.le_refl _⟩ h (fun r M' q => ?_)
    obtain ⟨v3, I4, J5, rfl, rfl, h⟩ := q
    change WP _ LAY m_X6_measure 138 [(0, vR (some 54)), (1, vI x1), (3, vI x3)] [vI v3, vI ((x1 * 8) + x3), vR (some 60)] (mem (P, some 5, some 22) I4 J5) Q
    obtain ⟨e6, h⟩ := h
    refine st_iastore (pc' := 139) (M' := (mem (P, some 5, some 22) (si I4 60 ((x1 * 8) + x3).toNat v3) J5)) dX6_measure_138 rfl L_60 (by decide) e6 rfl ?_
    refine st_iinc (pc' := 142) (L' := [(3, vI (x3 + 1)), (0, vR (some 54)), (1, vI x1)]) (j := 2) dX6_measure_139 rfl (by decide) rfl rfl ?_
    refine st_goto (pc' := 103) dX6_measure_142 (by decide) ?_
    refine WP_sub (L' := [(0, vR (some 54)), (1, vI x1), (3, vI (x3 + 1))]) [1, 2, 0] rfl ?_
    exact h
set_option maxRecDepth 20000 in
set_option maxHeartbeats 4000000 in
theorem B_X6_minutesOf_0 {k : Nat} {P : Option Nat} {I : Nat → Nat → Int32} {J : Nat → Nat → Int64} {x1 : Int} {x2 : Int} {Q : Option AV → Mem → Prop} (hk : 0 ≤ k) (h : WP k LAY m_X6_minutesOf 5 [(0, vR (some 54)), (1, vI x1), (2, vI x2), (3, vI 0), (4, vI 0)] [] (mem (P, some 5, some 22) I J) Q) : WP k LAY m_X6_minutesOf 0 [(0, vR (some 54)), (1, vI x1), (2, vI x2)] [] (mem (P, some 5, some 22) I J) Q := by
  refine st_iconst (pc' := 1) dX6_minutesOf_0 rfl ?_
  refine st_istore_n (pc' := 2) (L' := [(3, vI 0), (0, vR (some 54)), (1, vI x1), (2, vI x2)]) dX6_minutesOf_1 rfl rfl (by decide) rfl ?_
  refine st_iconst (pc' := 3) dX6_minutesOf_2 rfl ?_
  refine st_istore (pc' := 5) (L' := [(4, vI 0), (3, vI 0), (0, vR (some 54)), (1, vI x1), (2, vI x2)]) dX6_minutesOf_3 rfl (by decide) rfl ?_
  refine WP_sub (L' := [(0, vR (some 54)), (1, vI x1), (2, vI x2), (3, vI 0), (4, vI 0)]) [2, 3, 4, 1, 0] rfl ?_
  exact h
set_option maxRecDepth 20000 in
set_option maxHeartbeats 4000000 in
theorem B_X6_minutesOf_5 {k : Nat} {P : Option Nat} {I : Nat → Nat → Int32} {J : Nat → Nat → Int64} {x1 : Int} {x2 : Int} {x3 : Int} {x4 : Int} {Q : Option AV → Mem → Prop} (hk : 0 ≤ k) (h : inR x4 ∧ (((gi I 6 1) ≤ x4 → (Q (some (vI x3)) (mem (P, some 5, some 22) I J))) ∧ (¬ (gi I 6 1) ≤ x4 → (((and32 x2 (shl32 1 x4)) = 0 → (WP k LAY m_X6_minutesOf 5 [(0, vR (some 54)), (1, vI x1), (2, vI x2), (3, vI x3), (4, vI (x4 + 1))] [] (mem (P, some 5, some 22) I J) Q)) ∧ (¬ (and32 x2 (shl32 1 x4)) = 0 → ((0 ≤ ((x1 * 14) + x4) ∧ ((x1 * 14) + x4) < 42) ∧ (WP k LAY m_X6_minutesOf 5 [(0, vR (some 54)), (1, vI x1), (2, vI x2), (3, vI (x3 + (gi I 59 ((x1 * 14) + x4).toNat))), (4, vI (x4 + 1))] [] (mem (P, some 5, some 22) I J) Q))))))) : WP k LAY m_X6_minutesOf 5 [(0, vR (some 54)), (1, vI x1), (2, vI x2), (3, vI x3), (4, vI x4)] [] (mem (P, some 5, some 22) I J) Q := by
  refine st_iload (pc' := 7) dX6_minutesOf_5 rfl (j := 4) rfl ?_
  refine st_aload_n (pc' := 8) dX6_minutesOf_7 rfl rfl (j := 0) rfl ?_
  refine G_X6_40_54 dX6_minutesOf_8 (pc' := 11) rfl rfl ?_
  refine G_X6_61_4 dX6_minutesOf_11 (pc' := 14) rfl rfl ?_
  refine G_X6_65_5 dX6_minutesOf_14 (pc' := 17) rfl rfl ?_
  refine st_iconst (pc' := 18) dX6_minutesOf_17 rfl ?_
  refine st_iaload (pc' := 19) (v := (gi I 6 1)) dX6_minutesOf_18 rfl L_6 (by decide) (by decide) (show gi I 6 1 = (gi I 6 1) from rfl) ?_
  obtain ⟨e1, h⟩ := h
  refine st_icmp_ge (tg := 52) (pc' := 22) dX6_minutesOf_19 (by decide) rfl e1 (gi_in _ _ _) (fun c => ?_) (fun c => ?_)
  · replace h := h.1 c
    refine st_iload_n (pc' := 53) dX6_minutesOf_52 rfl rfl (j := 3) rfl ?_
    exact st_iret (ty := .int) dX6_minutesOf_53 rfl rfl rfl h
  · replace h := h.2 c
    refine st_iload_n (pc' := 23) dX6_minutesOf_22 rfl rfl (j := 2) rfl ?_
    refine st_iconst (pc' := 24) dX6_minutesOf_23 rfl ?_
    refine st_iload (pc' := 26) dX6_minutesOf_24 rfl (j := 4) rfl ?_
    refine st_ishl (pc' := 27) (z := (shl32 1 x4)) dX6_minutesOf_26 rfl rfl ?_
    refine st_iand (pc' := 28) (z := (and32 x2 (shl32 1 x4))) dX6_minutesOf_27 rfl rfl ?_
    refine st_if_eq (tg := 46) (pc' := 31) dX6_minutesOf_28 (by decide) rfl (and32_in _ _) (fun c => ?_) (fun c => ?_)
    · replace h := h.1 c
      refine st_iinc (pc' := 49) (L' := [(4, vI (x4 + 1)), (0, vR (some 54)), (1, vI x1), (2, vI x2), (3, vI x3)]) (j := 4) dX6_minutesOf_46 rfl (by decide) rfl rfl ?_
      refine st_goto (pc' := 5) dX6_minutesOf_49 (by decide) ?_
      refine WP_sub (L' := [(0, vR (some 54)), (1, vI x1), (2, vI x2), (3, vI x3), (4, vI (x4 + 1))]) [1, 2, 3, 4, 0] rfl ?_
      exact h
    · replace h := h.2 c
      refine st_iload_n (pc' := 32) dX6_minutesOf_31 rfl rfl (j := 3) rfl ?_
      refine st_aload_n (pc' := 33) dX6_minutesOf_32 rfl rfl (j := 0) rfl ?_
      refine G_X6_28_54 dX6_minutesOf_33 (pc' := 36) rfl rfl ?_
      refine st_iload_n (pc' := 37) dX6_minutesOf_36 rfl rfl (j := 1) rfl ?_
      refine st_bipush (pc' := 39) dX6_minutesOf_37 rfl (by decide) ?_
      refine st_imul (pc' := 40) dX6_minutesOf_39 rfl ?_
      refine st_iload (pc' := 42) dX6_minutesOf_40 rfl (j := 4) rfl ?_
      refine st_iadd (pc' := 43) dX6_minutesOf_42 rfl ?_
      obtain ⟨e2, h⟩ := h
      refine st_iaload (pc' := 44) (v := (gi I 59 ((x1 * 14) + x4).toNat)) dX6_minutesOf_43 rfl L_59 (by decide) e2 (show gi I 59 ((x1 * 14) + x4).toNat = (gi I 59 ((x1 * 14) + x4).toNat) from rfl) ?_
      refine st_iadd (pc' := 45) dX6_minutesOf_44 rfl ?_
      refine st_istore_n (pc' := 46) (L' := [(3, vI (x3 + (gi I 59 ((x1 * 14) + x4).toNat))), (0, vR (some 54)), (1, vI x1), (2, vI x2), (4, vI x4)]) dX6_minutesOf_45 rfl rfl (by decide) rfl ?_
      refine st_iinc (pc' := 49) (L' := [(4, vI (x4 + 1)), (3, vI (x3 + (gi I 59 ((x1 * 14) + x4).toNat))), (0, vR (some 54)), (1, vI x1), (2, vI x2)]) (j := 4) dX6_minutesOf_46 rfl (by decide) rfl rfl ?_
      refine st_goto (pc' := 5) dX6_minutesOf_49 (by decide) ?_
      refine WP_sub (L' := [(0, vR (some 54)), (1, vI x1), (2, vI x2), (3, vI (x3 + (gi I 59 ((x1 * 14) + x4).toNat))), (4, vI (x4 + 1))]) [2, 3, 4, 1, 0] rfl ?_
      exact h
set_option maxRecDepth 20000 in
set_option maxHeartbeats 4000000 in
theorem B_X6_isNoBetter_0 {k : Nat} {P : Option Nat} {I : Nat → Nat → Int32} {J : Nat → Nat → Int64} {x1 : Int} {x2 : Int} {Q : Option AV → Mem → Prop} (hk : 0 ≤ k) (h : ((gi I 54 3) = (-1) → (Q (some (vI 0)) (mem (P, some 5, some 22) I J))) ∧ (¬ (gi I 54 3) = (-1) → (inR x1 ∧ (((gi I 54 3) < x1 → (Q (some (vI 1)) (mem (P, some 5, some 22) I J))) ∧ (¬ (gi I 54 3) < x1 → ((¬ x1 = (gi I 54 3) → (Q (some (vI 0)) (mem (P, some 5, some 22) I J))) ∧ (x1 = (gi I 54 3) → (inR x2 ∧ ((x2 < (gi I 54 4) → (Q (some (vI 0)) (mem (P, some 5, some 22) I J))) ∧ (¬ x2 < (gi I 54 4) → (Q (some (vI 1)) (mem (P, some 5, some 22) I J)))))))))))) : WP k LAY m_X6_isNoBetter 0 [(0, vR (some 54)), (1, vI x1), (2, vI x2)] [] (mem (P, some 5, some 22) I J) Q := by
  refine st_aload_n (pc' := 1) dX6_isNoBetter_0 rfl rfl (j := 0) rfl ?_
  refine G_X6_83_54 dX6_isNoBetter_1 (pc' := 4) rfl rfl ?_
  refine st_iconst (pc' := 5) dX6_isNoBetter_4 rfl ?_
  refine st_icmp_eq (tg := 36) (pc' := 8) dX6_isNoBetter_5 (by decide) rfl (gi_in _ _ _) (by decide) (fun c => ?_) (fun c => ?_)
  · replace h := h.1 c
    refine st_iconst (pc' := 37) dX6_isNoBetter_36 rfl ?_
    exact st_iret (ty := .boolean) dX6_isNoBetter_37 rfl (by decide) rfl h
  · replace h := h.2 c
    refine st_iload_n (pc' := 9) dX6_isNoBetter_8 rfl rfl (j := 1) rfl ?_
    refine st_aload_n (pc' := 10) dX6_isNoBetter_9 rfl rfl (j := 0) rfl ?_
    refine G_X6_83_54 dX6_isNoBetter_10 (pc' := 13) rfl rfl ?_
    obtain ⟨e1, h⟩ := h
    refine st_icmp_gt (tg := 32) (pc' := 16) dX6_isNoBetter_13 (by decide) rfl e1 (gi_in _ _ _) (fun c => ?_) (fun c => ?_)
    · replace h := h.1 c
      refine st_iconst (pc' := 33) dX6_isNoBetter_32 rfl ?_
      refine st_goto (pc' := 37) dX6_isNoBetter_33 (by decide) ?_
      exact st_iret (ty := .boolean) dX6_isNoBetter_37 rfl (by decide) rfl h
    · replace h := h.2 c
      refine st_iload_n (pc' := 17) dX6_isNoBetter_16 rfl rfl (j := 1) rfl ?_
      refine st_aload_n (pc' := 18) dX6_isNoBetter_17 rfl rfl (j := 0) rfl ?_
      refine G_X6_83_54 dX6_isNoBetter_18 (pc' := 21) rfl rfl ?_
      refine st_icmp_ne (tg := 36) (pc' := 24) dX6_isNoBetter_21 (by decide) rfl e1 (gi_in _ _ _) (fun c => ?_) (fun c => ?_)
      · replace h := h.1 c
        refine st_iconst (pc' := 37) dX6_isNoBetter_36 rfl ?_
        exact st_iret (ty := .boolean) dX6_isNoBetter_37 rfl (by decide) rfl h
      · replace h := h.2 c
        refine st_iload_n (pc' := 25) dX6_isNoBetter_24 rfl rfl (j := 2) rfl ?_
        refine st_aload_n (pc' := 26) dX6_isNoBetter_25 rfl rfl (j := 0) rfl ?_
        refine G_X6_86_54 dX6_isNoBetter_26 (pc' := 29) rfl rfl ?_
        obtain ⟨e2, h⟩ := h
        refine st_icmp_lt (tg := 36) (pc' := 32) dX6_isNoBetter_29 (by decide) rfl e2 (gi_in _ _ _) (fun c => ?_) (fun c => ?_)
        · replace h := h.1 c
          refine st_iconst (pc' := 37) dX6_isNoBetter_36 rfl ?_
          exact st_iret (ty := .boolean) dX6_isNoBetter_37 rfl (by decide) rfl h
        · replace h := h.2 c
          refine st_iconst (pc' := 33) dX6_isNoBetter_32 rfl ?_
          refine st_goto (pc' := 37) dX6_isNoBetter_33 (by decide) ?_
          exact st_iret (ty := .boolean) dX6_isNoBetter_37 rfl (by decide) rfl h
set_option maxRecDepth 20000 in
set_option maxHeartbeats 4000000 in
theorem B_X6_take_0 {k : Nat} {P : Option Nat} {I : Nat → Nat → Int32} {J : Nat → Nat → Int64} {x1 : Int} {x2 : Int} {Q : Option AV → Mem → Prop} (hk : 1 ≤ k) (h : Q none (mem (P, some 5, some 22) (fc (si (si I 54 3 x1) 54 4 x2) 56 0 57 0 8) J)) : WP k LAY m_X6_take 0 [(0, vR (some 54)), (1, vI x1), (2, vI x2)] [] (mem (P, some 5, some 22) I J) Q := by
  refine st_aload_n (pc' := 1) dX6_take_0 rfl rfl (j := 0) rfl ?_
  refine st_iload_n (pc' := 2) dX6_take_1 rfl rfl (j := 1) rfl ?_
  refine P_X6_83_54 dX6_take_2 (pc' := 5) rfl rfl ?_
  refine st_aload_n (pc' := 6) dX6_take_5 rfl rfl (j := 0) rfl ?_
  refine st_iload_n (pc' := 7) dX6_take_6 rfl rfl (j := 2) rfl ?_
  refine P_X6_86_54 dX6_take_7 (pc' := 10) rfl rfl ?_
  refine st_aload_n (pc' := 11) dX6_take_10 rfl rfl (j := 0) rfl ?_
  refine G_X6_19_54 dX6_take_11 (pc' := 14) rfl rfl ?_
  refine st_iconst (pc' := 15) dX6_take_14 rfl ?_
  refine st_aload_n (pc' := 16) dX6_take_15 rfl rfl (j := 0) rfl ?_
  refine G_X6_22_54 dX6_take_16 (pc' := 19) rfl rfl ?_
  refine st_iconst (pc' := 20) dX6_take_19 rfl ?_
  refine st_bipush (pc' := 22) dX6_take_20 rfl (by decide) ?_
  refine st_copy (pc' := 25) (M' := (mem (P, some 5, some 22) (fc (si (si I 54 3 x1) 54 4 x2) 56 0 57 0 8) J)) dX6_take_22 rfl l_X6_134 a_copy L_56 L_57 (by decide) (by decide) (by decide) (by decide) (by omega) (Nat.le_of_ble_eq_true rfl) rfl ?_
  exact st_vret dX6_take_25 rfl rfl h
set_option maxRecDepth 20000 in
set_option maxHeartbeats 4000000 in
theorem B_X6_share_0 {k : Nat} {P : Option Nat} {I : Nat → Nat → Int32} {J : Nat → Nat → Int64} {x1 : Int} {x2 : Int} {x3 : Int} {Q : Option AV → Mem → Prop} (hk : 2 ≤ k) (h : ((gi I 54 3) = (-1) → (inR x1 ∧ ((x1 < (gi I 54 7) → (WP k LAY m_X6_share 28 [(0, vR (some 54)), (1, vI x1), (2, vI x2), (3, vI x3), (4, vI 0)] [] (mem (P, some 5, some 22) I J) Q)) ∧ (¬ x1 < (gi I 54 7) → (Q none (mem (P, some 5, some 22) (fc (si (si I 54 3 x2) 54 4 x3) 56 0 57 0 8) J)))))) ∧ (¬ (gi I 54 3) = (-1) → (inR x2 ∧ (((gi I 54 3) < x2 → (Q none (mem (P, some 5, some 22) I J))) ∧ (¬ (gi I 54 3) < x2 → ((¬ x2 = (gi I 54 3) → (inR x1 ∧ ((x1 < (gi I 54 7) → (WP k LAY m_X6_share 28 [(0, vR (some 54)), (1, vI x1), (2, vI x2), (3, vI x3), (4, vI 0)] [] (mem (P, some 5, some 22) I J) Q)) ∧ (¬ x1 < (gi I 54 7) → (Q none (mem (P, some 5, some 22) (fc (si (si I 54 3 x2) 54 4 x3) 56 0 57 0 8) J)))))) ∧ (x2 = (gi I 54 3) → (inR x3 ∧ ((x3 < (gi I 54 4) → (inR x1 ∧ ((x1 < (gi I 54 7) → (WP k LAY m_X6_share 28 [(0, vR (some 54)), (1, vI x1), (2, vI x2), (3, vI x3), (4, vI 0)] [] (mem (P, some 5, some 22) I J) Q)) ∧ (¬ x1 < (gi I 54 7) → (Q none (mem (P, some 5, some 22) (fc (si (si I 54 3 x2) 54 4 x3) 56 0 57 0 8) J)))))) ∧ (¬ x3 < (gi I 54 4) → (Q none (mem (P, some 5, some 22) I J)))))))))))) : WP k LAY m_X6_share 0 [(0, vR (some 54)), (1, vI x1), (2, vI x2), (3, vI x3)] [] (mem (P, some 5, some 22) I J) Q := by
  refine st_aload_n (pc' := 1) dX6_share_0 rfl rfl (j := 0) rfl ?_
  refine st_iload_n (pc' := 2) dX6_share_1 rfl rfl (j := 2) rfl ?_
  refine st_iload_n (pc' := 3) dX6_share_2 rfl rfl (j := 3) rfl ?_
  refine st_callV (pc' := 6) (kc := k - 1) (E' := LAY) (cal := m_X6_isNoBetter) (n := 2) (as := [vI x2, vI x3]) (S := []) dX6_share_3 rfl l_X6_117 k_X6_isNoBetter rfl L_54 c_X6 rfl rfl (Nat.le_of_ble_eq_true rfl) (by omega) ⟨Nat.le_refl _, Nat.le_refl _, Nat.le_refl _, Nat.le_refl _⟩ (Q1 := fun r M' => WP k LAY m_X6_share 6 [(0, vR (some 54)), (1, vI x1), (2, vI x2), (3, vI x3)] (r.toList ++ []) M' Q) (WPm.of k_X6_isNoBetter.1 (Nat.le_of_ble_eq_true rfl) (B_X6_isNoBetter_0 (by omega) ?_)) (fun r M' q => q)
  refine ⟨fun c => ?_, fun c => ?_⟩
  · replace h := h.1 c
    change WP _ LAY m_X6_share 6 [(0, vR (some 54)), (1, vI x1), (2, vI x2), (3, vI x3)] [vI 0] (mem (P, some 5, some 22) I J) Q
    refine st_if_eq (tg := 10) (pc' := 9) dX6_share_6 (by decide) rfl (by decide) (fun c => ?_) (fun c => ?_)
    · refine st_iload_n (pc' := 11) dX6_share_10 rfl rfl (j := 1) rfl ?_
      refine st_aload_n (pc' := 12) dX6_share_11 rfl rfl (j := 0) rfl ?_
      refine G_X6_52_54 dX6_share_12 (pc' := 15) rfl rfl ?_
      obtain ⟨e1, h⟩ := h
      refine st_icmp_lt (tg := 25) (pc' := 18) dX6_share_15 (by decide) rfl e1 (gi_in _ _ _) (fun c => ?_) (fun c => ?_)
      · replace h := h.1 c
        refine st_iconst (pc' := 26) dX6_share_25 rfl ?_
        refine st_istore (pc' := 28) (L' := [(4, vI 0), (0, vR (some 54)), (1, vI x1), (2, vI x2), (3, vI x3)]) dX6_share_26 rfl (by decide) rfl ?_
        refine WP_sub (L' := [(0, vR (some 54)), (1, vI x1), (2, vI x2), (3, vI x3), (4, vI 0)]) [1, 2, 3, 4, 0] rfl ?_
        exact h
      · replace h := h.2 c
        refine st_aload_n (pc' := 19) dX6_share_18 rfl rfl (j := 0) rfl ?_
        refine st_iload_n (pc' := 20) dX6_share_19 rfl rfl (j := 2) rfl ?_
        refine st_iload_n (pc' := 21) dX6_share_20 rfl rfl (j := 3) rfl ?_
        refine st_callV (pc' := 24) (kc := k - 1) (E' := LAY) (cal := m_X6_take) (n := 2) (as := [vI x2, vI x3]) (S := []) dX6_share_21 rfl l_X6_121 k_X6_take rfl L_54 c_X6 rfl rfl (Nat.le_of_ble_eq_true rfl) (by omega) ⟨Nat.le_refl _, Nat.le_refl _, Nat.le_refl _, Nat.le_refl _⟩ (Q1 := fun r M' => WP k LAY m_X6_share 24 [(0, vR (some 54)), (1, vI x1), (2, vI x2), (3, vI x3)] (r.toList ++ []) M' Q) (WPm.of k_X6_take.1 (Nat.le_of_ble_eq_true rfl) (B_X6_take_0 (by omega) ?_)) (fun r M' q => q)
        change WP _ LAY m_X6_share 24 [(0, vR (some 54)), (1, vI x1), (2, vI x2), (3, vI x3)] [] (mem (P, some 5, some 22) (fc (si (si I 54 3 x2) 54 4 x3) 56 0 57 0 8) J) Q
        exact st_vret dX6_share_24 rfl rfl h
    · exact absurd c (by decide)
  · replace h := h.2 c
    obtain ⟨e2, h⟩ := h
    refine ⟨e2, ?_⟩
    refine ⟨fun c => ?_, fun c => ?_⟩
    · replace h := h.1 c
      change WP _ LAY m_X6_share 6 [(0, vR (some 54)), (1, vI x1), (2, vI x2), (3, vI x3)] [vI 1] (mem (P, some 5, some 22) I J) Q
      refine st_if_eq (tg := 10) (pc' := 9) dX6_share_6 (by decide) rfl (by decide) (fun c => ?_) (fun c => ?_)
      · exact absurd c (by decide)
      · exact st_vret dX6_share_9 rfl rfl h
    · replace h := h.2 c
      refine ⟨fun c => ?_, fun c => ?_⟩
      · replace h := h.1 c
        change WP _ LAY m_X6_share 6 [(0, vR (some 54)), (1, vI x1), (2, vI x2), (3, vI x3)] [vI 0] (mem (P, some 5, some 22) I J) Q
        refine st_if_eq (tg := 10) (pc' := 9) dX6_share_6 (by decide) rfl (by decide) (fun c => ?_) (fun c => ?_)
        · refine st_iload_n (pc' := 11) dX6_share_10 rfl rfl (j := 1) rfl ?_
          refine st_aload_n (pc' := 12) dX6_share_11 rfl rfl (j := 0) rfl ?_
          refine G_X6_52_54 dX6_share_12 (pc' := 15) rfl rfl ?_
          obtain ⟨e3, h⟩ := h
          refine st_icmp_lt (tg := 25) (pc' := 18) dX6_share_15 (by decide) rfl e3 (gi_in _ _ _) (fun c => ?_) (fun c => ?_)
          · replace h := h.1 c
            refine st_iconst (pc' := 26) dX6_share_25 rfl ?_
            refine st_istore (pc' := 28) (L' := [(4, vI 0), (0, vR (some 54)), (1, vI x1), (2, vI x2), (3, vI x3)]) dX6_share_26 rfl (by decide) rfl ?_
            refine WP_sub (L' := [(0, vR (some 54)), (1, vI x1), (2, vI x2), (3, vI x3), (4, vI 0)]) [1, 2, 3, 4, 0] rfl ?_
            exact h
          · replace h := h.2 c
            refine st_aload_n (pc' := 19) dX6_share_18 rfl rfl (j := 0) rfl ?_
            refine st_iload_n (pc' := 20) dX6_share_19 rfl rfl (j := 2) rfl ?_
            refine st_iload_n (pc' := 21) dX6_share_20 rfl rfl (j := 3) rfl ?_
            refine st_callV (pc' := 24) (kc := k - 1) (E' := LAY) (cal := m_X6_take) (n := 2) (as := [vI x2, vI x3]) (S := []) dX6_share_21 rfl l_X6_121 k_X6_take rfl L_54 c_X6 rfl rfl (Nat.le_of_ble_eq_true rfl) (by omega) ⟨Nat.le_refl _, Nat.le_refl _, Nat.le_refl _, Nat.le_refl _⟩ (Q1 := fun r M' => WP k LAY m_X6_share 24 [(0, vR (some 54)), (1, vI x1), (2, vI x2), (3, vI x3)] (r.toList ++ []) M' Q) (WPm.of k_X6_take.1 (Nat.le_of_ble_eq_true rfl) (B_X6_take_0 (by omega) ?_)) (fun r M' q => q)
            change WP _ LAY m_X6_share 24 [(0, vR (some 54)), (1, vI x1), (2, vI x2), (3, vI x3)] [] (mem (P, some 5, some 22) (fc (si (si I 54 3 x2) 54 4 x3) 56 0 57 0 8) J) Q
            exact st_vret dX6_share_24 rfl rfl h
        · exact absurd c (by decide)
      · replace h := h.2 c
        obtain ⟨e4, h⟩ := h
        refine ⟨e4, ?_⟩
        refine ⟨fun c => ?_, fun c => ?_⟩
        · replace h := h.1 c
          change WP _ LAY m_X6_share 6 [(0, vR (some 54)), (1, vI x1), (2, vI x2), (3, vI x3)] [vI 0] (mem (P, some 5, some 22) I J) Q
          refine st_if_eq (tg := 10) (pc' := 9) dX6_share_6 (by decide) rfl (by decide) (fun c => ?_) (fun c => ?_)
          · refine st_iload_n (pc' := 11) dX6_share_10 rfl rfl (j := 1) rfl ?_
            refine st_aload_n (pc' := 12) dX6_share_11 rfl rfl (j := 0) rfl ?_
            refine G_X6_52_54 dX6_share_12 (pc' := 15) rfl rfl ?_
            obtain ⟨e5, h⟩ := h
            refine st_icmp_lt (tg := 25) (pc' := 18) dX6_share_15 (by decide) rfl e5 (gi_in _ _ _) (fun c => ?_) (fun c => ?_)
            · replace h := h.1 c
              refine st_iconst (pc' := 26) dX6_share_25 rfl ?_
              refine st_istore (pc' := 28) (L' := [(4, vI 0), (0, vR (some 54)), (1, vI x1), (2, vI x2), (3, vI x3)]) dX6_share_26 rfl (by decide) rfl ?_
              refine WP_sub (L' := [(0, vR (some 54)), (1, vI x1), (2, vI x2), (3, vI x3), (4, vI 0)]) [1, 2, 3, 4, 0] rfl ?_
              exact h
            · replace h := h.2 c
              refine st_aload_n (pc' := 19) dX6_share_18 rfl rfl (j := 0) rfl ?_
              refine st_iload_n (pc' := 20) dX6_share_19 rfl rfl (j := 2) rfl ?_
              refine st_iload_n (pc' := 21) dX6_share_20 rfl rfl (j := 3) rfl ?_
              refine st_callV (pc' := 24) (kc := k - 1) (E' := LAY) (cal := m_X6_take) (n := 2) (as := [vI x2, vI x3]) (S := []) dX6_share_21 rfl l_X6_121 k_X6_take rfl L_54 c_X6 rfl rfl (Nat.le_of_ble_eq_true rfl) (by omega) ⟨Nat.le_refl _, Nat.le_refl _, Nat.le_refl _, Nat.le_refl _⟩ (Q1 := fun r M' => WP k LAY m_X6_share 24 [(0, vR (some 54)), (1, vI x1), (2, vI x2), (3, vI x3)] (r.toList ++ []) M' Q) (WPm.of k_X6_take.1 (Nat.le_of_ble_eq_true rfl) (B_X6_take_0 (by omega) ?_)) (fun r M' q => q)
              change WP _ LAY m_X6_share 24 [(0, vR (some 54)), (1, vI x1), (2, vI x2), (3, vI x3)] [] (mem (P, some 5, some 22) (fc (si (si I 54 3 x2) 54 4 x3) 56 0 57 0 8) J) Q
              exact st_vret dX6_share_24 rfl rfl h
          · exact absurd c (by decide)
        · replace h := h.2 c
          change WP _ LAY m_X6_share 6 [(0, vR (some 54)), (1, vI x1), (2, vI x2), (3, vI x3)] [vI 1] (mem (P, some 5, some 22) I J) Q
          refine st_if_eq (tg := 10) (pc' := 9) dX6_share_6 (by decide) rfl (by decide) (fun c => ?_) (fun c => ?_)
          · exact absurd c (by decide)
          · exact st_vret dX6_share_9 rfl rfl h
set_option maxRecDepth 20000 in
set_option maxHeartbeats 4000000 in
theorem B_X6_share_28 {k : Nat} {P : Option Nat} {I : Nat → Nat → Int32} {J : Nat → Nat → Int64} {x1 : Int} {x2 : Int} {x3 : Int} {x4 : Int} {Q : Option AV → Mem → Prop} (hk : 1 ≤ k) (h : inR x4 ∧ (((gi I 54 8) ≤ x4 → (Q none (mem (P, some 5, some 22) I J))) ∧ (¬ (gi I 54 8) ≤ x4 → ((0 ≤ x4 ∧ x4 < 3) ∧ ((0 ≤ ((x4 * 8) + x1) ∧ ((x4 * 8) + x1) < 24) ∧ (∀ y4 : Int, y4 = (and32 (gi I 60 (((x4 * 8) + x1) : Int).toNat) (xor32 (gi I 61 (x4).toNat) (-1))) → (WPm (k - 1) LAY m_X6_minutesOf [vR (some 54), vI x4, vI y4] (mem (P, some 5, some 22) I J) (retI (fun v5 I6 J7 => inR ((gi I 62 (x4).toNat) + v5) ∧ ((¬ ((gi I 62 (x4).toNat) + v5) = 0 → (((gi I6 58 (x4).toNat) ≤ 0 → (WP k LAY m_X6_share 28 [(0, vR (some 54)), (1, vI x1), (2, vI x2), (3, vI x3), (4, vI (x4 + 1))] [] (mem (P, some 5, some 22) I6 J7) Q)) ∧ (¬ (gi I6 58 (x4).toNat) ≤ 0 → (¬ (gi I6 58 (x4).toNat) = 0 ∧ (∀ y10 : Int, y10 = (div32 ((((gi I 62 (x4).toNat) + v5) + (gi I6 58 (x4).toNat)) - 1) (gi I6 58 (x4).toNat)) → ((y10 = (-1) → (WP k LAY m_X6_share 28 [(0, vR (some 54)), (1, vI x1), (2, vI x2), (3, vI x3), (4, vI (x4 + 1))] [] (mem (P, some 5, some 22) I6 J7) Q)) ∧ (¬ y10 = (-1) → ((0 ≤ x1 ∧ x1 < 8) ∧ (inR x2 ∧ (WPm (k - 1) LAY m_X6_share [vR (some 54), vI (x1 + 1), vI (max x2 y10), vI (x3 + v5)] (mem (P, some 5, some 22) (si (si (si I6 56 (x1).toNat x4) 61 (x4).toNat (or32 (gi I 61 (x4).toNat) y4)) 62 (x4).toNat ((gi I 62 (x4).toNat) + v5)) J7) (retV (fun I14 J15 => WP k LAY m_X6_share 28 [(0, vR (some 54)), (1, vI x1), (2, vI x2), (3, vI x3), (4, vI (x4 + 1))] [] (mem (P, some 5, some 22) (si (si I14 61 (x4).toNat (gi I 61 (x4).toNat)) 62 (x4).toNat (gi I 62 (x4).toNat)) J15) Q) (P, some 5, some 22)))))))))))) ∧ (((gi I 62 (x4).toNat) + v5) = 0 → ((0 ≤ x1 ∧ x1 < 8) ∧ (inR x2 ∧ (WPm (k - 1) LAY m_X6_share [vR (some 54), vI (x1 + 1), vI (max x2 0), vI (x3 + v5)] (mem (P, some 5, some 22) (si (si (si I6 56 (x1).toNat x4) 61 (x4).toNat (or32 (gi I 61 (x4).toNat) y4)) 62 (x4).toNat ((gi I 62 (x4).toNat) + v5)) J7) (retV (fun I19 J20 => WP k LAY m_X6_share 28 [(0, vR (some 54)), (1, vI x1), (2, vI x2), (3, vI x3), (4, vI (x4 + 1))] [] (mem (P, some 5, some 22) (si (si I19 61 (x4).toNat (gi I 61 (x4).toNat)) 62 (x4).toNat (gi I 62 (x4).toNat)) J20) Q) (P, some 5, some 22)))))))) (P, some 5, some 22))))))))) : WP k LAY m_X6_share 28 [(0, vR (some 54)), (1, vI x1), (2, vI x2), (3, vI x3), (4, vI x4)] [] (mem (P, some 5, some 22) I J) Q := by
  refine st_iload (pc' := 30) dX6_share_28 rfl (j := 4) rfl ?_
  refine st_aload_n (pc' := 31) dX6_share_30 rfl rfl (j := 0) rfl ?_
  refine G_X6_76_54 dX6_share_31 (pc' := 34) rfl rfl ?_
  obtain ⟨e1, h⟩ := h
  refine st_icmp_ge (tg := 180) (pc' := 37) dX6_share_34 (by decide) rfl e1 (gi_in _ _ _) (fun c => ?_) (fun c => ?_)
  · replace h := h.1 c
    exact st_vret dX6_share_180 rfl rfl h
  · replace h := h.2 c
    refine st_aload_n (pc' := 38) dX6_share_37 rfl rfl (j := 0) rfl ?_
    refine G_X6_34_54 dX6_share_38 (pc' := 41) rfl rfl ?_
    refine st_iload (pc' := 43) dX6_share_41 rfl (j := 4) rfl ?_
    obtain ⟨e2, h⟩ := h
    refine st_iaload (pc' := 44) (v := (gi I 61 (x4).toNat)) dX6_share_43 rfl L_61 (by decide) e2 (show gi I 61 (x4).toNat = (gi I 61 (x4).toNat) from rfl) ?_
    refine st_istore (pc' := 46) (L' := [(5, vI (gi I 61 (x4).toNat)), (0, vR (some 54)), (1, vI x1), (2, vI x2), (3, vI x3), (4, vI x4)]) dX6_share_44 rfl (by decide) rfl ?_
    refine st_aload_n (pc' := 47) dX6_share_46 rfl rfl (j := 1) rfl ?_
    refine G_X6_37_54 dX6_share_47 (pc' := 50) rfl rfl ?_
    refine st_iload (pc' := 52) dX6_share_50 rfl (j := 5) rfl ?_
    refine st_iaload (pc' := 53) (v := (gi I 62 (x4).toNat)) dX6_share_52 rfl L_62 (by decide) e2 (show gi I 62 (x4).toNat = (gi I 62 (x4).toNat) from rfl) ?_
    refine st_istore (pc' := 55) (L' := [(6, vI (gi I 62 (x4).toNat)), (5, vI (gi I 61 (x4).toNat)), (0, vR (some 54)), (1, vI x1), (2, vI x2), (3, vI x3), (4, vI x4)]) dX6_share_53 rfl (by decide) rfl ?_
    refine st_aload_n (pc' := 56) dX6_share_55 rfl rfl (j := 2) rfl ?_
    refine G_X6_31_54 dX6_share_56 (pc' := 59) rfl rfl ?_
    refine st_iload (pc' := 61) dX6_share_59 rfl (j := 6) rfl ?_
    refine st_bipush (pc' := 63) dX6_share_61 rfl (by decide) ?_
    refine st_imul (pc' := 64) dX6_share_63 rfl ?_
    refine st_iload_n (pc' := 65) dX6_share_64 rfl rfl (j := 3) rfl ?_
    refine st_iadd (pc' := 66) dX6_share_65 rfl ?_
    obtain ⟨e3, h⟩ := h
    refine st_iaload (pc' := 67) (v := (gi I 60 (((x4 * 8) + x1) : Int).toNat)) dX6_share_66 rfl L_60 (by decide) e3 (show gi I 60 (((x4 * 8) + x1) : Int).toNat = (gi I 60 (((x4 * 8) + x1) : Int).toNat) from rfl) ?_
    refine st_iload (pc' := 69) dX6_share_67 rfl (j := 1) rfl ?_
    refine st_iconst (pc' := 70) dX6_share_69 rfl ?_
    refine st_ixor (pc' := 71) (z := (xor32 (gi I 61 (x4).toNat) (-1))) dX6_share_70 rfl rfl ?_
    refine st_iand (pc' := 72) (z := (and32 (gi I 60 (((x4 * 8) + x1) : Int).toNat) (xor32 (gi I 61 (x4).toNat) (-1)))) dX6_share_71 rfl rfl ?_
    obtain ⟨y4, hy4⟩ : ∃ y : Int, y = (and32 (gi I 60 (((x4 * 8) + x1) : Int).toNat) (xor32 (gi I 61 (x4).toNat) (-1))) := ⟨_, rfl⟩
    rw [← hy4]
    replace h := h y4 hy4
    refine st_istore (pc' := 74) (L' := [(7, vI y4), (6, vI (gi I 62 (x4).toNat)), (5, vI (gi I 61 (x4).toNat)), (0, vR (some 54)), (1, vI x1), (2, vI x2), (3, vI x3), (4, vI x4)]) dX6_share_72 rfl (by decide) rfl ?_
    refine st_aload_n (pc' := 75) dX6_share_74 rfl rfl (j := 3) rfl ?_
    refine st_iload (pc' := 77) dX6_share_75 rfl (j := 7) rfl ?_
    refine st_iload (pc' := 79) dX6_share_77 rfl (j := 0) rfl ?_
    refine st_callV (pc' := 82) (kc := k - 1) (E' := LAY) (cal := m_X6_minutesOf) (n := 2) (as := [vI x4, vI y4]) (S := []) dX6_share_79 rfl l_X6_125 k_X6_minutesOf rfl L_54 c_X6 rfl rfl (Nat.le_of_ble_eq_true rfl) (by omega) ⟨Nat.le_refl _, Nat.le_refl _, Nat.le_refl _, Nat.le_refl _⟩ h (fun r M' q => ?_)
    obtain ⟨v5, I6, J7, rfl, rfl, h⟩ := q
    change WP _ LAY m_X6_share 82 [(7, vI y4), (6, vI (gi I 62 (x4).toNat)), (5, vI (gi I 61 (x4).toNat)), (0, vR (some 54)), (1, vI x1), (2, vI x2), (3, vI x3), (4, vI x4)] [vI v5] (mem (P, some 5, some 22) I6 J7) Q
    refine st_istore (pc' := 84) (L' := [(8, vI v5), (7, vI y4), (6, vI (gi I 62 (x4).toNat)), (5, vI (gi I 61 (x4).toNat)), (0, vR (some 54)), (1, vI x1), (2, vI x2), (3, vI x3), (4, vI x4)]) dX6_share_82 rfl (by decide) rfl ?_
    refine st_iload (pc' := 86) dX6_share_84 rfl (j := 2) rfl ?_
    refine st_iload (pc' := 88) dX6_share_86 rfl (j := 0) rfl ?_
    refine st_iadd (pc' := 89) dX6_share_88 rfl ?_
    refine st_aload_n (pc' := 90) dX6_share_89 rfl rfl (j := 4) rfl ?_
    refine G_X6_25_54 dX6_share_90 (pc' := 93) rfl rfl ?_
    refine st_iload (pc' := 95) dX6_share_93 rfl (j := 8) rfl ?_
    refine st_iaload (pc' := 96) (v := (gi I6 58 (x4).toNat)) dX6_share_95 rfl L_58 (by decide) e2 (show gi I6 58 (x4).toNat = (gi I6 58 (x4).toNat) from rfl) ?_
    refine st_callS (pc' := 99) (kc := k - 1) (E' := LAY) (cal := m_X8_nightsFor) (n := 2) (as := [vI ((gi I 62 (x4).toNat) + v5), vI (gi I6 58 (x4).toNat)]) (S := []) dX6_share_96 rfl l_X6_128 k_X8_nightsFor rfl rfl (Nat.le_of_ble_eq_true rfl) (by omega) ⟨Nat.le_refl _, Nat.le_refl _, Nat.le_refl _, Nat.le_refl _⟩ (Q1 := fun r M' => WP k LAY m_X6_share 99 [(8, vI v5), (7, vI y4), (6, vI (gi I 62 (x4).toNat)), (5, vI (gi I 61 (x4).toNat)), (0, vR (some 54)), (1, vI x1), (2, vI x2), (3, vI x3), (4, vI x4)] (r.toList ++ []) M' Q) (WPm.of k_X8_nightsFor.1 (Nat.le_of_ble_eq_true rfl) (B_X8_nightsFor_0 (by omega) ?_)) (fun r M' q => q)
    obtain ⟨e8, h⟩ := h
    refine ⟨e8, ?_⟩
    refine ⟨fun c => ?_, fun c => ?_⟩
    · replace h := h.1 c
      refine ⟨(gi_in _ _ _), ?_⟩
      refine ⟨fun c => ?_, fun c => ?_⟩
      · replace h := h.1 c
        change WP _ LAY m_X6_share 99 [(8, vI v5), (7, vI y4), (6, vI (gi I 62 (x4).toNat)), (5, vI (gi I 61 (x4).toNat)), (0, vR (some 54)), (1, vI x1), (2, vI x2), (3, vI x3), (4, vI x4)] [vI (-1)] (mem (P, some 5, some 22) I6 J7) Q
        refine st_istore (pc' := 101) (L' := [(9, vI (-1)), (8, vI v5), (7, vI y4), (6, vI (gi I 62 (x4).toNat)), (5, vI (gi I 61 (x4).toNat)), (0, vR (some 54)), (1, vI x1), (2, vI x2), (3, vI x3), (4, vI x4)]) dX6_share_99 rfl (by decide) rfl ?_
        refine st_iload (pc' := 103) dX6_share_101 rfl (j := 0) rfl ?_
        refine st_iconst (pc' := 104) dX6_share_103 rfl ?_
        refine st_icmp_eq (tg := 174) (pc' := 107) dX6_share_104 (by decide) rfl (by decide) (by decide) (fun c => ?_) (fun c => ?_)
        · refine st_iinc (pc' := 177) (L' := [(4, vI (x4 + 1)), (9, vI (-1)), (8, vI v5), (7, vI y4), (6, vI (gi I 62 (x4).toNat)), (5, vI (gi I 61 (x4).toNat)), (0, vR (some 54)), (1, vI x1), (2, vI x2), (3, vI x3)]) (j := 9) dX6_share_174 rfl (by decide) rfl rfl ?_
          refine st_goto (pc' := 28) dX6_share_177 (by decide) ?_
          refine WP_sub (L' := [(0, vR (some 54)), (1, vI x1), (2, vI x2), (3, vI x3), (4, vI (x4 + 1))]) [6, 7, 8, 9, 0] rfl ?_
          exact h
        · exact absurd c (by decide)
      · replace h := h.2 c
        obtain ⟨e9, h⟩ := h
        refine ⟨e9, ?_⟩
        change WP _ LAY m_X6_share 99 [(8, vI v5), (7, vI y4), (6, vI (gi I 62 (x4).toNat)), (5, vI (gi I 61 (x4).toNat)), (0, vR (some 54)), (1, vI x1), (2, vI x2), (3, vI x3), (4, vI x4)] [vI (div32 ((((gi I 62 (x4).toNat) + v5) + (gi I6 58 (x4).toNat)) - 1) (gi I6 58 (x4).toNat))] (mem (P, some 5, some 22) I6 J7) Q
        obtain ⟨y10, hy10⟩ : ∃ y : Int, y = (div32 ((((gi I 62 (x4).toNat) + v5) + (gi I6 58 (x4).toNat)) - 1) (gi I6 58 (x4).toNat)) := ⟨_, rfl⟩
        rw [← hy10]
        replace h := h y10 hy10
        refine st_istore (pc' := 101) (L' := [(9, vI y10), (8, vI v5), (7, vI y4), (6, vI (gi I 62 (x4).toNat)), (5, vI (gi I 61 (x4).toNat)), (0, vR (some 54)), (1, vI x1), (2, vI x2), (3, vI x3), (4, vI x4)]) dX6_share_99 rfl (by decide) rfl ?_
        refine st_iload (pc' := 103) dX6_share_101 rfl (j := 0) rfl ?_
        refine st_iconst (pc' := 104) dX6_share_103 rfl ?_
        refine st_icmp_eq (tg := 174) (pc' := 107) dX6_share_104 (by decide) rfl (by rw [hy10]; exact (div32_in _ _)) (by decide) (fun c => ?_) (fun c => ?_)
        · replace h := h.1 c
          refine st_iinc (pc' := 177) (L' := [(4, vI (x4 + 1)), (9, vI y10), (8, vI v5), (7, vI y4), (6, vI (gi I 62 (x4).toNat)), (5, vI (gi I 61 (x4).toNat)), (0, vR (some 54)), (1, vI x1), (2, vI x2), (3, vI x3)]) (j := 9) dX6_share_174 rfl (by decide) rfl rfl ?_
          refine st_goto (pc' := 28) dX6_share_177 (by decide) ?_
          refine WP_sub (L' := [(0, vR (some 54)), (1, vI x1), (2, vI x2), (3, vI x3), (4, vI (x4 + 1))]) [6, 7, 8, 9, 0] rfl ?_
          exact h
        · replace h := h.2 c
          refine st_aload_n (pc' := 108) dX6_share_107 rfl rfl (j := 5) rfl ?_
          refine G_X6_19_54 dX6_share_108 (pc' := 111) rfl rfl ?_
          refine st_iload_n (pc' := 112) dX6_share_111 rfl rfl (j := 6) rfl ?_
          refine st_iload (pc' := 114) dX6_share_112 rfl (j := 9) rfl ?_
          obtain ⟨e11, h⟩ := h
          refine st_iastore (pc' := 115) (M' := (mem (P, some 5, some 22) (si I6 56 (x1).toNat x4) J7)) dX6_share_114 rfl L_56 (by decide) e11 rfl ?_
          refine st_aload_n (pc' := 116) dX6_share_115 rfl rfl (j := 5) rfl ?_
          refine G_X6_34_54 dX6_share_116 (pc' := 119) rfl rfl ?_
          refine st_iload (pc' := 121) dX6_share_119 rfl (j := 9) rfl ?_
          refine st_iload (pc' := 123) dX6_share_121 rfl (j := 4) rfl ?_
          refine st_iload (pc' := 125) dX6_share_123 rfl (j := 2) rfl ?_
          refine st_ior (pc' := 126) (z := (or32 (gi I 61 (x4).toNat) y4)) dX6_share_125 rfl rfl ?_
          refine st_iastore (pc' := 127) (M' := (mem (P, some 5, some 22) (si (si I6 56 (x1).toNat x4) 61 (x4).toNat (or32 (gi I 61 (x4).toNat) y4)) J7)) dX6_share_126 rfl L_61 (by decide) e2 rfl ?_
          refine st_aload_n (pc' := 128) dX6_share_127 rfl rfl (j := 5) rfl ?_
          refine G_X6_37_54 dX6_share_128 (pc' := 131) rfl rfl ?_
          refine st_iload (pc' := 133) dX6_share_131 rfl (j := 9) rfl ?_
          refine st_iload (pc' := 135) dX6_share_133 rfl (j := 3) rfl ?_
          refine st_iload (pc' := 137) dX6_share_135 rfl (j := 1) rfl ?_
          refine st_iadd (pc' := 138) dX6_share_137 rfl ?_
          refine st_iastore (pc' := 139) (M' := (mem (P, some 5, some 22) (si (si (si I6 56 (x1).toNat x4) 61 (x4).toNat (or32 (gi I 61 (x4).toNat) y4)) 62 (x4).toNat ((gi I 62 (x4).toNat) + v5)) J7)) dX6_share_138 rfl L_62 (by decide) e2 rfl ?_
          refine st_aload_n (pc' := 140) dX6_share_139 rfl rfl (j := 5) rfl ?_
          refine st_iload_n (pc' := 141) dX6_share_140 rfl rfl (j := 6) rfl ?_
          refine st_iconst (pc' := 142) dX6_share_141 rfl ?_
          refine st_iadd (pc' := 143) dX6_share_142 rfl ?_
          refine st_iload_n (pc' := 144) dX6_share_143 rfl rfl (j := 7) rfl ?_
          refine st_iload (pc' := 146) dX6_share_144 rfl (j := 0) rfl ?_
          obtain ⟨e12, h⟩ := h
          refine st_callS (pc' := 149) (kc := k - 1) (E' := LAY) (cal := m_J9_max_7cf53) (n := 2) (as := [vI x2, vI y10]) (S := [vI (x1 + 1), vR (some 54)]) dX6_share_146 rfl l_X6_131 k_J9_max_7cf53 rfl rfl (Nat.le_of_ble_eq_true rfl) (by omega) ⟨Nat.le_refl _, Nat.le_refl _, Nat.le_refl _, Nat.le_refl _⟩ (Q1 := fun r M' => WP k LAY m_X6_share 149 [(9, vI y10), (8, vI v5), (7, vI y4), (6, vI (gi I 62 (x4).toNat)), (5, vI (gi I 61 (x4).toNat)), (0, vR (some 54)), (1, vI x1), (2, vI x2), (3, vI x3), (4, vI x4)] (r.toList ++ [vI (x1 + 1), vR (some 54)]) M' Q) (S_J9_max (by omega) e12 (by rw [hy10]; exact (div32_in _ _)) ?_) (fun r M' q => q)
          change WP _ LAY m_X6_share 149 [(9, vI y10), (8, vI v5), (7, vI y4), (6, vI (gi I 62 (x4).toNat)), (5, vI (gi I 61 (x4).toNat)), (0, vR (some 54)), (1, vI x1), (2, vI x2), (3, vI x3), (4, vI x4)] [vI (max x2 y10), vI (x1 + 1), vR (some 54)] (mem (P, some 5, some 22) (si (si (si I6 56 (x1).toNat x4) 61 (x4).toNat (or32 (gi I 61 (x4).toNat) y4)) 62 (x4).toNat ((gi I 62 (x4).toNat) + v5)) J7) Q
          refine st_iload_n (pc' := 150) dX6_share_149 rfl rfl (j := 8) rfl ?_
          refine st_iload (pc' := 152) dX6_share_150 rfl (j := 1) rfl ?_
          refine st_iadd (pc' := 153) dX6_share_152 rfl ?_
          refine st_callS (pc' := 156) (kc := k - 1) (E' := LAY) (cal := m_X6_share) (n := 4) (as := [vR (some 54), vI (x1 + 1), vI (max x2 y10), vI (x3 + v5)]) (S := []) dX6_share_153 rfl l_X6_89 k_X6_share rfl rfl (Nat.le_of_ble_eq_true rfl) (by omega) ⟨Nat.le_refl _, Nat.le_refl _, Nat.le_refl _, Nat.le_refl _⟩ h (fun r M' q => ?_)
          obtain ⟨I14, J15, rfl, rfl, h⟩ := q
          change WP _ LAY m_X6_share 156 [(9, vI y10), (8, vI v5), (7, vI y4), (6, vI (gi I 62 (x4).toNat)), (5, vI (gi I 61 (x4).toNat)), (0, vR (some 54)), (1, vI x1), (2, vI x2), (3, vI x3), (4, vI x4)] [] (mem (P, some 5, some 22) I14 J15) Q
          refine st_aload_n (pc' := 157) dX6_share_156 rfl rfl (j := 5) rfl ?_
          refine G_X6_34_54 dX6_share_157 (pc' := 160) rfl rfl ?_
          refine st_iload (pc' := 162) dX6_share_160 rfl (j := 9) rfl ?_
          refine st_iload (pc' := 164) dX6_share_162 rfl (j := 4) rfl ?_
          refine st_iastore (pc' := 165) (M' := (mem (P, some 5, some 22) (si I14 61 (x4).toNat (gi I 61 (x4).toNat)) J15)) dX6_share_164 rfl L_61 (by decide) e2 rfl ?_
          refine st_aload_n (pc' := 166) dX6_share_165 rfl rfl (j := 5) rfl ?_
          refine G_X6_37_54 dX6_share_166 (pc' := 169) rfl rfl ?_
          refine st_iload (pc' := 171) dX6_share_169 rfl (j := 9) rfl ?_
          refine st_iload (pc' := 173) dX6_share_171 rfl (j := 3) rfl ?_
          refine st_iastore (pc' := 174) (M' := (mem (P, some 5, some 22) (si (si I14 61 (x4).toNat (gi I 61 (x4).toNat)) 62 (x4).toNat (gi I 62 (x4).toNat)) J15)) dX6_share_173 rfl L_62 (by decide) e2 rfl ?_
          refine st_iinc (pc' := 177) (L' := [(4, vI (x4 + 1)), (9, vI y10), (8, vI v5), (7, vI y4), (6, vI (gi I 62 (x4).toNat)), (5, vI (gi I 61 (x4).toNat)), (0, vR (some 54)), (1, vI x1), (2, vI x2), (3, vI x3)]) (j := 9) dX6_share_174 rfl (by decide) rfl rfl ?_
          refine st_goto (pc' := 28) dX6_share_177 (by decide) ?_
          refine WP_sub (L' := [(0, vR (some 54)), (1, vI x1), (2, vI x2), (3, vI x3), (4, vI (x4 + 1))]) [6, 7, 8, 9, 0] rfl ?_
          exact h
    · replace h := h.2 c
      change WP _ LAY m_X6_share 99 [(8, vI v5), (7, vI y4), (6, vI (gi I 62 (x4).toNat)), (5, vI (gi I 61 (x4).toNat)), (0, vR (some 54)), (1, vI x1), (2, vI x2), (3, vI x3), (4, vI x4)] [vI 0] (mem (P, some 5, some 22) I6 J7) Q
      refine st_istore (pc' := 101) (L' := [(9, vI 0), (8, vI v5), (7, vI y4), (6, vI (gi I 62 (x4).toNat)), (5, vI (gi I 61 (x4).toNat)), (0, vR (some 54)), (1, vI x1), (2, vI x2), (3, vI x3), (4, vI x4)]) dX6_share_99 rfl (by decide) rfl ?_
      refine st_iload (pc' := 103) dX6_share_101 rfl (j := 0) rfl ?_
      refine st_iconst (pc' := 104) dX6_share_103 rfl ?_
      refine st_icmp_eq (tg := 174) (pc' := 107) dX6_share_104 (by decide) rfl (by decide) (by decide) (fun c => ?_) (fun c => ?_)
      · exact absurd c (by decide)
      · refine st_aload_n (pc' := 108) dX6_share_107 rfl rfl (j := 5) rfl ?_
        refine G_X6_19_54 dX6_share_108 (pc' := 111) rfl rfl ?_
        refine st_iload_n (pc' := 112) dX6_share_111 rfl rfl (j := 6) rfl ?_
        refine st_iload (pc' := 114) dX6_share_112 rfl (j := 9) rfl ?_
        obtain ⟨e16, h⟩ := h
        refine st_iastore (pc' := 115) (M' := (mem (P, some 5, some 22) (si I6 56 (x1).toNat x4) J7)) dX6_share_114 rfl L_56 (by decide) e16 rfl ?_
        refine st_aload_n (pc' := 116) dX6_share_115 rfl rfl (j := 5) rfl ?_
        refine G_X6_34_54 dX6_share_116 (pc' := 119) rfl rfl ?_
        refine st_iload (pc' := 121) dX6_share_119 rfl (j := 9) rfl ?_
        refine st_iload (pc' := 123) dX6_share_121 rfl (j := 4) rfl ?_
        refine st_iload (pc' := 125) dX6_share_123 rfl (j := 2) rfl ?_
        refine st_ior (pc' := 126) (z := (or32 (gi I 61 (x4).toNat) y4)) dX6_share_125 rfl rfl ?_
        refine st_iastore (pc' := 127) (M' := (mem (P, some 5, some 22) (si (si I6 56 (x1).toNat x4) 61 (x4).toNat (or32 (gi I 61 (x4).toNat) y4)) J7)) dX6_share_126 rfl L_61 (by decide) e2 rfl ?_
        refine st_aload_n (pc' := 128) dX6_share_127 rfl rfl (j := 5) rfl ?_
        refine G_X6_37_54 dX6_share_128 (pc' := 131) rfl rfl ?_
        refine st_iload (pc' := 133) dX6_share_131 rfl (j := 9) rfl ?_
        refine st_iload (pc' := 135) dX6_share_133 rfl (j := 3) rfl ?_
        refine st_iload (pc' := 137) dX6_share_135 rfl (j := 1) rfl ?_
        refine st_iadd (pc' := 138) dX6_share_137 rfl ?_
        refine st_iastore (pc' := 139) (M' := (mem (P, some 5, some 22) (si (si (si I6 56 (x1).toNat x4) 61 (x4).toNat (or32 (gi I 61 (x4).toNat) y4)) 62 (x4).toNat ((gi I 62 (x4).toNat) + v5)) J7)) dX6_share_138 rfl L_62 (by decide) e2 rfl ?_
        refine st_aload_n (pc' := 140) dX6_share_139 rfl rfl (j := 5) rfl ?_
        refine st_iload_n (pc' := 141) dX6_share_140 rfl rfl (j := 6) rfl ?_
        refine st_iconst (pc' := 142) dX6_share_141 rfl ?_
        refine st_iadd (pc' := 143) dX6_share_142 rfl ?_
        refine st_iload_n (pc' := 144) dX6_share_143 rfl rfl (j := 7) rfl ?_
        refine st_iload (pc' := 146) dX6_share_144 rfl (j := 0) rfl ?_
        obtain ⟨e17, h⟩ := h
        refine st_callS (pc' := 149) (kc := k - 1) (E' := LAY) (cal := m_J9_max_7cf53) (n := 2) (as := [vI x2, vI 0]) (S := [vI (x1 + 1), vR (some 54)]) dX6_share_146 rfl l_X6_131 k_J9_max_7cf53 rfl rfl (Nat.le_of_ble_eq_true rfl) (by omega) ⟨Nat.le_refl _, Nat.le_refl _, Nat.le_refl _, Nat.le_refl _⟩ (Q1 := fun r M' => WP k LAY m_X6_share 149 [(9, vI 0), (8, vI v5), (7, vI y4), (6, vI (gi I 62 (x4).toNat)), (5, vI (gi I 61 (x4).toNat)), (0, vR (some 54)), (1, vI x1), (2, vI x2), (3, vI x3), (4, vI x4)] (r.toList ++ [vI (x1 + 1), vR (some 54)]) M' Q) (S_J9_max (by omega) e17 (by decide) ?_) (fun r M' q => q)
        change WP _ LAY m_X6_share 149 [(9, vI 0), (8, vI v5), (7, vI y4), (6, vI (gi I 62 (x4).toNat)), (5, vI (gi I 61 (x4).toNat)), (0, vR (some 54)), (1, vI x1), (2, vI x2), (3, vI x3), (4, vI x4)] [vI (max x2 0), vI (x1 + 1), vR (some 54)] (mem (P, some 5, some 22) (si (si (si I6 56 (x1).toNat x4) 61 (x4).toNat (or32 (gi I 61 (x4).toNat) y4)) 62 (x4).toNat ((gi I 62 (x4).toNat) + v5)) J7) Q
        refine st_iload_n (pc' := 150) dX6_share_149 rfl rfl (j := 8) rfl ?_
        refine st_iload (pc' := 152) dX6_share_150 rfl (j := 1) rfl ?_
        refine st_iadd (pc' := 153) dX6_share_152 rfl ?_
        refine st_callS (pc' := 156) (kc := k - 1) (E' := LAY) (cal := m_X6_share) (n := 4) (as := [vR (some 54), vI (x1 + 1), vI (max x2 0), vI (x3 + v5)]) (S := []) dX6_share_153 rfl l_X6_89 k_X6_share rfl rfl (Nat.le_of_ble_eq_true rfl) (by omega) ⟨Nat.le_refl _, Nat.le_refl _, Nat.le_refl _, Nat.le_refl _⟩ h (fun r M' q => ?_)
        obtain ⟨I19, J20, rfl, rfl, h⟩ := q
        change WP _ LAY m_X6_share 156 [(9, vI 0), (8, vI v5), (7, vI y4), (6, vI (gi I 62 (x4).toNat)), (5, vI (gi I 61 (x4).toNat)), (0, vR (some 54)), (1, vI x1), (2, vI x2), (3, vI x3), (4, vI x4)] [] (mem (P, some 5, some 22) I19 J20) Q
        refine st_aload_n (pc' := 157) dX6_share_156 rfl rfl (j := 5) rfl ?_
        refine G_X6_34_54 dX6_share_157 (pc' := 160) rfl rfl ?_
        refine st_iload (pc' := 162) dX6_share_160 rfl (j := 9) rfl ?_
        refine st_iload (pc' := 164) dX6_share_162 rfl (j := 4) rfl ?_
        refine st_iastore (pc' := 165) (M' := (mem (P, some 5, some 22) (si I19 61 (x4).toNat (gi I 61 (x4).toNat)) J20)) dX6_share_164 rfl L_61 (by decide) e2 rfl ?_
        refine st_aload_n (pc' := 166) dX6_share_165 rfl rfl (j := 5) rfl ?_
        refine G_X6_37_54 dX6_share_166 (pc' := 169) rfl rfl ?_
        refine st_iload (pc' := 171) dX6_share_169 rfl (j := 9) rfl ?_
        refine st_iload (pc' := 173) dX6_share_171 rfl (j := 3) rfl ?_
        refine st_iastore (pc' := 174) (M' := (mem (P, some 5, some 22) (si (si I19 61 (x4).toNat (gi I 61 (x4).toNat)) 62 (x4).toNat (gi I 62 (x4).toNat)) J20)) dX6_share_173 rfl L_62 (by decide) e2 rfl ?_
        refine st_iinc (pc' := 177) (L' := [(4, vI (x4 + 1)), (9, vI 0), (8, vI v5), (7, vI y4), (6, vI (gi I 62 (x4).toNat)), (5, vI (gi I 61 (x4).toNat)), (0, vR (some 54)), (1, vI x1), (2, vI x2), (3, vI x3)]) (j := 9) dX6_share_174 rfl (by decide) rfl rfl ?_
        refine st_goto (pc' := 28) dX6_share_177 (by decide) ?_
        refine WP_sub (L' := [(0, vR (some 54)), (1, vI x1), (2, vI x2), (3, vI x3), (4, vI (x4 + 1))]) [6, 7, 8, 9, 0] rfl ?_
        exact h
set_option maxRecDepth 20000 in
set_option maxHeartbeats 4000000 in
theorem B_X6_find_0 {k : Nat} {P : Option Nat} {I : Nat → Nat → Int32} {J : Nat → Nat → Int64} {x1 : Int} {Q : Option AV → Mem → Prop} (hk : 0 ≤ k) (h : (¬ (gi I 54 5) = (gi I 4 6) → (WP k LAY m_X6_find 46 [(0, vR (some 54)), (1, vI x1), (2, vI 0)] [] (mem (P, some 5, some 22) (si (si (si I 54 5 (gi I 4 6)) 54 6 x1) 54 7 0) J) Q)) ∧ ((gi I 54 5) = (gi I 4 6) → (inR x1 ∧ ((¬ (gi I 54 6) = x1 → (WP k LAY m_X6_find 46 [(0, vR (some 54)), (1, vI x1), (2, vI 0)] [] (mem (P, some 5, some 22) (si (si (si I 54 5 (gi I 4 6)) 54 6 x1) 54 7 0) J) Q)) ∧ ((gi I 54 6) = x1 → (Q none (mem (P, some 5, some 22) I J))))))) : WP k LAY m_X6_find 0 [(0, vR (some 54)), (1, vI x1)] [] (mem (P, some 5, some 22) I J) Q := by
  refine st_aload_n (pc' := 1) dX6_find_0 rfl rfl (j := 0) rfl ?_
  refine G_X6_9_54 dX6_find_1 (pc' := 4) rfl rfl ?_
  refine st_aload_n (pc' := 5) dX6_find_4 rfl rfl (j := 0) rfl ?_
  refine G_X6_40_54 dX6_find_5 (pc' := 8) rfl rfl ?_
  refine G_X6_55_4 dX6_find_8 (pc' := 11) rfl rfl ?_
  refine st_icmp_ne (tg := 23) (pc' := 14) dX6_find_11 (by decide) rfl (gi_in _ _ _) (gi_in _ _ _) (fun c => ?_) (fun c => ?_)
  · replace h := h.1 c
    refine st_aload_n (pc' := 24) dX6_find_23 rfl rfl (j := 0) rfl ?_
    refine st_aload_n (pc' := 25) dX6_find_24 rfl rfl (j := 0) rfl ?_
    refine G_X6_40_54 dX6_find_25 (pc' := 28) rfl rfl ?_
    refine G_X6_55_4 dX6_find_28 (pc' := 31) rfl rfl ?_
    refine P_X6_9_54 dX6_find_31 (pc' := 34) rfl rfl ?_
    refine st_aload_n (pc' := 35) dX6_find_34 rfl rfl (j := 0) rfl ?_
    refine st_iload_n (pc' := 36) dX6_find_35 rfl rfl (j := 1) rfl ?_
    refine P_X6_58_54 dX6_find_36 (pc' := 39) rfl rfl ?_
    refine st_aload_n (pc' := 40) dX6_find_39 rfl rfl (j := 0) rfl ?_
    refine st_iconst (pc' := 41) dX6_find_40 rfl ?_
    refine P_X6_52_54 dX6_find_41 (pc' := 44) rfl rfl ?_
    refine st_iconst (pc' := 45) dX6_find_44 rfl ?_
    refine st_istore_n (pc' := 46) (L' := [(2, vI 0), (0, vR (some 54)), (1, vI x1)]) dX6_find_45 rfl rfl (by decide) rfl ?_
    refine WP_sub (L' := [(0, vR (some 54)), (1, vI x1), (2, vI 0)]) [1, 2, 0] rfl ?_
    exact h
  · replace h := h.2 c
    refine st_aload_n (pc' := 15) dX6_find_14 rfl rfl (j := 0) rfl ?_
    refine G_X6_58_54 dX6_find_15 (pc' := 18) rfl rfl ?_
    refine st_iload_n (pc' := 19) dX6_find_18 rfl rfl (j := 1) rfl ?_
    obtain ⟨e1, h⟩ := h
    refine st_icmp_ne (tg := 23) (pc' := 22) dX6_find_19 (by decide) rfl (gi_in _ _ _) e1 (fun c => ?_) (fun c => ?_)
    · replace h := h.1 c
      refine st_aload_n (pc' := 24) dX6_find_23 rfl rfl (j := 0) rfl ?_
      refine st_aload_n (pc' := 25) dX6_find_24 rfl rfl (j := 0) rfl ?_
      refine G_X6_40_54 dX6_find_25 (pc' := 28) rfl rfl ?_
      refine G_X6_55_4 dX6_find_28 (pc' := 31) rfl rfl ?_
      refine P_X6_9_54 dX6_find_31 (pc' := 34) rfl rfl ?_
      refine st_aload_n (pc' := 35) dX6_find_34 rfl rfl (j := 0) rfl ?_
      refine st_iload_n (pc' := 36) dX6_find_35 rfl rfl (j := 1) rfl ?_
      refine P_X6_58_54 dX6_find_36 (pc' := 39) rfl rfl ?_
      refine st_aload_n (pc' := 40) dX6_find_39 rfl rfl (j := 0) rfl ?_
      refine st_iconst (pc' := 41) dX6_find_40 rfl ?_
      refine P_X6_52_54 dX6_find_41 (pc' := 44) rfl rfl ?_
      refine st_iconst (pc' := 45) dX6_find_44 rfl ?_
      refine st_istore_n (pc' := 46) (L' := [(2, vI 0), (0, vR (some 54)), (1, vI x1)]) dX6_find_45 rfl rfl (by decide) rfl ?_
      refine WP_sub (L' := [(0, vR (some 54)), (1, vI x1), (2, vI 0)]) [1, 2, 0] rfl ?_
      exact h
    · replace h := h.2 c
      exact st_vret dX6_find_22 rfl rfl h
set_option maxRecDepth 20000 in
set_option maxHeartbeats 4000000 in
theorem B_X6_find_46 {k : Nat} {P : Option Nat} {I : Nat → Nat → Int32} {J : Nat → Nat → Int64} {x1 : Int} {x2 : Int} {Q : Option AV → Mem → Prop} (hk : 1 ≤ k) (h : inR x2 ∧ (((gi I 6 1) ≤ x2 → (WP k LAY m_X6_find 127 [(0, vR (some 54)), (2, vI 0)] [] (mem (P, some 5, some 22) (si I 54 8 (min 3 (gi I 6 2))) J) Q)) ∧ (¬ (gi I 6 1) ≤ x2 → ((8 ≤ (gi I 54 7) → (WP k LAY m_X6_find 127 [(0, vR (some 54)), (2, vI 0)] [] (mem (P, some 5, some 22) (si I 54 8 (min 3 (gi I 6 2))) J) Q)) ∧ (¬ 8 ≤ (gi I 54 7) → (((and32 x1 (shl32 1 x2)) = 0 → (WP k LAY m_X6_find 46 [(0, vR (some 54)), (1, vI x1), (2, vI (x2 + 1))] [] (mem (P, some 5, some 22) I J) Q)) ∧ (¬ (and32 x1 (shl32 1 x2)) = 0 → ((0 ≤ (gi I 54 7) ∧ (gi I 54 7) < 8) ∧ (WP k LAY m_X6_find 46 [(0, vR (some 54)), (1, vI x1), (2, vI (x2 + 1))] [] (mem (P, some 5, some 22) (si (si I 55 (gi I 54 7).toNat x2) 54 7 ((gi I 54 7) + 1)) J) Q))))))))) : WP k LAY m_X6_find 46 [(0, vR (some 54)), (1, vI x1), (2, vI x2)] [] (mem (P, some 5, some 22) I J) Q := by
  refine st_iload_n (pc' := 47) dX6_find_46 rfl rfl (j := 2) rfl ?_
  refine st_aload_n (pc' := 48) dX6_find_47 rfl rfl (j := 0) rfl ?_
  refine G_X6_40_54 dX6_find_48 (pc' := 51) rfl rfl ?_
  refine G_X6_61_4 dX6_find_51 (pc' := 54) rfl rfl ?_
  refine G_X6_65_5 dX6_find_54 (pc' := 57) rfl rfl ?_
  refine st_iconst (pc' := 58) dX6_find_57 rfl ?_
  refine st_iaload (pc' := 59) (v := (gi I 6 1)) dX6_find_58 rfl L_6 (by decide) (by decide) (show gi I 6 1 = (gi I 6 1) from rfl) ?_
  obtain ⟨e1, h⟩ := h
  refine st_icmp_ge (tg := 105) (pc' := 62) dX6_find_59 (by decide) rfl e1 (gi_in _ _ _) (fun c => ?_) (fun c => ?_)
  · replace h := h.1 c
    refine st_aload_n (pc' := 106) dX6_find_105 rfl rfl (j := 0) rfl ?_
    refine st_iconst (pc' := 107) dX6_find_106 rfl ?_
    refine st_aload_n (pc' := 108) dX6_find_107 rfl rfl (j := 0) rfl ?_
    refine G_X6_40_54 dX6_find_108 (pc' := 111) rfl rfl ?_
    refine G_X6_61_4 dX6_find_111 (pc' := 114) rfl rfl ?_
    refine G_X6_65_5 dX6_find_114 (pc' := 117) rfl rfl ?_
    refine st_iconst (pc' := 118) dX6_find_117 rfl ?_
    refine st_iaload (pc' := 119) (v := (gi I 6 2)) dX6_find_118 rfl L_6 (by decide) (by decide) (show gi I 6 2 = (gi I 6 2) from rfl) ?_
    refine st_callS (pc' := 122) (kc := k - 1) (E' := LAY) (cal := m_J9_min_7cf53) (n := 2) (as := [vI 3, vI (gi I 6 2)]) (S := [vR (some 54)]) dX6_find_119 rfl l_X6_70 k_J9_min_7cf53 rfl rfl (Nat.le_of_ble_eq_true rfl) (by omega) ⟨Nat.le_refl _, Nat.le_refl _, Nat.le_refl _, Nat.le_refl _⟩ (Q1 := fun r M' => WP k LAY m_X6_find 122 [(0, vR (some 54)), (1, vI x1), (2, vI x2)] (r.toList ++ [vR (some 54)]) M' Q) (S_J9_min (by omega) (by decide) (gi_in _ _ _) ?_) (fun r M' q => q)
    change WP _ LAY m_X6_find 122 [(0, vR (some 54)), (1, vI x1), (2, vI x2)] [vI (min 3 (gi I 6 2)), vR (some 54)] (mem (P, some 5, some 22) I J) Q
    refine P_X6_76_54 dX6_find_122 (pc' := 125) rfl rfl ?_
    refine st_iconst (pc' := 126) dX6_find_125 rfl ?_
    refine st_istore_n (pc' := 127) (L' := [(2, vI 0), (0, vR (some 54)), (1, vI x1)]) dX6_find_126 rfl rfl (by decide) rfl ?_
    refine WP_sub (L' := [(0, vR (some 54)), (2, vI 0)]) [1, 0] rfl ?_
    exact h
  · replace h := h.2 c
    refine st_aload_n (pc' := 63) dX6_find_62 rfl rfl (j := 0) rfl ?_
    refine G_X6_52_54 dX6_find_63 (pc' := 66) rfl rfl ?_
    refine st_bipush (pc' := 68) dX6_find_66 rfl (by decide) ?_
    refine st_icmp_ge (tg := 105) (pc' := 71) dX6_find_68 (by decide) rfl (gi_in _ _ _) (by decide) (fun c => ?_) (fun c => ?_)
    · replace h := h.1 c
      refine st_aload_n (pc' := 106) dX6_find_105 rfl rfl (j := 0) rfl ?_
      refine st_iconst (pc' := 107) dX6_find_106 rfl ?_
      refine st_aload_n (pc' := 108) dX6_find_107 rfl rfl (j := 0) rfl ?_
      refine G_X6_40_54 dX6_find_108 (pc' := 111) rfl rfl ?_
      refine G_X6_61_4 dX6_find_111 (pc' := 114) rfl rfl ?_
      refine G_X6_65_5 dX6_find_114 (pc' := 117) rfl rfl ?_
      refine st_iconst (pc' := 118) dX6_find_117 rfl ?_
      refine st_iaload (pc' := 119) (v := (gi I 6 2)) dX6_find_118 rfl L_6 (by decide) (by decide) (show gi I 6 2 = (gi I 6 2) from rfl) ?_
      refine st_callS (pc' := 122) (kc := k - 1) (E' := LAY) (cal := m_J9_min_7cf53) (n := 2) (as := [vI 3, vI (gi I 6 2)]) (S := [vR (some 54)]) dX6_find_119 rfl l_X6_70 k_J9_min_7cf53 rfl rfl (Nat.le_of_ble_eq_true rfl) (by omega) ⟨Nat.le_refl _, Nat.le_refl _, Nat.le_refl _, Nat.le_refl _⟩ (Q1 := fun r M' => WP k LAY m_X6_find 122 [(0, vR (some 54)), (1, vI x1), (2, vI x2)] (r.toList ++ [vR (some 54)]) M' Q) (S_J9_min (by omega) (by decide) (gi_in _ _ _) ?_) (fun r M' q => q)
      change WP _ LAY m_X6_find 122 [(0, vR (some 54)), (1, vI x1), (2, vI x2)] [vI (min 3 (gi I 6 2)), vR (some 54)] (mem (P, some 5, some 22) I J) Q
      refine P_X6_76_54 dX6_find_122 (pc' := 125) rfl rfl ?_
      refine st_iconst (pc' := 126) dX6_find_125 rfl ?_
      refine st_istore_n (pc' := 127) (L' := [(2, vI 0), (0, vR (some 54)), (1, vI x1)]) dX6_find_126 rfl rfl (by decide) rfl ?_
      refine WP_sub (L' := [(0, vR (some 54)), (2, vI 0)]) [1, 0] rfl ?_
      exact h
    · replace h := h.2 c
      refine st_iload_n (pc' := 72) dX6_find_71 rfl rfl (j := 1) rfl ?_
      refine st_iconst (pc' := 73) dX6_find_72 rfl ?_
      refine st_iload_n (pc' := 74) dX6_find_73 rfl rfl (j := 2) rfl ?_
      refine st_ishl (pc' := 75) (z := (shl32 1 x2)) dX6_find_74 rfl rfl ?_
      refine st_iand (pc' := 76) (z := (and32 x1 (shl32 1 x2))) dX6_find_75 rfl rfl ?_
      refine st_if_eq (tg := 99) (pc' := 79) dX6_find_76 (by decide) rfl (and32_in _ _) (fun c => ?_) (fun c => ?_)
      · replace h := h.1 c
        refine st_iinc (pc' := 102) (L' := [(2, vI (x2 + 1)), (0, vR (some 54)), (1, vI x1)]) (j := 2) dX6_find_99 rfl (by decide) rfl rfl ?_
        refine st_goto (pc' := 46) dX6_find_102 (by decide) ?_
        refine WP_sub (L' := [(0, vR (some 54)), (1, vI x1), (2, vI (x2 + 1))]) [1, 2, 0] rfl ?_
        exact h
      · replace h := h.2 c
        refine st_aload_n (pc' := 80) dX6_find_79 rfl rfl (j := 0) rfl ?_
        refine G_X6_15_54 dX6_find_80 (pc' := 83) rfl rfl ?_
        refine st_aload_n (pc' := 84) dX6_find_83 rfl rfl (j := 0) rfl ?_
        refine G_X6_52_54 dX6_find_84 (pc' := 87) rfl rfl ?_
        refine st_iload_n (pc' := 88) dX6_find_87 rfl rfl (j := 2) rfl ?_
        obtain ⟨e2, h⟩ := h
        refine st_iastore (pc' := 89) (M' := (mem (P, some 5, some 22) (si I 55 (gi I 54 7).toNat x2) J)) dX6_find_88 rfl L_55 (by decide) e2 rfl ?_
        refine st_aload_n (pc' := 90) dX6_find_89 rfl rfl (j := 0) rfl ?_
        refine st_dup (pc' := 91) dX6_find_90 rfl rfl ?_
        refine G_X6_52_54 dX6_find_91 (pc' := 94) rfl rfl ?_
        rw [show gi (si I 55 (gi I 54 7).toNat x2) 54 7 = (gi I 54 7) from (gi_cell _ _ _ _ (by decide))]
        refine st_iconst (pc' := 95) dX6_find_94 rfl ?_
        refine st_iadd (pc' := 96) dX6_find_95 rfl ?_
        refine P_X6_52_54 dX6_find_96 (pc' := 99) rfl rfl ?_
        refine st_iinc (pc' := 102) (L' := [(2, vI (x2 + 1)), (0, vR (some 54)), (1, vI x1)]) (j := 2) dX6_find_99 rfl (by decide) rfl rfl ?_
        refine st_goto (pc' := 46) dX6_find_102 (by decide) ?_
        refine WP_sub (L' := [(0, vR (some 54)), (1, vI x1), (2, vI (x2 + 1))]) [1, 2, 0] rfl ?_
        exact h
set_option maxRecDepth 20000 in
set_option maxHeartbeats 4000000 in
theorem B_X6_find_127 {k : Nat} {P : Option Nat} {I : Nat → Nat → Int32} {J : Nat → Nat → Int64} {x2 : Int} {Q : Option AV → Mem → Prop} (hk : 1 ≤ k) (h : inR x2 ∧ (((gi I 54 8) ≤ x2 → (WPm (k - 1) LAY m_X6_share [vR (some 54), vI 0, vI 0, vI 0] (mem (P, some 5, some 22) (si (si I 54 3 (-1)) 54 4 0) J) (retV (fun I3 J4 => Q none (mem (P, some 5, some 22) I3 J4)) (P, some 5, some 22)))) ∧ (¬ (gi I 54 8) ≤ x2 → (WPm (k - 1) LAY m_X6_measure [vR (some 54), vI x2] (mem (P, some 5, some 22) I J) (retV (fun I6 J7 => WP k LAY m_X6_find 127 [(0, vR (some 54)), (2, vI (x2 + 1))] [] (mem (P, some 5, some 22) I6 J7) Q) (P, some 5, some 22)))))) : WP k LAY m_X6_find 127 [(0, vR (some 54)), (2, vI x2)] [] (mem (P, some 5, some 22) I J) Q := by
  refine st_iload_n (pc' := 128) dX6_find_127 rfl rfl (j := 1) rfl ?_
  refine st_aload_n (pc' := 129) dX6_find_128 rfl rfl (j := 0) rfl ?_
  refine G_X6_76_54 dX6_find_129 (pc' := 132) rfl rfl ?_
  obtain ⟨e1, h⟩ := h
  refine st_icmp_ge (tg := 146) (pc' := 135) dX6_find_132 (by decide) rfl e1 (gi_in _ _ _) (fun c => ?_) (fun c => ?_)
  · replace h := h.1 c
    refine st_aload_n (pc' := 147) dX6_find_146 rfl rfl (j := 0) rfl ?_
    refine st_iconst (pc' := 148) dX6_find_147 rfl ?_
    refine P_X6_83_54 dX6_find_148 (pc' := 151) rfl rfl ?_
    refine st_aload_n (pc' := 152) dX6_find_151 rfl rfl (j := 0) rfl ?_
    refine st_iconst (pc' := 153) dX6_find_152 rfl ?_
    refine P_X6_86_54 dX6_find_153 (pc' := 156) rfl rfl ?_
    refine st_aload_n (pc' := 157) dX6_find_156 rfl rfl (j := 0) rfl ?_
    refine st_iconst (pc' := 158) dX6_find_157 rfl ?_
    refine st_iconst (pc' := 159) dX6_find_158 rfl ?_
    refine st_iconst (pc' := 160) dX6_find_159 rfl ?_
    refine st_callS (pc' := 163) (kc := k - 1) (E' := LAY) (cal := m_X6_share) (n := 4) (as := [vR (some 54), vI 0, vI 0, vI 0]) (S := []) dX6_find_160 rfl l_X6_89 k_X6_share rfl rfl (Nat.le_of_ble_eq_true rfl) (by omega) ⟨Nat.le_refl _, Nat.le_refl _, Nat.le_refl _, Nat.le_refl _⟩ h (fun r M' q => ?_)
    obtain ⟨I3, J4, rfl, rfl, h⟩ := q
    change WP _ LAY m_X6_find 163 [(0, vR (some 54)), (2, vI x2)] [] (mem (P, some 5, some 22) I3 J4) Q
    exact st_vret dX6_find_163 rfl rfl h
  · replace h := h.2 c
    refine st_aload_n (pc' := 136) dX6_find_135 rfl rfl (j := 0) rfl ?_
    refine st_iload_n (pc' := 137) dX6_find_136 rfl rfl (j := 1) rfl ?_
    refine st_callV (pc' := 140) (kc := k - 1) (E' := LAY) (cal := m_X6_measure) (n := 1) (as := [vI x2]) (S := []) dX6_find_137 rfl l_X6_79 k_X6_measure rfl L_54 c_X6 rfl rfl (Nat.le_of_ble_eq_true rfl) (by omega) ⟨Nat.le_refl _, Nat.le_refl _, Nat.le_refl _, Nat.le_refl _⟩ h (fun r M' q => ?_)
    obtain ⟨I6, J7, rfl, rfl, h⟩ := q
    change WP _ LAY m_X6_find 140 [(0, vR (some 54)), (2, vI x2)] [] (mem (P, some 5, some 22) I6 J7) Q
    refine st_iinc (pc' := 143) (L' := [(2, vI (x2 + 1)), (0, vR (some 54))]) (j := 1) dX6_find_140 rfl (by decide) rfl rfl ?_
    refine st_goto (pc' := 127) dX6_find_143 (by decide) ?_
    refine WP_sub (L' := [(0, vR (some 54)), (2, vI (x2 + 1))]) [1, 0] rfl ?_
    exact h
set_option maxRecDepth 20000 in
set_option maxHeartbeats 4000000 in
theorem B_X6_readerOf_0 {k : Nat} {P : Option Nat} {I : Nat → Nat → Int32} {J : Nat → Nat → Int64} {x1 : Int} {Q : Option AV → Mem → Prop} (hk : 0 ≤ k) (h : WP k LAY m_X6_readerOf 2 [(0, vR (some 54)), (1, vI x1), (2, vI 0)] [] (mem (P, some 5, some 22) I J) Q) : WP k LAY m_X6_readerOf 0 [(0, vR (some 54)), (1, vI x1)] [] (mem (P, some 5, some 22) I J) Q := by
  refine st_iconst (pc' := 1) dX6_readerOf_0 rfl ?_
  refine st_istore_n (pc' := 2) (L' := [(2, vI 0), (0, vR (some 54)), (1, vI x1)]) dX6_readerOf_1 rfl rfl (by decide) rfl ?_
  refine WP_sub (L' := [(0, vR (some 54)), (1, vI x1), (2, vI 0)]) [1, 2, 0] rfl ?_
  exact h
set_option maxRecDepth 20000 in
set_option maxHeartbeats 4000000 in
theorem B_X6_readerOf_2 {k : Nat} {P : Option Nat} {I : Nat → Nat → Int32} {J : Nat → Nat → Int64} {x1 : Int} {x2 : Int} {Q : Option AV → Mem → Prop} (hk : 0 ≤ k) (h : inR x2 ∧ (((gi I 54 7) ≤ x2 → (Q (some (vI (-1))) (mem (P, some 5, some 22) I J))) ∧ (¬ (gi I 54 7) ≤ x2 → ((0 ≤ x2 ∧ x2 < 8) ∧ (inR x1 ∧ ((¬ (gi I 55 (x2).toNat) = x1 → (WP k LAY m_X6_readerOf 2 [(0, vR (some 54)), (1, vI x1), (2, vI (x2 + 1))] [] (mem (P, some 5, some 22) I J) Q)) ∧ ((gi I 55 (x2).toNat) = x1 → (Q (some (vI (gi I 57 (x2).toNat))) (mem (P, some 5, some 22) I J))))))))) : WP k LAY m_X6_readerOf 2 [(0, vR (some 54)), (1, vI x1), (2, vI x2)] [] (mem (P, some 5, some 22) I J) Q := by
  refine st_iload_n (pc' := 3) dX6_readerOf_2 rfl rfl (j := 2) rfl ?_
  refine st_aload_n (pc' := 4) dX6_readerOf_3 rfl rfl (j := 0) rfl ?_
  refine G_X6_52_54 dX6_readerOf_4 (pc' := 7) rfl rfl ?_
  obtain ⟨e1, h⟩ := h
  refine st_icmp_ge (tg := 33) (pc' := 10) dX6_readerOf_7 (by decide) rfl e1 (gi_in _ _ _) (fun c => ?_) (fun c => ?_)
  · replace h := h.1 c
    refine st_iconst (pc' := 34) dX6_readerOf_33 rfl ?_
    exact st_iret (ty := .int) dX6_readerOf_34 rfl rfl rfl h
  · replace h := h.2 c
    refine st_aload_n (pc' := 11) dX6_readerOf_10 rfl rfl (j := 0) rfl ?_
    refine G_X6_15_54 dX6_readerOf_11 (pc' := 14) rfl rfl ?_
    refine st_iload_n (pc' := 15) dX6_readerOf_14 rfl rfl (j := 2) rfl ?_
    obtain ⟨e2, h⟩ := h
    refine st_iaload (pc' := 16) (v := (gi I 55 (x2).toNat)) dX6_readerOf_15 rfl L_55 (by decide) e2 (show gi I 55 (x2).toNat = (gi I 55 (x2).toNat) from rfl) ?_
    refine st_iload_n (pc' := 17) dX6_readerOf_16 rfl rfl (j := 1) rfl ?_
    obtain ⟨e3, h⟩ := h
    refine st_icmp_ne (tg := 27) (pc' := 20) dX6_readerOf_17 (by decide) rfl (gi_in _ _ _) e3 (fun c => ?_) (fun c => ?_)
    · replace h := h.1 c
      refine st_iinc (pc' := 30) (L' := [(2, vI (x2 + 1)), (0, vR (some 54)), (1, vI x1)]) (j := 2) dX6_readerOf_27 rfl (by decide) rfl rfl ?_
      refine st_goto (pc' := 2) dX6_readerOf_30 (by decide) ?_
      refine WP_sub (L' := [(0, vR (some 54)), (1, vI x1), (2, vI (x2 + 1))]) [1, 2, 0] rfl ?_
      exact h
    · replace h := h.2 c
      refine st_aload_n (pc' := 21) dX6_readerOf_20 rfl rfl (j := 0) rfl ?_
      refine G_X6_22_54 dX6_readerOf_21 (pc' := 24) rfl rfl ?_
      refine st_iload_n (pc' := 25) dX6_readerOf_24 rfl rfl (j := 2) rfl ?_
      refine st_iaload (pc' := 26) (v := (gi I 57 (x2).toNat)) dX6_readerOf_25 rfl L_57 (by decide) e2 (show gi I 57 (x2).toNat = (gi I 57 (x2).toNat) from rfl) ?_
      exact st_iret (ty := .int) dX6_readerOf_26 rfl rfl rfl h
end WX6

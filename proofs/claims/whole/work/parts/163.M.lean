section WM3
set_option maxRecDepth 20000 in
set_option maxHeartbeats 4000000 in
theorem B_X12_goesNight_0 {k : Nat} {P : Option Nat} {I : Nat → Nat → Int32} {J : Nat → Nat → Int64} {x1 : Int} {Q : Option AV → Mem → Prop} (hk : 0 ≤ k) (h : WP k LAY m_X12_goesNight 9 [(0, vR (some 74)), (1, vI x1), (2, vI 0), (3, vI 0)] [] (mem (P, some 5, some 22) (si I 74 77 0) J) Q) : WP k LAY m_X12_goesNight 0 [(0, vR (some 74)), (1, vI x1)] [] (mem (P, some 5, some 22) I J) Q := by
  refine st_iconst (pc' := 1) dX12_goesNight_0 rfl ?_
  refine st_istore_n (pc' := 2) (L' := [(2, vI 0), (0, vR (some 74)), (1, vI x1)]) dX12_goesNight_1 rfl rfl (by decide) rfl ?_
  refine st_aload_n (pc' := 3) dX12_goesNight_2 rfl rfl (j := 1) rfl ?_
  refine st_iconst (pc' := 4) dX12_goesNight_3 rfl ?_
  refine P_X12_246_74 dX12_goesNight_4 (pc' := 7) rfl rfl ?_
  refine st_iconst (pc' := 8) dX12_goesNight_7 rfl ?_
  refine st_istore_n (pc' := 9) (L' := [(3, vI 0), (2, vI 0), (0, vR (some 74)), (1, vI x1)]) dX12_goesNight_8 rfl rfl (by decide) rfl ?_
  refine WP_sub (L' := [(0, vR (some 74)), (1, vI x1), (2, vI 0), (3, vI 0)]) [2, 3, 1, 0] rfl ?_
  exact h
set_option maxRecDepth 20000 in
set_option maxHeartbeats 4000000 in
theorem B_X12_goesNight_9 {k : Nat} {P : Option Nat} {I : Nat → Nat → Int32} {J : Nat → Nat → Int64} {x1 : Int} {x2 : Int} {x3 : Int} {Q : Option AV → Mem → Prop} (hk : 1 ≤ k) (h : (0 ≤ (gi I 74 13) ∧ (gi I 74 13) < 2) ∧ (inR x3 ∧ (((gi I 86 (gi I 74 13).toNat) ≤ x3 → (WP k LAY m_X12_goesNight 42 [(0, vR (some 74)), (1, vI x1), (2, vI x2), (3, vI 0)] [] (mem (P, some 5, some 22) I J) Q)) ∧ (¬ (gi I 86 (gi I 74 13).toNat) ≤ x3 → (WPm (k - 1) LAY m_X12_lightOf [vR (some 74), vI x1, vI x3] (mem (P, some 5, some 22) I J) (retI (fun v3 I4 J5 => (0 ≤ x3 ∧ x3 < 5) ∧ (WP k LAY m_X12_goesNight 9 [(0, vR (some 74)), (1, vI x1), (2, vI x2), (3, vI (x3 + 1))] [] (mem (P, some 5, some 22) (si I4 124 (x3).toNat v3) J5) Q)) (P, some 5, some 22))))))) : WP k LAY m_X12_goesNight 9 [(0, vR (some 74)), (1, vI x1), (2, vI x2), (3, vI x3)] [] (mem (P, some 5, some 22) I J) Q := by
  refine st_iload_n (pc' := 10) dX12_goesNight_9 rfl rfl (j := 3) rfl ?_
  refine st_aload_n (pc' := 11) dX12_goesNight_10 rfl rfl (j := 0) rfl ?_
  refine G_X12_84_74 dX12_goesNight_11 (pc' := 14) rfl rfl ?_
  refine st_aload_n (pc' := 15) dX12_goesNight_14 rfl rfl (j := 0) rfl ?_
  refine G_X12_51_74 dX12_goesNight_15 (pc' := 18) rfl rfl ?_
  obtain ⟨e1, h⟩ := h
  refine st_iaload (pc' := 19) (v := (gi I 86 (gi I 74 13).toNat)) dX12_goesNight_18 rfl L_86 (by decide) e1 (show gi I 86 (gi I 74 13).toNat = (gi I 86 (gi I 74 13).toNat) from rfl) ?_
  obtain ⟨e2, h⟩ := h
  refine st_icmp_ge (tg := 40) (pc' := 22) dX12_goesNight_19 (by decide) rfl e2 (gi_in _ _ _) (fun c => ?_) (fun c => ?_)
  · replace h := h.1 c
    refine st_iconst (pc' := 41) dX12_goesNight_40 rfl ?_
    refine st_istore_n (pc' := 42) (L' := [(3, vI 0), (0, vR (some 74)), (1, vI x1), (2, vI x2)]) dX12_goesNight_41 rfl rfl (by decide) rfl ?_
    refine WP_sub (L' := [(0, vR (some 74)), (1, vI x1), (2, vI x2), (3, vI 0)]) [1, 2, 3, 0] rfl ?_
    exact h
  · replace h := h.2 c
    refine st_aload_n (pc' := 23) dX12_goesNight_22 rfl rfl (j := 0) rfl ?_
    refine G_X12_243_74 dX12_goesNight_23 (pc' := 26) rfl rfl ?_
    refine st_iload_n (pc' := 27) dX12_goesNight_26 rfl rfl (j := 3) rfl ?_
    refine st_aload_n (pc' := 28) dX12_goesNight_27 rfl rfl (j := 0) rfl ?_
    refine st_iload_n (pc' := 29) dX12_goesNight_28 rfl rfl (j := 1) rfl ?_
    refine st_iload_n (pc' := 30) dX12_goesNight_29 rfl rfl (j := 3) rfl ?_
    refine st_callV (pc' := 33) (kc := k - 1) (E' := LAY) (cal := m_X12_lightOf) (n := 2) (as := [vI x1, vI x3]) (S := [vI x3, vR (some 124)]) dX12_goesNight_30 rfl l_X12_541 k_X12_lightOf rfl L_74 c_X12 rfl rfl (Nat.le_of_ble_eq_true rfl) (by omega) ⟨Nat.le_refl _, Nat.le_refl _, Nat.le_refl _, Nat.le_refl _⟩ h (fun r M' q => ?_)
    obtain ⟨v3, I4, J5, rfl, rfl, h⟩ := q
    change WP _ LAY m_X12_goesNight 33 [(0, vR (some 74)), (1, vI x1), (2, vI x2), (3, vI x3)] [vI v3, vI x3, vR (some 124)] (mem (P, some 5, some 22) I4 J5) Q
    obtain ⟨e6, h⟩ := h
    refine st_iastore (pc' := 34) (M' := (mem (P, some 5, some 22) (si I4 124 (x3).toNat v3) J5)) dX12_goesNight_33 rfl L_124 (by decide) e6 rfl ?_
    refine st_iinc (pc' := 37) (L' := [(3, vI (x3 + 1)), (0, vR (some 74)), (1, vI x1), (2, vI x2)]) (j := 3) dX12_goesNight_34 rfl (by decide) rfl rfl ?_
    refine st_goto (pc' := 9) dX12_goesNight_37 (by decide) ?_
    refine WP_sub (L' := [(0, vR (some 74)), (1, vI x1), (2, vI x2), (3, vI (x3 + 1))]) [1, 2, 3, 0] rfl ?_
    exact h
set_option maxRecDepth 20000 in
set_option maxHeartbeats 4000000 in
theorem B_X12_goesNight_42 {k : Nat} {P : Option Nat} {I : Nat → Nat → Int32} {J : Nat → Nat → Int64} {x1 : Int} {x2 : Int} {x3 : Int} {Q : Option AV → Mem → Prop} (hk : 1 ≤ k) (h : (0 ≤ (gi I 74 13) ∧ (gi I 74 13) < 2) ∧ (inR x3 ∧ (((gi I 83 (gi I 74 13).toNat) ≤ x3 → (WP k LAY m_X12_goesNight 85 [(0, vR (some 74)), (1, vI x1), (2, vI x2), (3, vI 0)] [] (mem (P, some 5, some 22) I J) Q)) ∧ (¬ (gi I 83 (gi I 74 13).toNat) ≤ x3 → ((0 ≤ ((6 * x1) + x3) ∧ ((6 * x1) + x3) < 132) ∧ ((0 ≤ (gi I 110 (((6 * x1) + x3) : Int).toNat) ∧ (gi I 110 (((6 * x1) + x3) : Int).toNat) < 5) ∧ (WPm (k - 1) LAY m_X12_readsOn [vR (some 74), vI x1, vI x3, vI (gi I 124 (gi I 110 (((6 * x1) + x3) : Int).toNat).toNat)] (mem (P, some 5, some 22) I J) (retV (fun I6 J7 => WP k LAY m_X12_goesNight 42 [(0, vR (some 74)), (1, vI x1), (2, vI x2), (3, vI (x3 + 1))] [] (mem (P, some 5, some 22) I6 J7) Q) (P, some 5, some 22))))))))) : WP k LAY m_X12_goesNight 42 [(0, vR (some 74)), (1, vI x1), (2, vI x2), (3, vI x3)] [] (mem (P, some 5, some 22) I J) Q := by
  refine st_iload_n (pc' := 43) dX12_goesNight_42 rfl rfl (j := 3) rfl ?_
  refine st_aload_n (pc' := 44) dX12_goesNight_43 rfl rfl (j := 0) rfl ?_
  refine G_X12_75_74 dX12_goesNight_44 (pc' := 47) rfl rfl ?_
  refine st_aload_n (pc' := 48) dX12_goesNight_47 rfl rfl (j := 0) rfl ?_
  refine G_X12_51_74 dX12_goesNight_48 (pc' := 51) rfl rfl ?_
  obtain ⟨e1, h⟩ := h
  refine st_iaload (pc' := 52) (v := (gi I 83 (gi I 74 13).toNat)) dX12_goesNight_51 rfl L_83 (by decide) e1 (show gi I 83 (gi I 74 13).toNat = (gi I 83 (gi I 74 13).toNat) from rfl) ?_
  obtain ⟨e2, h⟩ := h
  refine st_icmp_ge (tg := 83) (pc' := 55) dX12_goesNight_52 (by decide) rfl e2 (gi_in _ _ _) (fun c => ?_) (fun c => ?_)
  · replace h := h.1 c
    refine st_iconst (pc' := 84) dX12_goesNight_83 rfl ?_
    refine st_istore_n (pc' := 85) (L' := [(3, vI 0), (0, vR (some 74)), (1, vI x1), (2, vI x2)]) dX12_goesNight_84 rfl rfl (by decide) rfl ?_
    refine WP_sub (L' := [(0, vR (some 74)), (1, vI x1), (2, vI x2), (3, vI 0)]) [1, 2, 3, 0] rfl ?_
    exact h
  · replace h := h.2 c
    refine st_aload_n (pc' := 56) dX12_goesNight_55 rfl rfl (j := 0) rfl ?_
    refine st_iload_n (pc' := 57) dX12_goesNight_56 rfl rfl (j := 1) rfl ?_
    refine st_iload_n (pc' := 58) dX12_goesNight_57 rfl rfl (j := 3) rfl ?_
    refine st_aload_n (pc' := 59) dX12_goesNight_58 rfl rfl (j := 0) rfl ?_
    refine G_X12_243_74 dX12_goesNight_59 (pc' := 62) rfl rfl ?_
    refine st_aload_n (pc' := 63) dX12_goesNight_62 rfl rfl (j := 0) rfl ?_
    refine G_X12_177_74 dX12_goesNight_63 (pc' := 66) rfl rfl ?_
    refine st_bipush (pc' := 68) dX12_goesNight_66 rfl (by decide) ?_
    refine st_iload_n (pc' := 69) dX12_goesNight_68 rfl rfl (j := 1) rfl ?_
    refine st_imul (pc' := 70) dX12_goesNight_69 rfl ?_
    refine st_iload_n (pc' := 71) dX12_goesNight_70 rfl rfl (j := 3) rfl ?_
    refine st_iadd (pc' := 72) dX12_goesNight_71 rfl ?_
    obtain ⟨e3, h⟩ := h
    refine st_iaload (pc' := 73) (v := (gi I 110 (((6 * x1) + x3) : Int).toNat)) dX12_goesNight_72 rfl L_110 (by decide) e3 (show gi I 110 (((6 * x1) + x3) : Int).toNat = (gi I 110 (((6 * x1) + x3) : Int).toNat) from rfl) ?_
    obtain ⟨e4, h⟩ := h
    refine st_iaload (pc' := 74) (v := (gi I 124 (gi I 110 (((6 * x1) + x3) : Int).toNat).toNat)) dX12_goesNight_73 rfl L_124 (by decide) e4 (show gi I 124 (gi I 110 (((6 * x1) + x3) : Int).toNat).toNat = (gi I 124 (gi I 110 (((6 * x1) + x3) : Int).toNat).toNat) from rfl) ?_
    refine st_callV (pc' := 77) (kc := k - 1) (E' := LAY) (cal := m_X12_readsOn) (n := 3) (as := [vI x1, vI x3, vI (gi I 124 (gi I 110 (((6 * x1) + x3) : Int).toNat).toNat)]) (S := []) dX12_goesNight_74 rfl l_X12_544 k_X12_readsOn rfl L_74 c_X12 rfl rfl (Nat.le_of_ble_eq_true rfl) (by omega) ⟨Nat.le_refl _, Nat.le_refl _, Nat.le_refl _, Nat.le_refl _⟩ h (fun r M' q => ?_)
    obtain ⟨I6, J7, rfl, rfl, h⟩ := q
    change WP _ LAY m_X12_goesNight 77 [(0, vR (some 74)), (1, vI x1), (2, vI x2), (3, vI x3)] [] (mem (P, some 5, some 22) I6 J7) Q
    refine st_iinc (pc' := 80) (L' := [(3, vI (x3 + 1)), (0, vR (some 74)), (1, vI x1), (2, vI x2)]) (j := 3) dX12_goesNight_77 rfl (by decide) rfl rfl ?_
    refine st_goto (pc' := 42) dX12_goesNight_80 (by decide) ?_
    refine WP_sub (L' := [(0, vR (some 74)), (1, vI x1), (2, vI x2), (3, vI (x3 + 1))]) [1, 2, 3, 0] rfl ?_
    exact h
set_option maxRecDepth 20000 in
set_option maxHeartbeats 4000000 in
theorem B_X12_goesNight_85 {k : Nat} {P : Option Nat} {I : Nat → Nat → Int32} {J : Nat → Nat → Int64} {x1 : Int} {x2 : Int} {x3 : Int} {Q : Option AV → Mem → Prop} (hk : 0 ≤ k) (h : (0 ≤ (gi I 74 13) ∧ (gi I 74 13) < 2) ∧ (inR x3 ∧ (((gi I 86 (gi I 74 13).toNat) ≤ x3 → (Q (some (vI x2)) (mem (P, some 5, some 22) I J))) ∧ (¬ (gi I 86 (gi I 74 13).toNat) ≤ x3 → (WP k LAY m_X12_goesNight 104 [(0, vR (some 74)), (1, vI x1), (2, vI x2), (3, vI x3), (4, vI 0), (5, vI 0)] [] (mem (P, some 5, some 22) I J) Q))))) : WP k LAY m_X12_goesNight 85 [(0, vR (some 74)), (1, vI x1), (2, vI x2), (3, vI x3)] [] (mem (P, some 5, some 22) I J) Q := by
  refine st_iload_n (pc' := 86) dX12_goesNight_85 rfl rfl (j := 3) rfl ?_
  refine st_aload_n (pc' := 87) dX12_goesNight_86 rfl rfl (j := 0) rfl ?_
  refine G_X12_84_74 dX12_goesNight_87 (pc' := 90) rfl rfl ?_
  refine st_aload_n (pc' := 91) dX12_goesNight_90 rfl rfl (j := 0) rfl ?_
  refine G_X12_51_74 dX12_goesNight_91 (pc' := 94) rfl rfl ?_
  obtain ⟨e1, h⟩ := h
  refine st_iaload (pc' := 95) (v := (gi I 86 (gi I 74 13).toNat)) dX12_goesNight_94 rfl L_86 (by decide) e1 (show gi I 86 (gi I 74 13).toNat = (gi I 86 (gi I 74 13).toNat) from rfl) ?_
  obtain ⟨e2, h⟩ := h
  refine st_icmp_ge (tg := 184) (pc' := 98) dX12_goesNight_95 (by decide) rfl e2 (gi_in _ _ _) (fun c => ?_) (fun c => ?_)
  · replace h := h.1 c
    refine st_iload_n (pc' := 185) dX12_goesNight_184 rfl rfl (j := 2) rfl ?_
    exact st_iret (ty := .int) dX12_goesNight_185 rfl rfl rfl h
  · replace h := h.2 c
    refine st_iconst (pc' := 99) dX12_goesNight_98 rfl ?_
    refine st_istore (pc' := 101) (L' := [(4, vI 0), (0, vR (some 74)), (1, vI x1), (2, vI x2), (3, vI x3)]) dX12_goesNight_99 rfl (by decide) rfl ?_
    refine st_iconst (pc' := 102) dX12_goesNight_101 rfl ?_
    refine st_istore (pc' := 104) (L' := [(5, vI 0), (4, vI 0), (0, vR (some 74)), (1, vI x1), (2, vI x2), (3, vI x3)]) dX12_goesNight_102 rfl (by decide) rfl ?_
    refine WP_sub (L' := [(0, vR (some 74)), (1, vI x1), (2, vI x2), (3, vI x3), (4, vI 0), (5, vI 0)]) [2, 3, 4, 5, 1, 0] rfl ?_
    exact h
set_option maxRecDepth 20000 in
set_option maxHeartbeats 4000000 in
theorem B_X12_goesNight_104 {k : Nat} {P : Option Nat} {I : Nat → Nat → Int32} {J : Nat → Nat → Int64} {x1 : Int} {x2 : Int} {x3 : Int} {x4 : Int} {x5 : Int} {Q : Option AV → Mem → Prop} (hk : 0 ≤ k) (h : (0 ≤ (gi I 74 13) ∧ (gi I 74 13) < 2) ∧ (inR x5 ∧ (((gi I 83 (gi I 74 13).toNat) ≤ x5 → ((0 ≤ x3 ∧ x3 < 5) ∧ (WP k LAY m_X12_goesNight 85 [(0, vR (some 74)), (1, vI x1), (2, vI (x2 + ((gi I 124 (x3).toNat) - x4))), (3, vI (x3 + 1))] [] (mem (P, some 5, some 22) I J) Q))) ∧ (¬ (gi I 83 (gi I 74 13).toNat) ≤ x5 → ((0 ≤ ((6 * x1) + x5) ∧ ((6 * x1) + x5) < 132) ∧ (inR x3 ∧ ((¬ (gi I 110 (((6 * x1) + x5) : Int).toNat) = x3 → (WP k LAY m_X12_goesNight 104 [(0, vR (some 74)), (1, vI x1), (2, vI x2), (3, vI x3), (4, vI x4), (5, vI (x5 + 1))] [] (mem (P, some 5, some 22) I J) Q)) ∧ ((gi I 110 (((6 * x1) + x5) : Int).toNat) = x3 → ((0 ≤ x5 ∧ x5 < 6) ∧ (inR x4 ∧ (((gi I 122 (x5).toNat) ≤ x4 → (WP k LAY m_X12_goesNight 104 [(0, vR (some 74)), (1, vI x1), (2, vI x2), (3, vI x3), (4, vI x4), (5, vI (x5 + 1))] [] (mem (P, some 5, some 22) I J) Q)) ∧ (¬ (gi I 122 (x5).toNat) ≤ x4 → (WP k LAY m_X12_goesNight 104 [(0, vR (some 74)), (1, vI x1), (2, vI x2), (3, vI x3), (4, vI (gi I 122 (x5).toNat)), (5, vI (x5 + 1))] [] (mem (P, some 5, some 22) I J) Q))))))))))))) : WP k LAY m_X12_goesNight 104 [(0, vR (some 74)), (1, vI x1), (2, vI x2), (3, vI x3), (4, vI x4), (5, vI x5)] [] (mem (P, some 5, some 22) I J) Q := by
  refine st_iload (pc' := 106) dX12_goesNight_104 rfl (j := 5) rfl ?_
  refine st_aload_n (pc' := 107) dX12_goesNight_106 rfl rfl (j := 0) rfl ?_
  refine G_X12_75_74 dX12_goesNight_107 (pc' := 110) rfl rfl ?_
  refine st_aload_n (pc' := 111) dX12_goesNight_110 rfl rfl (j := 0) rfl ?_
  refine G_X12_51_74 dX12_goesNight_111 (pc' := 114) rfl rfl ?_
  obtain ⟨e1, h⟩ := h
  refine st_iaload (pc' := 115) (v := (gi I 83 (gi I 74 13).toNat)) dX12_goesNight_114 rfl L_83 (by decide) e1 (show gi I 83 (gi I 74 13).toNat = (gi I 83 (gi I 74 13).toNat) from rfl) ?_
  obtain ⟨e2, h⟩ := h
  refine st_icmp_ge (tg := 166) (pc' := 118) dX12_goesNight_115 (by decide) rfl e2 (gi_in _ _ _) (fun c => ?_) (fun c => ?_)
  · replace h := h.1 c
    refine st_iload_n (pc' := 167) dX12_goesNight_166 rfl rfl (j := 2) rfl ?_
    refine st_aload_n (pc' := 168) dX12_goesNight_167 rfl rfl (j := 0) rfl ?_
    refine G_X12_243_74 dX12_goesNight_168 (pc' := 171) rfl rfl ?_
    refine st_iload_n (pc' := 172) dX12_goesNight_171 rfl rfl (j := 3) rfl ?_
    obtain ⟨e3, h⟩ := h
    refine st_iaload (pc' := 173) (v := (gi I 124 (x3).toNat)) dX12_goesNight_172 rfl L_124 (by decide) e3 (show gi I 124 (x3).toNat = (gi I 124 (x3).toNat) from rfl) ?_
    refine st_iload (pc' := 175) dX12_goesNight_173 rfl (j := 4) rfl ?_
    refine st_isub (pc' := 176) dX12_goesNight_175 rfl ?_
    refine st_iadd (pc' := 177) dX12_goesNight_176 rfl ?_
    refine st_istore_n (pc' := 178) (L' := [(2, vI (x2 + ((gi I 124 (x3).toNat) - x4))), (0, vR (some 74)), (1, vI x1), (3, vI x3), (4, vI x4), (5, vI x5)]) dX12_goesNight_177 rfl rfl (by decide) rfl ?_
    refine st_iinc (pc' := 181) (L' := [(3, vI (x3 + 1)), (2, vI (x2 + ((gi I 124 (x3).toNat) - x4))), (0, vR (some 74)), (1, vI x1), (4, vI x4), (5, vI x5)]) (j := 3) dX12_goesNight_178 rfl (by decide) rfl rfl ?_
    refine st_goto (pc' := 85) dX12_goesNight_181 (by decide) ?_
    refine WP_sub (L' := [(0, vR (some 74)), (1, vI x1), (2, vI (x2 + ((gi I 124 (x3).toNat) - x4))), (3, vI (x3 + 1))]) [2, 3, 1, 0] rfl ?_
    exact h
  · replace h := h.2 c
    refine st_aload_n (pc' := 119) dX12_goesNight_118 rfl rfl (j := 0) rfl ?_
    refine G_X12_177_74 dX12_goesNight_119 (pc' := 122) rfl rfl ?_
    refine st_bipush (pc' := 124) dX12_goesNight_122 rfl (by decide) ?_
    refine st_iload_n (pc' := 125) dX12_goesNight_124 rfl rfl (j := 1) rfl ?_
    refine st_imul (pc' := 126) dX12_goesNight_125 rfl ?_
    refine st_iload (pc' := 128) dX12_goesNight_126 rfl (j := 5) rfl ?_
    refine st_iadd (pc' := 129) dX12_goesNight_128 rfl ?_
    obtain ⟨e4, h⟩ := h
    refine st_iaload (pc' := 130) (v := (gi I 110 (((6 * x1) + x5) : Int).toNat)) dX12_goesNight_129 rfl L_110 (by decide) e4 (show gi I 110 (((6 * x1) + x5) : Int).toNat = (gi I 110 (((6 * x1) + x5) : Int).toNat) from rfl) ?_
    refine st_iload_n (pc' := 131) dX12_goesNight_130 rfl rfl (j := 3) rfl ?_
    obtain ⟨e5, h⟩ := h
    refine st_icmp_ne (tg := 156) (pc' := 134) dX12_goesNight_131 (by decide) rfl (gi_in _ _ _) e5 (fun c => ?_) (fun c => ?_)
    · replace h := h.1 c
      refine st_iload (pc' := 158) dX12_goesNight_156 rfl (j := 4) rfl ?_
      refine st_istore (pc' := 160) (L' := [(4, vI x4), (0, vR (some 74)), (1, vI x1), (2, vI x2), (3, vI x3), (5, vI x5)]) dX12_goesNight_158 rfl (by decide) rfl ?_
      refine st_iinc (pc' := 163) (L' := [(5, vI (x5 + 1)), (4, vI x4), (0, vR (some 74)), (1, vI x1), (2, vI x2), (3, vI x3)]) (j := 5) dX12_goesNight_160 rfl (by decide) rfl rfl ?_
      refine st_goto (pc' := 104) dX12_goesNight_163 (by decide) ?_
      refine WP_sub (L' := [(0, vR (some 74)), (1, vI x1), (2, vI x2), (3, vI x3), (4, vI x4), (5, vI (x5 + 1))]) [2, 3, 4, 5, 1, 0] rfl ?_
      exact h
    · replace h := h.2 c
      refine st_aload_n (pc' := 135) dX12_goesNight_134 rfl rfl (j := 0) rfl ?_
      refine G_X12_237_74 dX12_goesNight_135 (pc' := 138) rfl rfl ?_
      refine st_iload (pc' := 140) dX12_goesNight_138 rfl (j := 5) rfl ?_
      obtain ⟨e6, h⟩ := h
      refine st_iaload (pc' := 141) (v := (gi I 122 (x5).toNat)) dX12_goesNight_140 rfl L_122 (by decide) e6 (show gi I 122 (x5).toNat = (gi I 122 (x5).toNat) from rfl) ?_
      refine st_iload (pc' := 143) dX12_goesNight_141 rfl (j := 4) rfl ?_
      obtain ⟨e7, h⟩ := h
      refine st_icmp_le (tg := 156) (pc' := 146) dX12_goesNight_143 (by decide) rfl (gi_in _ _ _) e7 (fun c => ?_) (fun c => ?_)
      · replace h := h.1 c
        refine st_iload (pc' := 158) dX12_goesNight_156 rfl (j := 4) rfl ?_
        refine st_istore (pc' := 160) (L' := [(4, vI x4), (0, vR (some 74)), (1, vI x1), (2, vI x2), (3, vI x3), (5, vI x5)]) dX12_goesNight_158 rfl (by decide) rfl ?_
        refine st_iinc (pc' := 163) (L' := [(5, vI (x5 + 1)), (4, vI x4), (0, vR (some 74)), (1, vI x1), (2, vI x2), (3, vI x3)]) (j := 5) dX12_goesNight_160 rfl (by decide) rfl rfl ?_
        refine st_goto (pc' := 104) dX12_goesNight_163 (by decide) ?_
        refine WP_sub (L' := [(0, vR (some 74)), (1, vI x1), (2, vI x2), (3, vI x3), (4, vI x4), (5, vI (x5 + 1))]) [2, 3, 4, 5, 1, 0] rfl ?_
        exact h
      · replace h := h.2 c
        refine st_aload_n (pc' := 147) dX12_goesNight_146 rfl rfl (j := 0) rfl ?_
        refine G_X12_237_74 dX12_goesNight_147 (pc' := 150) rfl rfl ?_
        refine st_iload (pc' := 152) dX12_goesNight_150 rfl (j := 5) rfl ?_
        refine st_iaload (pc' := 153) (v := (gi I 122 (x5).toNat)) dX12_goesNight_152 rfl L_122 (by decide) e6 (show gi I 122 (x5).toNat = (gi I 122 (x5).toNat) from rfl) ?_
        refine st_goto (pc' := 158) dX12_goesNight_153 (by decide) ?_
        refine st_istore (pc' := 160) (L' := [(4, vI (gi I 122 (x5).toNat)), (0, vR (some 74)), (1, vI x1), (2, vI x2), (3, vI x3), (5, vI x5)]) dX12_goesNight_158 rfl (by decide) rfl ?_
        refine st_iinc (pc' := 163) (L' := [(5, vI (x5 + 1)), (4, vI (gi I 122 (x5).toNat)), (0, vR (some 74)), (1, vI x1), (2, vI x2), (3, vI x3)]) (j := 5) dX12_goesNight_160 rfl (by decide) rfl rfl ?_
        refine st_goto (pc' := 104) dX12_goesNight_163 (by decide) ?_
        refine WP_sub (L' := [(0, vR (some 74)), (1, vI x1), (2, vI x2), (3, vI x3), (4, vI (gi I 122 (x5).toNat)), (5, vI (x5 + 1))]) [2, 3, 4, 5, 1, 0] rfl ?_
        exact h
set_option maxRecDepth 20000 in
set_option maxHeartbeats 4000000 in
theorem B_X12_has__0 {k : Nat} {P : Option Nat} {I : Nat → Nat → Int32} {J : Nat → Nat → Int64} {x1 : Int} {Q : Option AV → Mem → Prop} (hk : 0 ≤ k) (h : inR x1 ∧ ((x1 = 0 → ((0 ≤ (gi I 74 13) ∧ (gi I 74 13) < 2) ∧ (Q (some (vI (gi I 76 (gi I 74 13).toNat))) (mem (P, some 5, some 22) I J)))) ∧ (¬ x1 = 0 → ((x1 = 1 → ((0 ≤ (gi I 74 13) ∧ (gi I 74 13) < 2) ∧ (Q (some (vI (gi I 77 (gi I 74 13).toNat))) (mem (P, some 5, some 22) I J)))) ∧ (¬ x1 = 1 → ((x1 = 2 → ((0 ≤ (gi I 74 13) ∧ (gi I 74 13) < 2) ∧ (Q (some (vI (gi I 82 (gi I 74 13).toNat))) (mem (P, some 5, some 22) I J)))) ∧ (¬ x1 = 2 → ((x1 = 3 → ((0 ≤ (gi I 74 13) ∧ (gi I 74 13) < 2) ∧ (Q (some (vI (gi I 83 (gi I 74 13).toNat))) (mem (P, some 5, some 22) I J)))) ∧ (¬ x1 = 3 → ((x1 = 4 → ((0 ≤ (gi I 74 13) ∧ (gi I 74 13) < 2) ∧ (Q (some (vI (gi I 86 (gi I 74 13).toNat))) (mem (P, some 5, some 22) I J)))) ∧ (¬ x1 = 4 → ((x1 = 5 → ((0 ≤ (gi I 74 13) ∧ (gi I 74 13) < 2) ∧ (Q (some (vI (gi I 88 (gi I 74 13).toNat))) (mem (P, some 5, some 22) I J)))) ∧ (¬ x1 = 5 → ((x1 = 6 → (Q (some (vI (gi I 108 0))) (mem (P, some 5, some 22) I J))) ∧ (¬ x1 = 6 → ((x1 = 7 → (Q (some (vI (gi I 109 0))) (mem (P, some 5, some 22) I J))) ∧ (¬ x1 = 7 → ((x1 = 8 → (Q (some (vI (gi I 117 0))) (mem (P, some 5, some 22) I J))) ∧ (¬ x1 = 8 → ((x1 = 9 → (WP k LAY m_X12_has_ 147 [(0, vR (some 74)), (2, vI 0), (3, vI 0)] [] (mem (P, some 5, some 22) I J) Q)) ∧ (¬ x1 = 9 → ((x1 = 10 → (Q (some (vI (gi I 74 66))) (mem (P, some 5, some 22) I J))) ∧ (¬ x1 = 10 → ((x1 = 11 → (Q (some (vI (gl J 74 67))) (mem (P, some 5, some 22) I J))) ∧ (¬ x1 = 11 → (Q (some (vI (-1))) (mem (P, some 5, some 22) I J))))))))))))))))))))))))))) : WP k LAY m_X12_has_ 0 [(0, vR (some 74)), (1, vI x1)] [] (mem (P, some 5, some 22) I J) Q := by
  refine st_iconst (pc' := 1) dX12_has__0 rfl ?_
  refine st_istore_n (pc' := 2) (L' := [(2, vI 0), (0, vR (some 74)), (1, vI x1)]) dX12_has__1 rfl rfl (by decide) rfl ?_
  refine st_iload_n (pc' := 3) dX12_has__2 rfl rfl (j := 2) rfl ?_
  obtain ⟨e1, h⟩ := h
  by_cases c : x1 = 0
  · replace h := h.1 c
    refine st_tblIn (pc' := 64) (off := 61) dX12_has__3 e1 (by omega) (by rw [c]; rfl) (by decide) ?_
    refine st_aload_n (pc' := 65) dX12_has__64 rfl rfl (j := 1) rfl ?_
    refine G_X12_54_74 dX12_has__65 (pc' := 68) rfl rfl ?_
    refine st_aload_n (pc' := 69) dX12_has__68 rfl rfl (j := 1) rfl ?_
    refine G_X12_51_74 dX12_has__69 (pc' := 72) rfl rfl ?_
    obtain ⟨e2, h⟩ := h
    refine st_iaload (pc' := 73) (v := (gi I 76 (gi I 74 13).toNat)) dX12_has__72 rfl L_76 (by decide) e2 (show gi I 76 (gi I 74 13).toNat = (gi I 76 (gi I 74 13).toNat) from rfl) ?_
    exact st_iret (ty := .int) dX12_has__73 rfl rfl rfl h
  replace h := h.2 c
  have c0 := c
  clear c
  by_cases c : x1 = 1
  · replace h := h.1 c
    refine st_tblIn (pc' := 74) (off := 71) dX12_has__3 e1 (by omega) (by rw [c]; rfl) (by decide) ?_
    refine st_aload_n (pc' := 75) dX12_has__74 rfl rfl (j := 1) rfl ?_
    refine G_X12_57_74 dX12_has__75 (pc' := 78) rfl rfl ?_
    refine st_aload_n (pc' := 79) dX12_has__78 rfl rfl (j := 1) rfl ?_
    refine G_X12_51_74 dX12_has__79 (pc' := 82) rfl rfl ?_
    obtain ⟨e3, h⟩ := h
    refine st_iaload (pc' := 83) (v := (gi I 77 (gi I 74 13).toNat)) dX12_has__82 rfl L_77 (by decide) e3 (show gi I 77 (gi I 74 13).toNat = (gi I 77 (gi I 74 13).toNat) from rfl) ?_
    exact st_iret (ty := .int) dX12_has__83 rfl rfl rfl h
  replace h := h.2 c
  have c1 := c
  clear c
  by_cases c : x1 = 2
  · replace h := h.1 c
    refine st_tblIn (pc' := 84) (off := 81) dX12_has__3 e1 (by omega) (by rw [c]; rfl) (by decide) ?_
    refine st_aload_n (pc' := 85) dX12_has__84 rfl rfl (j := 1) rfl ?_
    refine G_X12_72_74 dX12_has__85 (pc' := 88) rfl rfl ?_
    refine st_aload_n (pc' := 89) dX12_has__88 rfl rfl (j := 1) rfl ?_
    refine G_X12_51_74 dX12_has__89 (pc' := 92) rfl rfl ?_
    obtain ⟨e4, h⟩ := h
    refine st_iaload (pc' := 93) (v := (gi I 82 (gi I 74 13).toNat)) dX12_has__92 rfl L_82 (by decide) e4 (show gi I 82 (gi I 74 13).toNat = (gi I 82 (gi I 74 13).toNat) from rfl) ?_
    exact st_iret (ty := .int) dX12_has__93 rfl rfl rfl h
  replace h := h.2 c
  have c2 := c
  clear c
  by_cases c : x1 = 3
  · replace h := h.1 c
    refine st_tblIn (pc' := 94) (off := 91) dX12_has__3 e1 (by omega) (by rw [c]; rfl) (by decide) ?_
    refine st_aload_n (pc' := 95) dX12_has__94 rfl rfl (j := 1) rfl ?_
    refine G_X12_75_74 dX12_has__95 (pc' := 98) rfl rfl ?_
    refine st_aload_n (pc' := 99) dX12_has__98 rfl rfl (j := 1) rfl ?_
    refine G_X12_51_74 dX12_has__99 (pc' := 102) rfl rfl ?_
    obtain ⟨e5, h⟩ := h
    refine st_iaload (pc' := 103) (v := (gi I 83 (gi I 74 13).toNat)) dX12_has__102 rfl L_83 (by decide) e5 (show gi I 83 (gi I 74 13).toNat = (gi I 83 (gi I 74 13).toNat) from rfl) ?_
    exact st_iret (ty := .int) dX12_has__103 rfl rfl rfl h
  replace h := h.2 c
  have c3 := c
  clear c
  by_cases c : x1 = 4
  · replace h := h.1 c
    refine st_tblIn (pc' := 104) (off := 101) dX12_has__3 e1 (by omega) (by rw [c]; rfl) (by decide) ?_
    refine st_aload_n (pc' := 105) dX12_has__104 rfl rfl (j := 1) rfl ?_
    refine G_X12_84_74 dX12_has__105 (pc' := 108) rfl rfl ?_
    refine st_aload_n (pc' := 109) dX12_has__108 rfl rfl (j := 1) rfl ?_
    refine G_X12_51_74 dX12_has__109 (pc' := 112) rfl rfl ?_
    obtain ⟨e6, h⟩ := h
    refine st_iaload (pc' := 113) (v := (gi I 86 (gi I 74 13).toNat)) dX12_has__112 rfl L_86 (by decide) e6 (show gi I 86 (gi I 74 13).toNat = (gi I 86 (gi I 74 13).toNat) from rfl) ?_
    exact st_iret (ty := .int) dX12_has__113 rfl rfl rfl h
  replace h := h.2 c
  have c4 := c
  clear c
  by_cases c : x1 = 5
  · replace h := h.1 c
    refine st_tblIn (pc' := 114) (off := 111) dX12_has__3 e1 (by omega) (by rw [c]; rfl) (by decide) ?_
    refine st_aload_n (pc' := 115) dX12_has__114 rfl rfl (j := 1) rfl ?_
    refine G_X12_90_74 dX12_has__115 (pc' := 118) rfl rfl ?_
    refine st_aload_n (pc' := 119) dX12_has__118 rfl rfl (j := 1) rfl ?_
    refine G_X12_51_74 dX12_has__119 (pc' := 122) rfl rfl ?_
    obtain ⟨e7, h⟩ := h
    refine st_iaload (pc' := 123) (v := (gi I 88 (gi I 74 13).toNat)) dX12_has__122 rfl L_88 (by decide) e7 (show gi I 88 (gi I 74 13).toNat = (gi I 88 (gi I 74 13).toNat) from rfl) ?_
    exact st_iret (ty := .int) dX12_has__123 rfl rfl rfl h
  replace h := h.2 c
  have c5 := c
  clear c
  by_cases c : x1 = 6
  · replace h := h.1 c
    refine st_tblIn (pc' := 124) (off := 121) dX12_has__3 e1 (by omega) (by rw [c]; rfl) (by decide) ?_
    refine st_aload_n (pc' := 125) dX12_has__124 rfl rfl (j := 1) rfl ?_
    refine G_X12_171_74 dX12_has__125 (pc' := 128) rfl rfl ?_
    refine st_iconst (pc' := 129) dX12_has__128 rfl ?_
    refine st_iaload (pc' := 130) (v := (gi I 108 0)) dX12_has__129 rfl L_108 (by decide) (by decide) (show gi I 108 0 = (gi I 108 0) from rfl) ?_
    exact st_iret (ty := .int) dX12_has__130 rfl rfl rfl h
  replace h := h.2 c
  have c6 := c
  clear c
  by_cases c : x1 = 7
  · replace h := h.1 c
    refine st_tblIn (pc' := 131) (off := 128) dX12_has__3 e1 (by omega) (by rw [c]; rfl) (by decide) ?_
    refine st_aload_n (pc' := 132) dX12_has__131 rfl rfl (j := 1) rfl ?_
    refine G_X12_174_74 dX12_has__132 (pc' := 135) rfl rfl ?_
    refine st_iconst (pc' := 136) dX12_has__135 rfl ?_
    refine st_iaload (pc' := 137) (v := (gi I 109 0)) dX12_has__136 rfl L_109 (by decide) (by decide) (show gi I 109 0 = (gi I 109 0) from rfl) ?_
    exact st_iret (ty := .int) dX12_has__137 rfl rfl rfl h
  replace h := h.2 c
  have c7 := c
  clear c
  by_cases c : x1 = 8
  · replace h := h.1 c
    refine st_tblIn (pc' := 138) (off := 135) dX12_has__3 e1 (by omega) (by rw [c]; rfl) (by decide) ?_
    refine st_aload_n (pc' := 139) dX12_has__138 rfl rfl (j := 1) rfl ?_
    refine G_X12_198_74 dX12_has__139 (pc' := 142) rfl rfl ?_
    refine st_iconst (pc' := 143) dX12_has__142 rfl ?_
    refine st_iaload (pc' := 144) (v := (gi I 117 0)) dX12_has__143 rfl L_117 (by decide) (by decide) (show gi I 117 0 = (gi I 117 0) from rfl) ?_
    exact st_iret (ty := .int) dX12_has__144 rfl rfl rfl h
  replace h := h.2 c
  have c8 := c
  clear c
  by_cases c : x1 = 9
  · replace h := h.1 c
    refine st_tblIn (pc' := 145) (off := 142) dX12_has__3 e1 (by omega) (by rw [c]; rfl) (by decide) ?_
    refine st_iconst (pc' := 146) dX12_has__145 rfl ?_
    refine st_istore_n (pc' := 147) (L' := [(3, vI 0), (2, vI 0), (0, vR (some 74)), (1, vI x1)]) dX12_has__146 rfl rfl (by decide) rfl ?_
    refine WP_sub (L' := [(0, vR (some 74)), (2, vI 0), (3, vI 0)]) [2, 1, 0] rfl ?_
    exact h
  replace h := h.2 c
  have c9 := c
  clear c
  by_cases c : x1 = 10
  · replace h := h.1 c
    refine st_tblIn (pc' := 180) (off := 177) dX12_has__3 e1 (by omega) (by rw [c]; rfl) (by decide) ?_
    refine st_aload_n (pc' := 181) dX12_has__180 rfl rfl (j := 1) rfl ?_
    refine G_X12_213_74 dX12_has__181 (pc' := 184) rfl rfl ?_
    exact st_iret (ty := .int) dX12_has__184 rfl rfl rfl h
  replace h := h.2 c
  have c10 := c
  clear c
  by_cases c : x1 = 11
  · replace h := h.1 c
    refine st_tblIn (pc' := 185) (off := 182) dX12_has__3 e1 (by omega) (by rw [c]; rfl) (by decide) ?_
    refine st_aload_n (pc' := 186) dX12_has__185 rfl rfl (j := 1) rfl ?_
    refine G_X12_216_74 dX12_has__186 (pc' := 189) rfl rfl ?_
    refine st_l2i (pc' := 190) dX12_has__189 rfl ?_
    exact st_iret (ty := .int) dX12_has__190 rfl rfl rfl h
  replace h := h.2 c
  have c11 := c
  clear c
  have go : WP k LAY m_X12_has_ 191 [(2, vI 0), (0, vR (some 74)), (1, vI x1)] [] (mem (P, some 5, some 22) I J) Q := by
    refine st_iconst (pc' := 192) dX12_has__191 rfl ?_
    exact st_iret (ty := .int) dX12_has__192 rfl rfl rfl h
  exact st_tblOut (pc' := 191) dX12_has__3 e1 (by omega) (by decide) go
set_option maxRecDepth 20000 in
set_option maxHeartbeats 4000000 in
theorem B_X12_has__147 {k : Nat} {P : Option Nat} {I : Nat → Nat → Int32} {J : Nat → Nat → Int64} {x2 : Int} {x3 : Int} {Q : Option AV → Mem → Prop} (hk : 1 ≤ k) (h : (0 ≤ (gi I 74 13) ∧ (gi I 74 13) < 2) ∧ (inR x3 ∧ (((gi I 83 (gi I 74 13).toNat) ≤ x3 → (Q (some (vI x2)) (mem (P, some 5, some 22) I J))) ∧ (¬ (gi I 83 (gi I 74 13).toNat) ≤ x3 → ((0 ≤ ((6 * 0) + x3) ∧ ((6 * 0) + x3) < 132) ∧ (WPm (k - 1) LAY m_X12_bits [vI (or32 (gi I 111 (((6 * 0) + x3) : Int).toNat) (gi I 112 (((6 * 0) + x3) : Int).toNat))] (mem (P, some 5, some 22) I J) (retI (fun v4 I5 J6 => WP k LAY m_X12_has_ 147 [(0, vR (some 74)), (2, vI (x2 + v4)), (3, vI (x3 + 1))] [] (mem (P, some 5, some 22) I5 J6) Q) (P, some 5, some 22)))))))) : WP k LAY m_X12_has_ 147 [(0, vR (some 74)), (2, vI x2), (3, vI x3)] [] (mem (P, some 5, some 22) I J) Q := by
  refine st_iload_n (pc' := 148) dX12_has__147 rfl rfl (j := 2) rfl ?_
  refine st_aload_n (pc' := 149) dX12_has__148 rfl rfl (j := 0) rfl ?_
  refine G_X12_75_74 dX12_has__149 (pc' := 152) rfl rfl ?_
  refine st_aload_n (pc' := 153) dX12_has__152 rfl rfl (j := 0) rfl ?_
  refine G_X12_51_74 dX12_has__153 (pc' := 156) rfl rfl ?_
  obtain ⟨e1, h⟩ := h
  refine st_iaload (pc' := 157) (v := (gi I 83 (gi I 74 13).toNat)) dX12_has__156 rfl L_83 (by decide) e1 (show gi I 83 (gi I 74 13).toNat = (gi I 83 (gi I 74 13).toNat) from rfl) ?_
  obtain ⟨e2, h⟩ := h
  refine st_icmp_ge (tg := 178) (pc' := 160) dX12_has__157 (by decide) rfl e2 (gi_in _ _ _) (fun c => ?_) (fun c => ?_)
  · replace h := h.1 c
    refine st_iload_n (pc' := 179) dX12_has__178 rfl rfl (j := 1) rfl ?_
    exact st_iret (ty := .int) dX12_has__179 rfl rfl rfl h
  · replace h := h.2 c
    refine st_iload_n (pc' := 161) dX12_has__160 rfl rfl (j := 1) rfl ?_
    refine st_aload_n (pc' := 162) dX12_has__161 rfl rfl (j := 0) rfl ?_
    refine st_iconst (pc' := 163) dX12_has__162 rfl ?_
    refine st_iload_n (pc' := 164) dX12_has__163 rfl rfl (j := 2) rfl ?_
    refine st_callV (pc' := 167) (kc := k - 1) (E' := LAY) (cal := m_X12_known) (n := 2) (as := [vI 0, vI x3]) (S := [vI x2]) dX12_has__164 rfl l_X12_473 k_X12_known rfl L_74 c_X12 rfl rfl (Nat.le_of_ble_eq_true rfl) (by omega) ⟨Nat.le_refl _, Nat.le_refl _, Nat.le_refl _, Nat.le_refl _⟩ (Q1 := fun r M' => WP k LAY m_X12_has_ 167 [(0, vR (some 74)), (2, vI x2), (3, vI x3)] (r.toList ++ [vI x2]) M' Q) (WPm.of k_X12_known.1 (Nat.le_of_ble_eq_true rfl) (B_X12_known_0 (by omega) ?_)) (fun r M' q => q)
    obtain ⟨e3, h⟩ := h
    refine ⟨e3, ?_⟩
    change WP _ LAY m_X12_has_ 167 [(0, vR (some 74)), (2, vI x2), (3, vI x3)] [vI (or32 (gi I 111 (((6 * 0) + x3) : Int).toNat) (gi I 112 (((6 * 0) + x3) : Int).toNat)), vI x2] (mem (P, some 5, some 22) I J) Q
    refine st_callS (pc' := 170) (kc := k - 1) (E' := LAY) (cal := m_X12_bits) (n := 1) (as := [vI (or32 (gi I 111 (((6 * 0) + x3) : Int).toNat) (gi I 112 (((6 * 0) + x3) : Int).toNat))]) (S := [vI x2]) dX12_has__167 rfl l_X12_482 k_X12_bits rfl rfl (Nat.le_of_ble_eq_true rfl) (by omega) ⟨Nat.le_refl _, Nat.le_refl _, Nat.le_refl _, Nat.le_refl _⟩ h (fun r M' q => ?_)
    obtain ⟨v4, I5, J6, rfl, rfl, h⟩ := q
    change WP _ LAY m_X12_has_ 170 [(0, vR (some 74)), (2, vI x2), (3, vI x3)] [vI v4, vI x2] (mem (P, some 5, some 22) I5 J6) Q
    refine st_iadd (pc' := 171) dX12_has__170 rfl ?_
    refine st_istore_n (pc' := 172) (L' := [(2, vI (x2 + v4)), (0, vR (some 74)), (3, vI x3)]) dX12_has__171 rfl rfl (by decide) rfl ?_
    refine st_iinc (pc' := 175) (L' := [(3, vI (x3 + 1)), (2, vI (x2 + v4)), (0, vR (some 74))]) (j := 2) dX12_has__172 rfl (by decide) rfl rfl ?_
    refine st_goto (pc' := 147) dX12_has__175 (by decide) ?_
    refine WP_sub (L' := [(0, vR (some 74)), (2, vI (x2 + v4)), (3, vI (x3 + 1))]) [2, 1, 0] rfl ?_
    exact h
set_option maxRecDepth 20000 in
set_option maxHeartbeats 4000000 in
theorem B_X12_writes_0 {k : Nat} {P : Option Nat} {I : Nat → Nat → Int32} {J : Nat → Nat → Int64} {x1 : Int} {Q : Option AV → Mem → Prop} (hk : 0 ≤ k) (h : (0 ≤ (gi I 74 87) ∧ (gi I 74 87) < 110) ∧ (Q none (mem (P, some 5, some 22) (si (si I 131 (gi I 74 87).toNat (and32 x1 255)) 74 87 ((gi I 74 87) + 1)) J))) : WP k LAY m_X12_writes 0 [(0, vR (some 74)), (1, vI x1)] [] (mem (P, some 5, some 22) I J) Q := by
  refine st_aload_n (pc' := 1) dX12_writes_0 rfl rfl (j := 0) rfl ?_
  refine G_X12_273_74 dX12_writes_1 (pc' := 4) rfl rfl ?_
  refine st_aload_n (pc' := 5) dX12_writes_4 rfl rfl (j := 0) rfl ?_
  refine G_X12_276_74 dX12_writes_5 (pc' := 8) rfl rfl ?_
  refine st_iload_n (pc' := 9) dX12_writes_8 rfl rfl (j := 1) rfl ?_
  refine st_sipush (pc' := 12) dX12_writes_9 rfl (by decide) ?_
  refine st_iand (pc' := 13) (z := (and32 x1 255)) dX12_writes_12 rfl rfl ?_
  obtain ⟨e1, h⟩ := h
  refine st_iastore (pc' := 14) (M' := (mem (P, some 5, some 22) (si I 131 (gi I 74 87).toNat (and32 x1 255)) J)) dX12_writes_13 rfl L_131 (by decide) e1 rfl ?_
  refine st_aload_n (pc' := 15) dX12_writes_14 rfl rfl (j := 0) rfl ?_
  refine st_dup (pc' := 16) dX12_writes_15 rfl rfl ?_
  refine G_X12_276_74 dX12_writes_16 (pc' := 19) rfl rfl ?_
  rw [show gi (si I 131 (gi I 74 87).toNat (and32 x1 255)) 74 87 = (gi I 74 87) from (gi_cell _ _ _ _ (by decide))]
  refine st_iconst (pc' := 20) dX12_writes_19 rfl ?_
  refine st_iadd (pc' := 21) dX12_writes_20 rfl ?_
  refine P_X12_276_74 dX12_writes_21 (pc' := 24) rfl rfl ?_
  exact st_vret dX12_writes_24 rfl rfl h
set_option maxRecDepth 20000 in
set_option maxHeartbeats 4000000 in
theorem B_X12_writesTwo_0 {k : Nat} {P : Option Nat} {I : Nat → Nat → Int32} {J : Nat → Nat → Int64} {x1 : Int} {Q : Option AV → Mem → Prop} (hk : 1 ≤ k) (h : WPm (k - 1) LAY m_X12_writes [vR (some 74), vI (shr32 x1 8)] (mem (P, some 5, some 22) I J) (retV (fun I2 J3 => WPm (k - 1) LAY m_X12_writes [vR (some 74), vI x1] (mem (P, some 5, some 22) I2 J3) (retV (fun I5 J6 => Q none (mem (P, some 5, some 22) I5 J6)) (P, some 5, some 22))) (P, some 5, some 22))) : WP k LAY m_X12_writesTwo 0 [(0, vR (some 74)), (1, vI x1)] [] (mem (P, some 5, some 22) I J) Q := by
  refine st_aload_n (pc' := 1) dX12_writesTwo_0 rfl rfl (j := 0) rfl ?_
  refine st_iload_n (pc' := 2) dX12_writesTwo_1 rfl rfl (j := 1) rfl ?_
  refine st_bipush (pc' := 4) dX12_writesTwo_2 rfl (by decide) ?_
  refine st_ishr (pc' := 5) (z := (shr32 x1 8)) dX12_writesTwo_4 rfl rfl ?_
  refine st_callV (pc' := 8) (kc := k - 1) (E' := LAY) (cal := m_X12_writes) (n := 1) (as := [vI (shr32 x1 8)]) (S := []) dX12_writesTwo_5 rfl l_X12_617 k_X12_writes rfl L_74 c_X12 rfl rfl (Nat.le_of_ble_eq_true rfl) (by omega) ⟨Nat.le_refl _, Nat.le_refl _, Nat.le_refl _, Nat.le_refl _⟩ h (fun r M' q => ?_)
  obtain ⟨I2, J3, rfl, rfl, h⟩ := q
  change WP _ LAY m_X12_writesTwo 8 [(0, vR (some 74)), (1, vI x1)] [] (mem (P, some 5, some 22) I2 J3) Q
  refine st_aload_n (pc' := 9) dX12_writesTwo_8 rfl rfl (j := 0) rfl ?_
  refine st_iload_n (pc' := 10) dX12_writesTwo_9 rfl rfl (j := 1) rfl ?_
  refine st_callV (pc' := 13) (kc := k - 1) (E' := LAY) (cal := m_X12_writes) (n := 1) (as := [vI x1]) (S := []) dX12_writesTwo_10 rfl l_X12_617 k_X12_writes rfl L_74 c_X12 rfl rfl (Nat.le_of_ble_eq_true rfl) (by omega) ⟨Nat.le_refl _, Nat.le_refl _, Nat.le_refl _, Nat.le_refl _⟩ h (fun r M' q => ?_)
  obtain ⟨I5, J6, rfl, rfl, h⟩ := q
  change WP _ LAY m_X12_writesTwo 13 [(0, vR (some 74)), (1, vI x1)] [] (mem (P, some 5, some 22) I5 J6) Q
  exact st_vret dX12_writesTwo_13 rfl rfl h
set_option maxRecDepth 20000 in
set_option maxHeartbeats 4000000 in
theorem B_X12_image_0 {k : Nat} {P : Option Nat} {I : Nat → Nat → Int32} {J : Nat → Nat → Int64}  {Q : Option AV → Mem → Prop} (hk : 1 ≤ k) (h : WPm (k - 1) LAY m_X12_writesTwo [vR (some 74), vI (gi I 108 0)] (mem (P, some 5, some 22) (si I 74 87 0) J) (retV (fun I2 J3 => WPm (k - 1) LAY m_X12_writesTwo [vR (some 74), vI (gi I2 109 0)] (mem (P, some 5, some 22) I2 J3) (retV (fun I5 J6 => WP k LAY m_X12_image 27 [(0, vR (some 74)), (1, vI 0)] [] (mem (P, some 5, some 22) I5 J6) Q) (P, some 5, some 22))) (P, some 5, some 22))) : WP k LAY m_X12_image 0 [(0, vR (some 74))] [] (mem (P, some 5, some 22) I J) Q := by
  refine st_aload_n (pc' := 1) dX12_image_0 rfl rfl (j := 0) rfl ?_
  refine st_iconst (pc' := 2) dX12_image_1 rfl ?_
  refine P_X12_276_74 dX12_image_2 (pc' := 5) rfl rfl ?_
  refine st_aload_n (pc' := 6) dX12_image_5 rfl rfl (j := 0) rfl ?_
  refine st_aload_n (pc' := 7) dX12_image_6 rfl rfl (j := 0) rfl ?_
  refine G_X12_171_74 dX12_image_7 (pc' := 10) rfl rfl ?_
  refine st_iconst (pc' := 11) dX12_image_10 rfl ?_
  refine st_iaload (pc' := 12) (v := (gi I 108 0)) dX12_image_11 rfl L_108 (by decide) (by decide) (show gi (si I 74 87 0) 108 0 = (gi I 108 0) from (gi_cell _ _ _ _ (by decide))) ?_
  refine st_callV (pc' := 15) (kc := k - 1) (E' := LAY) (cal := m_X12_writesTwo) (n := 1) (as := [vI (gi I 108 0)]) (S := []) dX12_image_12 rfl l_X12_620 k_X12_writesTwo rfl L_74 c_X12 rfl rfl (Nat.le_of_ble_eq_true rfl) (by omega) ⟨Nat.le_refl _, Nat.le_refl _, Nat.le_refl _, Nat.le_refl _⟩ h (fun r M' q => ?_)
  obtain ⟨I2, J3, rfl, rfl, h⟩ := q
  change WP _ LAY m_X12_image 15 [(0, vR (some 74))] [] (mem (P, some 5, some 22) I2 J3) Q
  refine st_aload_n (pc' := 16) dX12_image_15 rfl rfl (j := 0) rfl ?_
  refine st_aload_n (pc' := 17) dX12_image_16 rfl rfl (j := 0) rfl ?_
  refine G_X12_174_74 dX12_image_17 (pc' := 20) rfl rfl ?_
  refine st_iconst (pc' := 21) dX12_image_20 rfl ?_
  refine st_iaload (pc' := 22) (v := (gi I2 109 0)) dX12_image_21 rfl L_109 (by decide) (by decide) (show gi I2 109 0 = (gi I2 109 0) from rfl) ?_
  refine st_callV (pc' := 25) (kc := k - 1) (E' := LAY) (cal := m_X12_writesTwo) (n := 1) (as := [vI (gi I2 109 0)]) (S := []) dX12_image_22 rfl l_X12_620 k_X12_writesTwo rfl L_74 c_X12 rfl rfl (Nat.le_of_ble_eq_true rfl) (by omega) ⟨Nat.le_refl _, Nat.le_refl _, Nat.le_refl _, Nat.le_refl _⟩ h (fun r M' q => ?_)
  obtain ⟨I5, J6, rfl, rfl, h⟩ := q
  change WP _ LAY m_X12_image 25 [(0, vR (some 74))] [] (mem (P, some 5, some 22) I5 J6) Q
  refine st_iconst (pc' := 26) dX12_image_25 rfl ?_
  refine st_istore_n (pc' := 27) (L' := [(1, vI 0), (0, vR (some 74))]) dX12_image_26 rfl rfl (by decide) rfl ?_
  refine WP_sub (L' := [(0, vR (some 74)), (1, vI 0)]) [1, 0] rfl ?_
  exact h
set_option maxRecDepth 20000 in
set_option maxHeartbeats 4000000 in
theorem B_X12_image_27 {k : Nat} {P : Option Nat} {I : Nat → Nat → Int32} {J : Nat → Nat → Int64} {x1 : Int} {Q : Option AV → Mem → Prop} (hk : 1 ≤ k) (h : (0 ≤ (gi I 74 13) ∧ (gi I 74 13) < 2) ∧ (inR x1 ∧ (((gi I 83 (gi I 74 13).toNat) ≤ x1 → (WP k LAY m_X12_image 146 [(0, vR (some 74)), (1, vI 83), (2, vI 0)] [] (mem (P, some 5, some 22) I J) Q)) ∧ (¬ (gi I 83 (gi I 74 13).toNat) ≤ x1 → ((0 ≤ x1 ∧ x1 < 132) ∧ (WPm (k - 1) LAY m_X12_writes [vR (some 74), vI (gi I 110 (x1).toNat)] (mem (P, some 5, some 22) I J) (retV (fun I5 J6 => WPm (k - 1) LAY m_X12_writesTwo [vR (some 74), vI (gi I5 111 (x1).toNat)] (mem (P, some 5, some 22) I5 J6) (retV (fun I8 J9 => WPm (k - 1) LAY m_X12_writesTwo [vR (some 74), vI (gi I8 112 (x1).toNat)] (mem (P, some 5, some 22) I8 J9) (retV (fun I11 J12 => WPm (k - 1) LAY m_X12_writes [vR (some 74), vI ((gi I11 113 (x1).toNat) + 1)] (mem (P, some 5, some 22) I11 J12) (retV (fun I14 J15 => WPm (k - 1) LAY m_X12_writesTwo [vR (some 74), vI (gi I14 114 (x1).toNat)] (mem (P, some 5, some 22) I14 J15) (retV (fun I17 J18 => WPm (k - 1) LAY m_X12_writes [vR (some 74), vI (gi I17 115 (x1).toNat)] (mem (P, some 5, some 22) I17 J18) (retV (fun I20 J21 => WP k LAY m_X12_image 104 [(0, vR (some 74)), (1, vI x1), (2, vI 0)] [] (mem (P, some 5, some 22) I20 J21) Q) (P, some 5, some 22))) (P, some 5, some 22))) (P, some 5, some 22))) (P, some 5, some 22))) (P, some 5, some 22))) (P, some 5, some 22)))))))) : WP k LAY m_X12_image 27 [(0, vR (some 74)), (1, vI x1)] [] (mem (P, some 5, some 22) I J) Q := by
  refine st_iload_n (pc' := 28) dX12_image_27 rfl rfl (j := 1) rfl ?_
  refine st_aload_n (pc' := 29) dX12_image_28 rfl rfl (j := 0) rfl ?_
  refine G_X12_75_74 dX12_image_29 (pc' := 32) rfl rfl ?_
  refine st_aload_n (pc' := 33) dX12_image_32 rfl rfl (j := 0) rfl ?_
  refine G_X12_51_74 dX12_image_33 (pc' := 36) rfl rfl ?_
  obtain ⟨e1, h⟩ := h
  refine st_iaload (pc' := 37) (v := (gi I 83 (gi I 74 13).toNat)) dX12_image_36 rfl L_83 (by decide) e1 (show gi I 83 (gi I 74 13).toNat = (gi I 83 (gi I 74 13).toNat) from rfl) ?_
  obtain ⟨e2, h⟩ := h
  refine st_icmp_ge (tg := 141) (pc' := 40) dX12_image_37 (by decide) rfl e2 (gi_in _ _ _) (fun c => ?_) (fun c => ?_)
  · replace h := h.1 c
    refine st_bipush (pc' := 143) dX12_image_141 rfl (by decide) ?_
    refine st_istore_n (pc' := 144) (L' := [(1, vI 83), (0, vR (some 74))]) dX12_image_143 rfl rfl (by decide) rfl ?_
    refine st_iconst (pc' := 145) dX12_image_144 rfl ?_
    refine st_istore_n (pc' := 146) (L' := [(2, vI 0), (1, vI 83), (0, vR (some 74))]) dX12_image_145 rfl rfl (by decide) rfl ?_
    refine WP_sub (L' := [(0, vR (some 74)), (1, vI 83), (2, vI 0)]) [2, 1, 0] rfl ?_
    exact h
  · replace h := h.2 c
    refine st_aload_n (pc' := 41) dX12_image_40 rfl rfl (j := 0) rfl ?_
    refine st_aload_n (pc' := 42) dX12_image_41 rfl rfl (j := 0) rfl ?_
    refine G_X12_177_74 dX12_image_42 (pc' := 45) rfl rfl ?_
    refine st_iload_n (pc' := 46) dX12_image_45 rfl rfl (j := 1) rfl ?_
    obtain ⟨e3, h⟩ := h
    refine st_iaload (pc' := 47) (v := (gi I 110 (x1).toNat)) dX12_image_46 rfl L_110 (by decide) e3 (show gi I 110 (x1).toNat = (gi I 110 (x1).toNat) from rfl) ?_
    refine st_callV (pc' := 50) (kc := k - 1) (E' := LAY) (cal := m_X12_writes) (n := 1) (as := [vI (gi I 110 (x1).toNat)]) (S := []) dX12_image_47 rfl l_X12_617 k_X12_writes rfl L_74 c_X12 rfl rfl (Nat.le_of_ble_eq_true rfl) (by omega) ⟨Nat.le_refl _, Nat.le_refl _, Nat.le_refl _, Nat.le_refl _⟩ h (fun r M' q => ?_)
    obtain ⟨I5, J6, rfl, rfl, h⟩ := q
    change WP _ LAY m_X12_image 50 [(0, vR (some 74)), (1, vI x1)] [] (mem (P, some 5, some 22) I5 J6) Q
    refine st_aload_n (pc' := 51) dX12_image_50 rfl rfl (j := 0) rfl ?_
    refine st_aload_n (pc' := 52) dX12_image_51 rfl rfl (j := 0) rfl ?_
    refine G_X12_180_74 dX12_image_52 (pc' := 55) rfl rfl ?_
    refine st_iload_n (pc' := 56) dX12_image_55 rfl rfl (j := 1) rfl ?_
    refine st_iaload (pc' := 57) (v := (gi I5 111 (x1).toNat)) dX12_image_56 rfl L_111 (by decide) e3 (show gi I5 111 (x1).toNat = (gi I5 111 (x1).toNat) from rfl) ?_
    refine st_callV (pc' := 60) (kc := k - 1) (E' := LAY) (cal := m_X12_writesTwo) (n := 1) (as := [vI (gi I5 111 (x1).toNat)]) (S := []) dX12_image_57 rfl l_X12_620 k_X12_writesTwo rfl L_74 c_X12 rfl rfl (Nat.le_of_ble_eq_true rfl) (by omega) ⟨Nat.le_refl _, Nat.le_refl _, Nat.le_refl _, Nat.le_refl _⟩ h (fun r M' q => ?_)
    obtain ⟨I8, J9, rfl, rfl, h⟩ := q
    change WP _ LAY m_X12_image 60 [(0, vR (some 74)), (1, vI x1)] [] (mem (P, some 5, some 22) I8 J9) Q
    refine st_aload_n (pc' := 61) dX12_image_60 rfl rfl (j := 0) rfl ?_
    refine st_aload_n (pc' := 62) dX12_image_61 rfl rfl (j := 0) rfl ?_
    refine G_X12_183_74 dX12_image_62 (pc' := 65) rfl rfl ?_
    refine st_iload_n (pc' := 66) dX12_image_65 rfl rfl (j := 1) rfl ?_
    refine st_iaload (pc' := 67) (v := (gi I8 112 (x1).toNat)) dX12_image_66 rfl L_112 (by decide) e3 (show gi I8 112 (x1).toNat = (gi I8 112 (x1).toNat) from rfl) ?_
    refine st_callV (pc' := 70) (kc := k - 1) (E' := LAY) (cal := m_X12_writesTwo) (n := 1) (as := [vI (gi I8 112 (x1).toNat)]) (S := []) dX12_image_67 rfl l_X12_620 k_X12_writesTwo rfl L_74 c_X12 rfl rfl (Nat.le_of_ble_eq_true rfl) (by omega) ⟨Nat.le_refl _, Nat.le_refl _, Nat.le_refl _, Nat.le_refl _⟩ h (fun r M' q => ?_)
    obtain ⟨I11, J12, rfl, rfl, h⟩ := q
    change WP _ LAY m_X12_image 70 [(0, vR (some 74)), (1, vI x1)] [] (mem (P, some 5, some 22) I11 J12) Q
    refine st_aload_n (pc' := 71) dX12_image_70 rfl rfl (j := 0) rfl ?_
    refine st_aload_n (pc' := 72) dX12_image_71 rfl rfl (j := 0) rfl ?_
    refine G_X12_186_74 dX12_image_72 (pc' := 75) rfl rfl ?_
    refine st_iload_n (pc' := 76) dX12_image_75 rfl rfl (j := 1) rfl ?_
    refine st_iaload (pc' := 77) (v := (gi I11 113 (x1).toNat)) dX12_image_76 rfl L_113 (by decide) e3 (show gi I11 113 (x1).toNat = (gi I11 113 (x1).toNat) from rfl) ?_
    refine st_iconst (pc' := 78) dX12_image_77 rfl ?_
    refine st_iadd (pc' := 79) dX12_image_78 rfl ?_
    refine st_callV (pc' := 82) (kc := k - 1) (E' := LAY) (cal := m_X12_writes) (n := 1) (as := [vI ((gi I11 113 (x1).toNat) + 1)]) (S := []) dX12_image_79 rfl l_X12_617 k_X12_writes rfl L_74 c_X12 rfl rfl (Nat.le_of_ble_eq_true rfl) (by omega) ⟨Nat.le_refl _, Nat.le_refl _, Nat.le_refl _, Nat.le_refl _⟩ h (fun r M' q => ?_)
    obtain ⟨I14, J15, rfl, rfl, h⟩ := q
    change WP _ LAY m_X12_image 82 [(0, vR (some 74)), (1, vI x1)] [] (mem (P, some 5, some 22) I14 J15) Q
    refine st_aload_n (pc' := 83) dX12_image_82 rfl rfl (j := 0) rfl ?_
    refine st_aload_n (pc' := 84) dX12_image_83 rfl rfl (j := 0) rfl ?_
    refine G_X12_189_74 dX12_image_84 (pc' := 87) rfl rfl ?_
    refine st_iload_n (pc' := 88) dX12_image_87 rfl rfl (j := 1) rfl ?_
    refine st_iaload (pc' := 89) (v := (gi I14 114 (x1).toNat)) dX12_image_88 rfl L_114 (by decide) e3 (show gi I14 114 (x1).toNat = (gi I14 114 (x1).toNat) from rfl) ?_
    refine st_callV (pc' := 92) (kc := k - 1) (E' := LAY) (cal := m_X12_writesTwo) (n := 1) (as := [vI (gi I14 114 (x1).toNat)]) (S := []) dX12_image_89 rfl l_X12_620 k_X12_writesTwo rfl L_74 c_X12 rfl rfl (Nat.le_of_ble_eq_true rfl) (by omega) ⟨Nat.le_refl _, Nat.le_refl _, Nat.le_refl _, Nat.le_refl _⟩ h (fun r M' q => ?_)
    obtain ⟨I17, J18, rfl, rfl, h⟩ := q
    change WP _ LAY m_X12_image 92 [(0, vR (some 74)), (1, vI x1)] [] (mem (P, some 5, some 22) I17 J18) Q
    refine st_aload_n (pc' := 93) dX12_image_92 rfl rfl (j := 0) rfl ?_
    refine st_aload_n (pc' := 94) dX12_image_93 rfl rfl (j := 0) rfl ?_
    refine G_X12_192_74 dX12_image_94 (pc' := 97) rfl rfl ?_
    refine st_iload_n (pc' := 98) dX12_image_97 rfl rfl (j := 1) rfl ?_
    refine st_iaload (pc' := 99) (v := (gi I17 115 (x1).toNat)) dX12_image_98 rfl L_115 (by decide) e3 (show gi I17 115 (x1).toNat = (gi I17 115 (x1).toNat) from rfl) ?_
    refine st_callV (pc' := 102) (kc := k - 1) (E' := LAY) (cal := m_X12_writes) (n := 1) (as := [vI (gi I17 115 (x1).toNat)]) (S := []) dX12_image_99 rfl l_X12_617 k_X12_writes rfl L_74 c_X12 rfl rfl (Nat.le_of_ble_eq_true rfl) (by omega) ⟨Nat.le_refl _, Nat.le_refl _, Nat.le_refl _, Nat.le_refl _⟩ h (fun r M' q => ?_)
    obtain ⟨I20, J21, rfl, rfl, h⟩ := q
    change WP _ LAY m_X12_image 102 [(0, vR (some 74)), (1, vI x1)] [] (mem (P, some 5, some 22) I20 J21) Q
    refine st_iconst (pc' := 103) dX12_image_102 rfl ?_
    refine st_istore_n (pc' := 104) (L' := [(2, vI 0), (0, vR (some 74)), (1, vI x1)]) dX12_image_103 rfl rfl (by decide) rfl ?_
    refine WP_sub (L' := [(0, vR (some 74)), (1, vI x1), (2, vI 0)]) [1, 2, 0] rfl ?_
    exact h
set_option maxRecDepth 20000 in
set_option maxHeartbeats 4000000 in
theorem B_X12_image_146 {k : Nat} {P : Option Nat} {I : Nat → Nat → Int32} {J : Nat → Nat → Int64} {x1 : Int} {x2 : Int} {Q : Option AV → Mem → Prop} (hk : 1 ≤ k) (h : inR x2 ∧ (((gi I 74 87) ≤ x2 → (WPm (k - 1) LAY m_X12_writes [vR (some 74), vI x1] (mem (P, some 5, some 22) I J) (retV (fun I3 J4 => Q (some (vI (gi I3 74 87))) (mem (P, some 5, some 22) I3 J4)) (P, some 5, some 22)))) ∧ (¬ (gi I 74 87) ≤ x2 → ((0 ≤ x2 ∧ x2 < 110) ∧ (WP k LAY m_X12_image 146 [(0, vR (some 74)), (1, vI (rem32 ((5 * x1) + (gi I 131 (x2).toNat)) 251)), (2, vI (x2 + 1))] [] (mem (P, some 5, some 22) I J) Q))))) : WP k LAY m_X12_image 146 [(0, vR (some 74)), (1, vI x1), (2, vI x2)] [] (mem (P, some 5, some 22) I J) Q := by
  refine st_iload_n (pc' := 147) dX12_image_146 rfl rfl (j := 2) rfl ?_
  refine st_aload_n (pc' := 148) dX12_image_147 rfl rfl (j := 0) rfl ?_
  refine G_X12_276_74 dX12_image_148 (pc' := 151) rfl rfl ?_
  obtain ⟨e1, h⟩ := h
  refine st_icmp_ge (tg := 175) (pc' := 154) dX12_image_151 (by decide) rfl e1 (gi_in _ _ _) (fun c => ?_) (fun c => ?_)
  · replace h := h.1 c
    refine st_aload_n (pc' := 176) dX12_image_175 rfl rfl (j := 0) rfl ?_
    refine st_iload_n (pc' := 177) dX12_image_176 rfl rfl (j := 1) rfl ?_
    refine st_callV (pc' := 180) (kc := k - 1) (E' := LAY) (cal := m_X12_writes) (n := 1) (as := [vI x1]) (S := []) dX12_image_177 rfl l_X12_617 k_X12_writes rfl L_74 c_X12 rfl rfl (Nat.le_of_ble_eq_true rfl) (by omega) ⟨Nat.le_refl _, Nat.le_refl _, Nat.le_refl _, Nat.le_refl _⟩ h (fun r M' q => ?_)
    obtain ⟨I3, J4, rfl, rfl, h⟩ := q
    change WP _ LAY m_X12_image 180 [(0, vR (some 74)), (1, vI x1), (2, vI x2)] [] (mem (P, some 5, some 22) I3 J4) Q
    refine st_aload_n (pc' := 181) dX12_image_180 rfl rfl (j := 0) rfl ?_
    refine G_X12_276_74 dX12_image_181 (pc' := 184) rfl rfl ?_
    exact st_iret (ty := .int) dX12_image_184 rfl rfl rfl h
  · replace h := h.2 c
    refine st_iconst (pc' := 155) dX12_image_154 rfl ?_
    refine st_iload_n (pc' := 156) dX12_image_155 rfl rfl (j := 1) rfl ?_
    refine st_imul (pc' := 157) dX12_image_156 rfl ?_
    refine st_aload_n (pc' := 158) dX12_image_157 rfl rfl (j := 0) rfl ?_
    refine G_X12_273_74 dX12_image_158 (pc' := 161) rfl rfl ?_
    refine st_iload_n (pc' := 162) dX12_image_161 rfl rfl (j := 2) rfl ?_
    obtain ⟨e5, h⟩ := h
    refine st_iaload (pc' := 163) (v := (gi I 131 (x2).toNat)) dX12_image_162 rfl L_131 (by decide) e5 (show gi I 131 (x2).toNat = (gi I 131 (x2).toNat) from rfl) ?_
    refine st_iadd (pc' := 164) dX12_image_163 rfl ?_
    refine st_sipush (pc' := 167) dX12_image_164 rfl (by decide) ?_
    refine st_irem (pc' := 168) (z := (rem32 ((5 * x1) + (gi I 131 (x2).toNat)) 251)) dX12_image_167 rfl (by decide) rfl ?_
    refine st_istore_n (pc' := 169) (L' := [(1, vI (rem32 ((5 * x1) + (gi I 131 (x2).toNat)) 251)), (0, vR (some 74)), (2, vI x2)]) dX12_image_168 rfl rfl (by decide) rfl ?_
    refine st_iinc (pc' := 172) (L' := [(2, vI (x2 + 1)), (1, vI (rem32 ((5 * x1) + (gi I 131 (x2).toNat)) 251)), (0, vR (some 74))]) (j := 2) dX12_image_169 rfl (by decide) rfl rfl ?_
    refine st_goto (pc' := 146) dX12_image_172 (by decide) ?_
    refine WP_sub (L' := [(0, vR (some 74)), (1, vI (rem32 ((5 * x1) + (gi I 131 (x2).toNat)) 251)), (2, vI (x2 + 1))]) [2, 1, 0] rfl ?_
    exact h
set_option maxRecDepth 20000 in
set_option maxHeartbeats 4000000 in
theorem B_X12_image_104 {k : Nat} {P : Option Nat} {I : Nat → Nat → Int32} {J : Nat → Nat → Int64} {x1 : Int} {x2 : Int} {Q : Option AV → Mem → Prop} (hk : 1 ≤ k) (h : (0 ≤ x1 ∧ x1 < 132) ∧ (inR x2 ∧ (((gi I 115 (x1).toNat) ≤ x2 → (WP k LAY m_X12_image 27 [(0, vR (some 74)), (1, vI (x1 + 1))] [] (mem (P, some 5, some 22) I J) Q)) ∧ (¬ (gi I 115 (x1).toNat) ≤ x2 → ((0 ≤ ((8 * x1) + x2) ∧ ((8 * x1) + x2) < 1056) ∧ (WPm (k - 1) LAY m_X12_writes [vR (some 74), vI (gi I 116 (((8 * x1) + x2) : Int).toNat)] (mem (P, some 5, some 22) I J) (retV (fun I5 J6 => WP k LAY m_X12_image 104 [(0, vR (some 74)), (1, vI x1), (2, vI (x2 + 1))] [] (mem (P, some 5, some 22) I5 J6) Q) (P, some 5, some 22)))))))) : WP k LAY m_X12_image 104 [(0, vR (some 74)), (1, vI x1), (2, vI x2)] [] (mem (P, some 5, some 22) I J) Q := by
  refine st_iload_n (pc' := 105) dX12_image_104 rfl rfl (j := 2) rfl ?_
  refine st_aload_n (pc' := 106) dX12_image_105 rfl rfl (j := 0) rfl ?_
  refine G_X12_192_74 dX12_image_106 (pc' := 109) rfl rfl ?_
  refine st_iload_n (pc' := 110) dX12_image_109 rfl rfl (j := 1) rfl ?_
  obtain ⟨e1, h⟩ := h
  refine st_iaload (pc' := 111) (v := (gi I 115 (x1).toNat)) dX12_image_110 rfl L_115 (by decide) e1 (show gi I 115 (x1).toNat = (gi I 115 (x1).toNat) from rfl) ?_
  obtain ⟨e2, h⟩ := h
  refine st_icmp_ge (tg := 135) (pc' := 114) dX12_image_111 (by decide) rfl e2 (gi_in _ _ _) (fun c => ?_) (fun c => ?_)
  · replace h := h.1 c
    refine st_iinc (pc' := 138) (L' := [(1, vI (x1 + 1)), (0, vR (some 74)), (2, vI x2)]) (j := 1) dX12_image_135 rfl (by decide) rfl rfl ?_
    refine st_goto (pc' := 27) dX12_image_138 (by decide) ?_
    refine WP_sub (L' := [(0, vR (some 74)), (1, vI (x1 + 1))]) [1, 0] rfl ?_
    exact h
  · replace h := h.2 c
    refine st_aload_n (pc' := 115) dX12_image_114 rfl rfl (j := 0) rfl ?_
    refine st_aload_n (pc' := 116) dX12_image_115 rfl rfl (j := 0) rfl ?_
    refine G_X12_195_74 dX12_image_116 (pc' := 119) rfl rfl ?_
    refine st_bipush (pc' := 121) dX12_image_119 rfl (by decide) ?_
    refine st_iload_n (pc' := 122) dX12_image_121 rfl rfl (j := 1) rfl ?_
    refine st_imul (pc' := 123) dX12_image_122 rfl ?_
    refine st_iload_n (pc' := 124) dX12_image_123 rfl rfl (j := 2) rfl ?_
    refine st_iadd (pc' := 125) dX12_image_124 rfl ?_
    obtain ⟨e3, h⟩ := h
    refine st_iaload (pc' := 126) (v := (gi I 116 (((8 * x1) + x2) : Int).toNat)) dX12_image_125 rfl L_116 (by decide) e3 (show gi I 116 (((8 * x1) + x2) : Int).toNat = (gi I 116 (((8 * x1) + x2) : Int).toNat) from rfl) ?_
    refine st_callV (pc' := 129) (kc := k - 1) (E' := LAY) (cal := m_X12_writes) (n := 1) (as := [vI (gi I 116 (((8 * x1) + x2) : Int).toNat)]) (S := []) dX12_image_126 rfl l_X12_617 k_X12_writes rfl L_74 c_X12 rfl rfl (Nat.le_of_ble_eq_true rfl) (by omega) ⟨Nat.le_refl _, Nat.le_refl _, Nat.le_refl _, Nat.le_refl _⟩ h (fun r M' q => ?_)
    obtain ⟨I5, J6, rfl, rfl, h⟩ := q
    change WP _ LAY m_X12_image 129 [(0, vR (some 74)), (1, vI x1), (2, vI x2)] [] (mem (P, some 5, some 22) I5 J6) Q
    refine st_iinc (pc' := 132) (L' := [(2, vI (x2 + 1)), (0, vR (some 74)), (1, vI x1)]) (j := 2) dX12_image_129 rfl (by decide) rfl rfl ?_
    refine st_goto (pc' := 104) dX12_image_132 (by decide) ?_
    refine WP_sub (L' := [(0, vR (some 74)), (1, vI x1), (2, vI (x2 + 1))]) [1, 2, 0] rfl ?_
    exact h
set_option maxRecDepth 20000 in
set_option maxHeartbeats 4000000 in
theorem B_X12_number_0 {k : Nat} {P : Option Nat} {I : Nat → Nat → Int32} {J : Nat → Nat → Int64} {x1 : Int} {x2 : Int} {Q : Option AV → Mem → Prop} (hk : 2 ≤ k) (h : ((gi I 74 12) = (-1) → (((gi I 74 8) ≤ 0 → (((gi I 74 3) = 2 → ((¬ (gi I 74 8) = 0 → ((¬ (gi I 74 8) = 0 → (Q (some (vI (gi I 74 6))) (mem (P, some 5, some 22) I J))) ∧ ((gi I 74 8) = 0 → (WPm (k - 1) LAY m_X12_ahead [vR (some 74)] (mem (P, some 5, some 22) I J) (retV (fun I2 J3 => Q (some (vI (gi I 74 6))) (mem (P, some 5, some 22) I2 J3)) (P, some 5, some 22)))))) ∧ ((gi I 74 8) = 0 → (inR x1 ∧ (inR x2 ∧ (((x1 ≤ (gi I 74 6) ∧ (gi I 74 6) ≤ x2) → ((¬ (gi I 74 8) = 0 → (Q (some (vI (gi I 74 6))) (mem (P, some 5, some 22) I J))) ∧ ((gi I 74 8) = 0 → (WPm (k - 1) LAY m_X12_ahead [vR (some 74)] (mem (P, some 5, some 22) I J) (retV (fun I7 J8 => Q (some (vI (gi I 74 6))) (mem (P, some 5, some 22) I7 J8)) (P, some 5, some 22)))))) ∧ (¬ (x1 ≤ (gi I 74 6) ∧ (gi I 74 6) ≤ x2) → (((gi I 74 8) ≤ 0 → (Q (some (vI (gi I 74 6))) (mem (P, some 5, some 22) (si (si I 74 8 4) 74 9 (gi I 74 4)) J))) ∧ (¬ (gi I 74 8) ≤ 0 → ((¬ (gi I 74 8) = 0 → (Q (some (vI (gi I 74 6))) (mem (P, some 5, some 22) I J))) ∧ ((gi I 74 8) = 0 → (WPm (k - 1) LAY m_X12_ahead [vR (some 74)] (mem (P, some 5, some 22) I J) (retV (fun I10 J11 => Q (some (vI (gi I 74 6))) (mem (P, some 5, some 22) I10 J11)) (P, some 5, some 22)))))))))))))) ∧ (¬ (gi I 74 3) = 2 → (((gi I 74 8) ≤ 0 → (Q (some (vI (gi I 74 6))) (mem (P, some 5, some 22) (si (si I 74 8 1) 74 9 (gi I 74 4)) J))) ∧ (¬ (gi I 74 8) ≤ 0 → ((¬ (gi I 74 8) = 0 → ((¬ (gi I 74 8) = 0 → (Q (some (vI (gi I 74 6))) (mem (P, some 5, some 22) I J))) ∧ ((gi I 74 8) = 0 → (WPm (k - 1) LAY m_X12_ahead [vR (some 74)] (mem (P, some 5, some 22) I J) (retV (fun I13 J14 => Q (some (vI (gi I 74 6))) (mem (P, some 5, some 22) I13 J14)) (P, some 5, some 22)))))) ∧ ((gi I 74 8) = 0 → (inR x1 ∧ (inR x2 ∧ (((x1 ≤ (gi I 74 6) ∧ (gi I 74 6) ≤ x2) → ((¬ (gi I 74 8) = 0 → (Q (some (vI (gi I 74 6))) (mem (P, some 5, some 22) I J))) ∧ ((gi I 74 8) = 0 → (WPm (k - 1) LAY m_X12_ahead [vR (some 74)] (mem (P, some 5, some 22) I J) (retV (fun I18 J19 => Q (some (vI (gi I 74 6))) (mem (P, some 5, some 22) I18 J19)) (P, some 5, some 22)))))) ∧ (¬ (x1 ≤ (gi I 74 6) ∧ (gi I 74 6) ≤ x2) → (((gi I 74 8) ≤ 0 → (Q (some (vI (gi I 74 6))) (mem (P, some 5, some 22) (si (si I 74 8 4) 74 9 (gi I 74 4)) J))) ∧ (¬ (gi I 74 8) ≤ 0 → ((¬ (gi I 74 8) = 0 → (Q (some (vI (gi I 74 6))) (mem (P, some 5, some 22) I J))) ∧ ((gi I 74 8) = 0 → (WPm (k - 1) LAY m_X12_ahead [vR (some 74)] (mem (P, some 5, some 22) I J) (retV (fun I21 J22 => Q (some (vI (gi I 74 6))) (mem (P, some 5, some 22) I21 J22)) (P, some 5, some 22)))))))))))))))))) ∧ (¬ (gi I 74 8) ≤ 0 → (Q (some (vI 0)) (mem (P, some 5, some 22) I J))))) ∧ (¬ (gi I 74 12) = (-1) → (((gi I 74 8) ≤ 0 → (Q (some (vI 0)) (mem (P, some 5, some 22) (si (si I 74 8 1) 74 9 (gi I 74 12)) J))) ∧ (¬ (gi I 74 8) ≤ 0 → (((gi I 74 8) ≤ 0 → (((gi I 74 3) = 2 → ((¬ (gi I 74 8) = 0 → ((¬ (gi I 74 8) = 0 → (Q (some (vI (gi I 74 6))) (mem (P, some 5, some 22) I J))) ∧ ((gi I 74 8) = 0 → (WPm (k - 1) LAY m_X12_ahead [vR (some 74)] (mem (P, some 5, some 22) I J) (retV (fun I24 J25 => Q (some (vI (gi I 74 6))) (mem (P, some 5, some 22) I24 J25)) (P, some 5, some 22)))))) ∧ ((gi I 74 8) = 0 → (inR x1 ∧ (inR x2 ∧ (((x1 ≤ (gi I 74 6) ∧ (gi I 74 6) ≤ x2) → ((¬ (gi I 74 8) = 0 → (Q (some (vI (gi I 74 6))) (mem (P, some 5, some 22) I J))) ∧ ((gi I 74 8) = 0 → (WPm (k - 1) LAY m_X12_ahead [vR (some 74)] (mem (P, some 5, some 22) I J) (retV (fun I29 J30 => Q (some (vI (gi I 74 6))) (mem (P, some 5, some 22) I29 J30)) (P, some 5, some 22)))))) ∧ (¬ (x1 ≤ (gi I 74 6) ∧ (gi I 74 6) ≤ x2) → (((gi I 74 8) ≤ 0 → (Q (some (vI (gi I 74 6))) (mem (P, some 5, some 22) (si (si I 74 8 4) 74 9 (gi I 74 4)) J))) ∧ (¬ (gi I 74 8) ≤ 0 → ((¬ (gi I 74 8) = 0 → (Q (some (vI (gi I 74 6))) (mem (P, some 5, some 22) I J))) ∧ ((gi I 74 8) = 0 → (WPm (k - 1) LAY m_X12_ahead [vR (some 74)] (mem (P, some 5, some 22) I J) (retV (fun I32 J33 => Q (some (vI (gi I 74 6))) (mem (P, some 5, some 22) I32 J33)) (P, some 5, some 22)))))))))))))) ∧ (¬ (gi I 74 3) = 2 → (((gi I 74 8) ≤ 0 → (Q (some (vI (gi I 74 6))) (mem (P, some 5, some 22) (si (si I 74 8 1) 74 9 (gi I 74 4)) J))) ∧ (¬ (gi I 74 8) ≤ 0 → ((¬ (gi I 74 8) = 0 → ((¬ (gi I 74 8) = 0 → (Q (some (vI (gi I 74 6))) (mem (P, some 5, some 22) I J))) ∧ ((gi I 74 8) = 0 → (WPm (k - 1) LAY m_X12_ahead [vR (some 74)] (mem (P, some 5, some 22) I J) (retV (fun I35 J36 => Q (some (vI (gi I 74 6))) (mem (P, some 5, some 22) I35 J36)) (P, some 5, some 22)))))) ∧ ((gi I 74 8) = 0 → (inR x1 ∧ (inR x2 ∧ (((x1 ≤ (gi I 74 6) ∧ (gi I 74 6) ≤ x2) → ((¬ (gi I 74 8) = 0 → (Q (some (vI (gi I 74 6))) (mem (P, some 5, some 22) I J))) ∧ ((gi I 74 8) = 0 → (WPm (k - 1) LAY m_X12_ahead [vR (some 74)] (mem (P, some 5, some 22) I J) (retV (fun I40 J41 => Q (some (vI (gi I 74 6))) (mem (P, some 5, some 22) I40 J41)) (P, some 5, some 22)))))) ∧ (¬ (x1 ≤ (gi I 74 6) ∧ (gi I 74 6) ≤ x2) → (((gi I 74 8) ≤ 0 → (Q (some (vI (gi I 74 6))) (mem (P, some 5, some 22) (si (si I 74 8 4) 74 9 (gi I 74 4)) J))) ∧ (¬ (gi I 74 8) ≤ 0 → ((¬ (gi I 74 8) = 0 → (Q (some (vI (gi I 74 6))) (mem (P, some 5, some 22) I J))) ∧ ((gi I 74 8) = 0 → (WPm (k - 1) LAY m_X12_ahead [vR (some 74)] (mem (P, some 5, some 22) I J) (retV (fun I43 J44 => Q (some (vI (gi I 74 6))) (mem (P, some 5, some 22) I43 J44)) (P, some 5, some 22)))))))))))))))))) ∧ (¬ (gi I 74 8) ≤ 0 → (Q (some (vI 0)) (mem (P, some 5, some 22) I J)))))))) : WP k LAY m_X12_number 0 [(0, vR (some 74)), (1, vI x1), (2, vI x2)] [] (mem (P, some 5, some 22) I J) Q := by
  refine st_aload_n (pc' := 1) dX12_number_0 rfl rfl (j := 0) rfl ?_
  refine st_callV (pc' := 4) (kc := k - 1) (E' := LAY) (cal := m_X12_lex) (n := 0) (as := []) (S := []) dX12_number_1 rfl l_X12_302 k_X12_lex rfl L_74 c_X12 rfl rfl (Nat.le_of_ble_eq_true rfl) (by omega) ⟨Nat.le_refl _, Nat.le_refl _, Nat.le_refl _, Nat.le_refl _⟩ (Q1 := fun r M' => WP k LAY m_X12_number 4 [(0, vR (some 74)), (1, vI x1), (2, vI x2)] (r.toList ++ []) M' Q) (WPm.of k_X12_lex.1 (Nat.le_of_ble_eq_true rfl) (B_X12_lex_0 (by omega) ?_)) (fun r M' q => q)
  refine ⟨fun c => ?_, fun c => ?_⟩
  · replace h := h.1 c
    change WP _ LAY m_X12_number 4 [(0, vR (some 74)), (1, vI x1), (2, vI x2)] [] (mem (P, some 5, some 22) I J) Q
    refine st_aload_n (pc' := 5) dX12_number_4 rfl rfl (j := 0) rfl ?_
    refine G_X12_36_74 dX12_number_5 (pc' := 8) rfl rfl ?_
    refine st_if_le (tg := 13) (pc' := 11) dX12_number_8 (by decide) rfl (gi_in _ _ _) (fun c => ?_) (fun c => ?_)
    · replace h := h.1 c
      refine st_aload_n (pc' := 14) dX12_number_13 rfl rfl (j := 0) rfl ?_
      refine G_X12_20_74 dX12_number_14 (pc' := 17) rfl rfl ?_
      refine st_iconst (pc' := 18) dX12_number_17 rfl ?_
      refine st_icmp_eq (tg := 30) (pc' := 21) dX12_number_18 (by decide) rfl (gi_in _ _ _) (by decide) (fun c => ?_) (fun c => ?_)
      · replace h := h.1 c
        refine st_aload_n (pc' := 31) dX12_number_30 rfl rfl (j := 0) rfl ?_
        refine G_X12_36_74 dX12_number_31 (pc' := 34) rfl rfl ?_
        refine st_if_ne (tg := 58) (pc' := 37) dX12_number_34 (by decide) rfl (gi_in _ _ _) (fun c => ?_) (fun c => ?_)
        · replace h := h.1 c
          refine st_aload_n (pc' := 59) dX12_number_58 rfl rfl (j := 0) rfl ?_
          refine G_X12_29_74 dX12_number_59 (pc' := 62) rfl rfl ?_
          refine st_istore_n (pc' := 63) (L' := [(3, vI (gi I 74 6)), (0, vR (some 74)), (1, vI x1), (2, vI x2)]) dX12_number_62 rfl rfl (by decide) rfl ?_
          refine st_aload_n (pc' := 64) dX12_number_63 rfl rfl (j := 1) rfl ?_
          refine G_X12_36_74 dX12_number_64 (pc' := 67) rfl rfl ?_
          refine st_if_ne (tg := 74) (pc' := 70) dX12_number_67 (by decide) rfl (gi_in _ _ _) (fun c => ?_) (fun c => ?_)
          · replace h := h.1 c
            refine st_iload_n (pc' := 75) dX12_number_74 rfl rfl (j := 0) rfl ?_
            exact st_iret (ty := .int) dX12_number_75 rfl rfl rfl h
          · replace h := h.2 c
            refine st_aload_n (pc' := 71) dX12_number_70 rfl rfl (j := 1) rfl ?_
            refine st_callV (pc' := 74) (kc := k - 1) (E' := LAY) (cal := m_X12_ahead) (n := 0) (as := []) (S := []) dX12_number_71 rfl l_X12_308 k_X12_ahead rfl L_74 c_X12 rfl rfl (Nat.le_of_ble_eq_true rfl) (by omega) ⟨Nat.le_refl _, Nat.le_refl _, Nat.le_refl _, Nat.le_refl _⟩ h (fun r M' q => ?_)
            obtain ⟨I2, J3, rfl, rfl, h⟩ := q
            change WP _ LAY m_X12_number 74 [(3, vI (gi I 74 6)), (0, vR (some 74)), (1, vI x1), (2, vI x2)] [] (mem (P, some 5, some 22) I2 J3) Q
            refine st_iload_n (pc' := 75) dX12_number_74 rfl rfl (j := 0) rfl ?_
            exact st_iret (ty := .int) dX12_number_75 rfl rfl rfl h
        · replace h := h.2 c
          refine st_aload_n (pc' := 38) dX12_number_37 rfl rfl (j := 0) rfl ?_
          refine G_X12_29_74 dX12_number_38 (pc' := 41) rfl rfl ?_
          refine st_iload_n (pc' := 42) dX12_number_41 rfl rfl (j := 1) rfl ?_
          refine st_iload_n (pc' := 43) dX12_number_42 rfl rfl (j := 2) rfl ?_
          obtain ⟨e4, h⟩ := h
          obtain ⟨e5, h⟩ := h
          refine st_callS (pc' := 46) (kc := k - 1) (E' := LAY) (cal := m_X12_is) (n := 3) (as := [vI (gi I 74 6), vI x1, vI x2]) (S := []) dX12_number_43 rfl l_X12_369 k_X12_is rfl rfl (Nat.le_of_ble_eq_true rfl) (by omega) ⟨Nat.le_refl _, Nat.le_refl _, Nat.le_refl _, Nat.le_refl _⟩ (Q1 := fun r M' => WP k LAY m_X12_number 46 [(0, vR (some 74)), (1, vI x1), (2, vI x2)] (r.toList ++ []) M' Q) (S_X12_is (by omega) (gi_in _ _ _) e4 e5 ?_) (fun r M' q => q)
          change WP _ LAY m_X12_number 46 [(0, vR (some 74)), (1, vI x1), (2, vI x2)] [vI (b2i (x1 ≤ (gi I 74 6) ∧ (gi I 74 6) ≤ x2))] (mem (P, some 5, some 22) I J) Q
          refine st_if_ne (tg := 58) (pc' := 49) dX12_number_46 (by decide) rfl (b2i_in _) (fun c => ?_) (fun c => ?_)
          · replace h := h.1 (b2i_t.mp c)
            refine st_aload_n (pc' := 59) dX12_number_58 rfl rfl (j := 0) rfl ?_
            refine G_X12_29_74 dX12_number_59 (pc' := 62) rfl rfl ?_
            refine st_istore_n (pc' := 63) (L' := [(3, vI (gi I 74 6)), (0, vR (some 74)), (1, vI x1), (2, vI x2)]) dX12_number_62 rfl rfl (by decide) rfl ?_
            refine st_aload_n (pc' := 64) dX12_number_63 rfl rfl (j := 1) rfl ?_
            refine G_X12_36_74 dX12_number_64 (pc' := 67) rfl rfl ?_
            refine st_if_ne (tg := 74) (pc' := 70) dX12_number_67 (by decide) rfl (gi_in _ _ _) (fun c => ?_) (fun c => ?_)
            · replace h := h.1 c
              refine st_iload_n (pc' := 75) dX12_number_74 rfl rfl (j := 0) rfl ?_
              exact st_iret (ty := .int) dX12_number_75 rfl rfl rfl h
            · replace h := h.2 c
              refine st_aload_n (pc' := 71) dX12_number_70 rfl rfl (j := 1) rfl ?_
              refine st_callV (pc' := 74) (kc := k - 1) (E' := LAY) (cal := m_X12_ahead) (n := 0) (as := []) (S := []) dX12_number_71 rfl l_X12_308 k_X12_ahead rfl L_74 c_X12 rfl rfl (Nat.le_of_ble_eq_true rfl) (by omega) ⟨Nat.le_refl _, Nat.le_refl _, Nat.le_refl _, Nat.le_refl _⟩ h (fun r M' q => ?_)
              obtain ⟨I7, J8, rfl, rfl, h⟩ := q
              change WP _ LAY m_X12_number 74 [(3, vI (gi I 74 6)), (0, vR (some 74)), (1, vI x1), (2, vI x2)] [] (mem (P, some 5, some 22) I7 J8) Q
              refine st_iload_n (pc' := 75) dX12_number_74 rfl rfl (j := 0) rfl ?_
              exact st_iret (ty := .int) dX12_number_75 rfl rfl rfl h
          · replace h := h.2 (b2i_f.mp c)
            refine st_aload_n (pc' := 50) dX12_number_49 rfl rfl (j := 0) rfl ?_
            refine st_iconst (pc' := 51) dX12_number_50 rfl ?_
            refine st_aload_n (pc' := 52) dX12_number_51 rfl rfl (j := 0) rfl ?_
            refine G_X12_23_74 dX12_number_52 (pc' := 55) rfl rfl ?_
            refine st_callV (pc' := 58) (kc := k - 1) (E' := LAY) (cal := m_X12_blame) (n := 2) (as := [vI 4, vI (gi I 74 4)]) (S := []) dX12_number_55 rfl l_X12_287 k_X12_blame rfl L_74 c_X12 rfl rfl (Nat.le_of_ble_eq_true rfl) (by omega) ⟨Nat.le_refl _, Nat.le_refl _, Nat.le_refl _, Nat.le_refl _⟩ (Q1 := fun r M' => WP k LAY m_X12_number 58 [(0, vR (some 74)), (1, vI x1), (2, vI x2)] (r.toList ++ []) M' Q) (WPm.of k_X12_blame.1 (Nat.le_of_ble_eq_true rfl) (B_X12_blame_0 (by omega) ?_)) (fun r M' q => q)
            refine ⟨fun c => ?_, fun c => ?_⟩
            · replace h := h.1 c
              change WP _ LAY m_X12_number 58 [(0, vR (some 74)), (1, vI x1), (2, vI x2)] [] (mem (P, some 5, some 22) (si (si I 74 8 4) 74 9 (gi I 74 4)) J) Q
              refine st_aload_n (pc' := 59) dX12_number_58 rfl rfl (j := 0) rfl ?_
              refine G_X12_29_74 dX12_number_59 (pc' := 62) rfl rfl ?_
              rw [show gi (si (si I 74 8 4) 74 9 (gi I 74 4)) 74 6 = (gi I 74 6) from ((gi_idx _ _ _ (by decide)).trans (gi_idx _ _ _ (by decide)))]
              refine st_istore_n (pc' := 63) (L' := [(3, vI (gi I 74 6)), (0, vR (some 74)), (1, vI x1), (2, vI x2)]) dX12_number_62 rfl rfl (by decide) rfl ?_
              refine st_aload_n (pc' := 64) dX12_number_63 rfl rfl (j := 1) rfl ?_
              refine G_X12_36_74 dX12_number_64 (pc' := 67) rfl rfl ?_
              rw [show gi (si (si I 74 8 4) 74 9 (gi I 74 4)) 74 8 = 4 from ((gi_idx _ _ _ (by decide)).trans (gi_same _ _ _ (by decide)))]
              refine st_if_ne (tg := 74) (pc' := 70) dX12_number_67 (by decide) rfl (by decide) (fun c => ?_) (fun c => ?_)
              · refine st_iload_n (pc' := 75) dX12_number_74 rfl rfl (j := 0) rfl ?_
                exact st_iret (ty := .int) dX12_number_75 rfl rfl rfl h
              · exact absurd c (by decide)
            · replace h := h.2 c
              change WP _ LAY m_X12_number 58 [(0, vR (some 74)), (1, vI x1), (2, vI x2)] [] (mem (P, some 5, some 22) I J) Q
              refine st_aload_n (pc' := 59) dX12_number_58 rfl rfl (j := 0) rfl ?_
              refine G_X12_29_74 dX12_number_59 (pc' := 62) rfl rfl ?_
              refine st_istore_n (pc' := 63) (L' := [(3, vI (gi I 74 6)), (0, vR (some 74)), (1, vI x1), (2, vI x2)]) dX12_number_62 rfl rfl (by decide) rfl ?_
              refine st_aload_n (pc' := 64) dX12_number_63 rfl rfl (j := 1) rfl ?_
              refine G_X12_36_74 dX12_number_64 (pc' := 67) rfl rfl ?_
              refine st_if_ne (tg := 74) (pc' := 70) dX12_number_67 (by decide) rfl (gi_in _ _ _) (fun c => ?_) (fun c => ?_)
              · replace h := h.1 c
                refine st_iload_n (pc' := 75) dX12_number_74 rfl rfl (j := 0) rfl ?_
                exact st_iret (ty := .int) dX12_number_75 rfl rfl rfl h
              · replace h := h.2 c
                refine st_aload_n (pc' := 71) dX12_number_70 rfl rfl (j := 1) rfl ?_
                refine st_callV (pc' := 74) (kc := k - 1) (E' := LAY) (cal := m_X12_ahead) (n := 0) (as := []) (S := []) dX12_number_71 rfl l_X12_308 k_X12_ahead rfl L_74 c_X12 rfl rfl (Nat.le_of_ble_eq_true rfl) (by omega) ⟨Nat.le_refl _, Nat.le_refl _, Nat.le_refl _, Nat.le_refl _⟩ h (fun r M' q => ?_)
                obtain ⟨I10, J11, rfl, rfl, h⟩ := q
                change WP _ LAY m_X12_number 74 [(3, vI (gi I 74 6)), (0, vR (some 74)), (1, vI x1), (2, vI x2)] [] (mem (P, some 5, some 22) I10 J11) Q
                refine st_iload_n (pc' := 75) dX12_number_74 rfl rfl (j := 0) rfl ?_
                exact st_iret (ty := .int) dX12_number_75 rfl rfl rfl h
      · replace h := h.2 c
        refine st_aload_n (pc' := 22) dX12_number_21 rfl rfl (j := 0) rfl ?_
        refine st_iconst (pc' := 23) dX12_number_22 rfl ?_
        refine st_aload_n (pc' := 24) dX12_number_23 rfl rfl (j := 0) rfl ?_
        refine G_X12_23_74 dX12_number_24 (pc' := 27) rfl rfl ?_
        refine st_callV (pc' := 30) (kc := k - 1) (E' := LAY) (cal := m_X12_blame) (n := 2) (as := [vI 1, vI (gi I 74 4)]) (S := []) dX12_number_27 rfl l_X12_287 k_X12_blame rfl L_74 c_X12 rfl rfl (Nat.le_of_ble_eq_true rfl) (by omega) ⟨Nat.le_refl _, Nat.le_refl _, Nat.le_refl _, Nat.le_refl _⟩ (Q1 := fun r M' => WP k LAY m_X12_number 30 [(0, vR (some 74)), (1, vI x1), (2, vI x2)] (r.toList ++ []) M' Q) (WPm.of k_X12_blame.1 (Nat.le_of_ble_eq_true rfl) (B_X12_blame_0 (by omega) ?_)) (fun r M' q => q)
        refine ⟨fun c => ?_, fun c => ?_⟩
        · replace h := h.1 c
          change WP _ LAY m_X12_number 30 [(0, vR (some 74)), (1, vI x1), (2, vI x2)] [] (mem (P, some 5, some 22) (si (si I 74 8 1) 74 9 (gi I 74 4)) J) Q
          refine st_aload_n (pc' := 31) dX12_number_30 rfl rfl (j := 0) rfl ?_
          refine G_X12_36_74 dX12_number_31 (pc' := 34) rfl rfl ?_
          rw [show gi (si (si I 74 8 1) 74 9 (gi I 74 4)) 74 8 = 1 from ((gi_idx _ _ _ (by decide)).trans (gi_same _ _ _ (by decide)))]
          refine st_if_ne (tg := 58) (pc' := 37) dX12_number_34 (by decide) rfl (by decide) (fun c => ?_) (fun c => ?_)
          · refine st_aload_n (pc' := 59) dX12_number_58 rfl rfl (j := 0) rfl ?_
            refine G_X12_29_74 dX12_number_59 (pc' := 62) rfl rfl ?_
            rw [show gi (si (si I 74 8 1) 74 9 (gi I 74 4)) 74 6 = (gi I 74 6) from ((gi_idx _ _ _ (by decide)).trans (gi_idx _ _ _ (by decide)))]
            refine st_istore_n (pc' := 63) (L' := [(3, vI (gi I 74 6)), (0, vR (some 74)), (1, vI x1), (2, vI x2)]) dX12_number_62 rfl rfl (by decide) rfl ?_
            refine st_aload_n (pc' := 64) dX12_number_63 rfl rfl (j := 1) rfl ?_
            refine G_X12_36_74 dX12_number_64 (pc' := 67) rfl rfl ?_
            rw [show gi (si (si I 74 8 1) 74 9 (gi I 74 4)) 74 8 = 1 from ((gi_idx _ _ _ (by decide)).trans (gi_same _ _ _ (by decide)))]
            refine st_if_ne (tg := 74) (pc' := 70) dX12_number_67 (by decide) rfl (by decide) (fun c => ?_) (fun c => ?_)
            · refine st_iload_n (pc' := 75) dX12_number_74 rfl rfl (j := 0) rfl ?_
              exact st_iret (ty := .int) dX12_number_75 rfl rfl rfl h
            · exact absurd c (by decide)
          · exact absurd c (by decide)
        · replace h := h.2 c
          change WP _ LAY m_X12_number 30 [(0, vR (some 74)), (1, vI x1), (2, vI x2)] [] (mem (P, some 5, some 22) I J) Q
          refine st_aload_n (pc' := 31) dX12_number_30 rfl rfl (j := 0) rfl ?_
          refine G_X12_36_74 dX12_number_31 (pc' := 34) rfl rfl ?_
          refine st_if_ne (tg := 58) (pc' := 37) dX12_number_34 (by decide) rfl (gi_in _ _ _) (fun c => ?_) (fun c => ?_)
          · replace h := h.1 c
            refine st_aload_n (pc' := 59) dX12_number_58 rfl rfl (j := 0) rfl ?_
            refine G_X12_29_74 dX12_number_59 (pc' := 62) rfl rfl ?_
            refine st_istore_n (pc' := 63) (L' := [(3, vI (gi I 74 6)), (0, vR (some 74)), (1, vI x1), (2, vI x2)]) dX12_number_62 rfl rfl (by decide) rfl ?_
            refine st_aload_n (pc' := 64) dX12_number_63 rfl rfl (j := 1) rfl ?_
            refine G_X12_36_74 dX12_number_64 (pc' := 67) rfl rfl ?_
            refine st_if_ne (tg := 74) (pc' := 70) dX12_number_67 (by decide) rfl (gi_in _ _ _) (fun c => ?_) (fun c => ?_)
            · replace h := h.1 c
              refine st_iload_n (pc' := 75) dX12_number_74 rfl rfl (j := 0) rfl ?_
              exact st_iret (ty := .int) dX12_number_75 rfl rfl rfl h
            · replace h := h.2 c
              refine st_aload_n (pc' := 71) dX12_number_70 rfl rfl (j := 1) rfl ?_
              refine st_callV (pc' := 74) (kc := k - 1) (E' := LAY) (cal := m_X12_ahead) (n := 0) (as := []) (S := []) dX12_number_71 rfl l_X12_308 k_X12_ahead rfl L_74 c_X12 rfl rfl (Nat.le_of_ble_eq_true rfl) (by omega) ⟨Nat.le_refl _, Nat.le_refl _, Nat.le_refl _, Nat.le_refl _⟩ h (fun r M' q => ?_)
              obtain ⟨I13, J14, rfl, rfl, h⟩ := q
              change WP _ LAY m_X12_number 74 [(3, vI (gi I 74 6)), (0, vR (some 74)), (1, vI x1), (2, vI x2)] [] (mem (P, some 5, some 22) I13 J14) Q
              refine st_iload_n (pc' := 75) dX12_number_74 rfl rfl (j := 0) rfl ?_
              exact st_iret (ty := .int) dX12_number_75 rfl rfl rfl h
          · replace h := h.2 c
            refine st_aload_n (pc' := 38) dX12_number_37 rfl rfl (j := 0) rfl ?_
            refine G_X12_29_74 dX12_number_38 (pc' := 41) rfl rfl ?_
            refine st_iload_n (pc' := 42) dX12_number_41 rfl rfl (j := 1) rfl ?_
            refine st_iload_n (pc' := 43) dX12_number_42 rfl rfl (j := 2) rfl ?_
            obtain ⟨e15, h⟩ := h
            obtain ⟨e16, h⟩ := h
            refine st_callS (pc' := 46) (kc := k - 1) (E' := LAY) (cal := m_X12_is) (n := 3) (as := [vI (gi I 74 6), vI x1, vI x2]) (S := []) dX12_number_43 rfl l_X12_369 k_X12_is rfl rfl (Nat.le_of_ble_eq_true rfl) (by omega) ⟨Nat.le_refl _, Nat.le_refl _, Nat.le_refl _, Nat.le_refl _⟩ (Q1 := fun r M' => WP k LAY m_X12_number 46 [(0, vR (some 74)), (1, vI x1), (2, vI x2)] (r.toList ++ []) M' Q) (S_X12_is (by omega) (gi_in _ _ _) e15 e16 ?_) (fun r M' q => q)
            change WP _ LAY m_X12_number 46 [(0, vR (some 74)), (1, vI x1), (2, vI x2)] [vI (b2i (x1 ≤ (gi I 74 6) ∧ (gi I 74 6) ≤ x2))] (mem (P, some 5, some 22) I J) Q
            refine st_if_ne (tg := 58) (pc' := 49) dX12_number_46 (by decide) rfl (b2i_in _) (fun c => ?_) (fun c => ?_)
            · replace h := h.1 (b2i_t.mp c)
              refine st_aload_n (pc' := 59) dX12_number_58 rfl rfl (j := 0) rfl ?_
              refine G_X12_29_74 dX12_number_59 (pc' := 62) rfl rfl ?_
              refine st_istore_n (pc' := 63) (L' := [(3, vI (gi I 74 6)), (0, vR (some 74)), (1, vI x1), (2, vI x2)]) dX12_number_62 rfl rfl (by decide) rfl ?_
              refine st_aload_n (pc' := 64) dX12_number_63 rfl rfl (j := 1) rfl ?_
              refine G_X12_36_74 dX12_number_64 (pc' := 67) rfl rfl ?_
              refine st_if_ne (tg := 74) (pc' := 70) dX12_number_67 (by decide) rfl (gi_in _ _ _) (fun c => ?_) (fun c => ?_)
              · replace h := h.1 c
                refine st_iload_n (pc' := 75) dX12_number_74 rfl rfl (j := 0) rfl ?_
                exact st_iret (ty := .int) dX12_number_75 rfl rfl rfl h
              · replace h := h.2 c
                refine st_aload_n (pc' := 71) dX12_number_70 rfl rfl (j := 1) rfl ?_
                refine st_callV (pc' := 74) (kc := k - 1) (E' := LAY) (cal := m_X12_ahead) (n := 0) (as := []) (S := []) dX12_number_71 rfl l_X12_308 k_X12_ahead rfl L_74 c_X12 rfl rfl (Nat.le_of_ble_eq_true rfl) (by omega) ⟨Nat.le_refl _, Nat.le_refl _, Nat.le_refl _, Nat.le_refl _⟩ h (fun r M' q => ?_)
                obtain ⟨I18, J19, rfl, rfl, h⟩ := q
                change WP _ LAY m_X12_number 74 [(3, vI (gi I 74 6)), (0, vR (some 74)), (1, vI x1), (2, vI x2)] [] (mem (P, some 5, some 22) I18 J19) Q
                refine st_iload_n (pc' := 75) dX12_number_74 rfl rfl (j := 0) rfl ?_
                exact st_iret (ty := .int) dX12_number_75 rfl rfl rfl h
            · replace h := h.2 (b2i_f.mp c)
              refine st_aload_n (pc' := 50) dX12_number_49 rfl rfl (j := 0) rfl ?_
              refine st_iconst (pc' := 51) dX12_number_50 rfl ?_
              refine st_aload_n (pc' := 52) dX12_number_51 rfl rfl (j := 0) rfl ?_
              refine G_X12_23_74 dX12_number_52 (pc' := 55) rfl rfl ?_
              refine st_callV (pc' := 58) (kc := k - 1) (E' := LAY) (cal := m_X12_blame) (n := 2) (as := [vI 4, vI (gi I 74 4)]) (S := []) dX12_number_55 rfl l_X12_287 k_X12_blame rfl L_74 c_X12 rfl rfl (Nat.le_of_ble_eq_true rfl) (by omega) ⟨Nat.le_refl _, Nat.le_refl _, Nat.le_refl _, Nat.le_refl _⟩ (Q1 := fun r M' => WP k LAY m_X12_number 58 [(0, vR (some 74)), (1, vI x1), (2, vI x2)] (r.toList ++ []) M' Q) (WPm.of k_X12_blame.1 (Nat.le_of_ble_eq_true rfl) (B_X12_blame_0 (by omega) ?_)) (fun r M' q => q)
              refine ⟨fun c => ?_, fun c => ?_⟩
              · replace h := h.1 c
                change WP _ LAY m_X12_number 58 [(0, vR (some 74)), (1, vI x1), (2, vI x2)] [] (mem (P, some 5, some 22) (si (si I 74 8 4) 74 9 (gi I 74 4)) J) Q
                refine st_aload_n (pc' := 59) dX12_number_58 rfl rfl (j := 0) rfl ?_
                refine G_X12_29_74 dX12_number_59 (pc' := 62) rfl rfl ?_
                rw [show gi (si (si I 74 8 4) 74 9 (gi I 74 4)) 74 6 = (gi I 74 6) from ((gi_idx _ _ _ (by decide)).trans (gi_idx _ _ _ (by decide)))]
                refine st_istore_n (pc' := 63) (L' := [(3, vI (gi I 74 6)), (0, vR (some 74)), (1, vI x1), (2, vI x2)]) dX12_number_62 rfl rfl (by decide) rfl ?_
                refine st_aload_n (pc' := 64) dX12_number_63 rfl rfl (j := 1) rfl ?_
                refine G_X12_36_74 dX12_number_64 (pc' := 67) rfl rfl ?_
                rw [show gi (si (si I 74 8 4) 74 9 (gi I 74 4)) 74 8 = 4 from ((gi_idx _ _ _ (by decide)).trans (gi_same _ _ _ (by decide)))]
                refine st_if_ne (tg := 74) (pc' := 70) dX12_number_67 (by decide) rfl (by decide) (fun c => ?_) (fun c => ?_)
                · refine st_iload_n (pc' := 75) dX12_number_74 rfl rfl (j := 0) rfl ?_
                  exact st_iret (ty := .int) dX12_number_75 rfl rfl rfl h
                · exact absurd c (by decide)
              · replace h := h.2 c
                change WP _ LAY m_X12_number 58 [(0, vR (some 74)), (1, vI x1), (2, vI x2)] [] (mem (P, some 5, some 22) I J) Q
                refine st_aload_n (pc' := 59) dX12_number_58 rfl rfl (j := 0) rfl ?_
                refine G_X12_29_74 dX12_number_59 (pc' := 62) rfl rfl ?_
                refine st_istore_n (pc' := 63) (L' := [(3, vI (gi I 74 6)), (0, vR (some 74)), (1, vI x1), (2, vI x2)]) dX12_number_62 rfl rfl (by decide) rfl ?_
                refine st_aload_n (pc' := 64) dX12_number_63 rfl rfl (j := 1) rfl ?_
                refine G_X12_36_74 dX12_number_64 (pc' := 67) rfl rfl ?_
                refine st_if_ne (tg := 74) (pc' := 70) dX12_number_67 (by decide) rfl (gi_in _ _ _) (fun c => ?_) (fun c => ?_)
                · replace h := h.1 c
                  refine st_iload_n (pc' := 75) dX12_number_74 rfl rfl (j := 0) rfl ?_
                  exact st_iret (ty := .int) dX12_number_75 rfl rfl rfl h
                · replace h := h.2 c
                  refine st_aload_n (pc' := 71) dX12_number_70 rfl rfl (j := 1) rfl ?_
                  refine st_callV (pc' := 74) (kc := k - 1) (E' := LAY) (cal := m_X12_ahead) (n := 0) (as := []) (S := []) dX12_number_71 rfl l_X12_308 k_X12_ahead rfl L_74 c_X12 rfl rfl (Nat.le_of_ble_eq_true rfl) (by omega) ⟨Nat.le_refl _, Nat.le_refl _, Nat.le_refl _, Nat.le_refl _⟩ h (fun r M' q => ?_)
                  obtain ⟨I21, J22, rfl, rfl, h⟩ := q
                  change WP _ LAY m_X12_number 74 [(3, vI (gi I 74 6)), (0, vR (some 74)), (1, vI x1), (2, vI x2)] [] (mem (P, some 5, some 22) I21 J22) Q
                  refine st_iload_n (pc' := 75) dX12_number_74 rfl rfl (j := 0) rfl ?_
                  exact st_iret (ty := .int) dX12_number_75 rfl rfl rfl h
    · replace h := h.2 c
      refine st_iconst (pc' := 12) dX12_number_11 rfl ?_
      exact st_iret (ty := .int) dX12_number_12 rfl rfl rfl h
  · replace h := h.2 c
    refine ⟨fun c => ?_, fun c => ?_⟩
    · replace h := h.1 c
      change WP _ LAY m_X12_number 4 [(0, vR (some 74)), (1, vI x1), (2, vI x2)] [] (mem (P, some 5, some 22) (si (si I 74 8 1) 74 9 (gi I 74 12)) J) Q
      refine st_aload_n (pc' := 5) dX12_number_4 rfl rfl (j := 0) rfl ?_
      refine G_X12_36_74 dX12_number_5 (pc' := 8) rfl rfl ?_
      rw [show gi (si (si I 74 8 1) 74 9 (gi I 74 12)) 74 8 = 1 from ((gi_idx _ _ _ (by decide)).trans (gi_same _ _ _ (by decide)))]
      refine st_if_le (tg := 13) (pc' := 11) dX12_number_8 (by decide) rfl (by decide) (fun c => ?_) (fun c => ?_)
      · exact absurd c (by decide)
      · refine st_iconst (pc' := 12) dX12_number_11 rfl ?_
        exact st_iret (ty := .int) dX12_number_12 rfl rfl rfl h
    · replace h := h.2 c
      change WP _ LAY m_X12_number 4 [(0, vR (some 74)), (1, vI x1), (2, vI x2)] [] (mem (P, some 5, some 22) I J) Q
      refine st_aload_n (pc' := 5) dX12_number_4 rfl rfl (j := 0) rfl ?_
      refine G_X12_36_74 dX12_number_5 (pc' := 8) rfl rfl ?_
      refine st_if_le (tg := 13) (pc' := 11) dX12_number_8 (by decide) rfl (gi_in _ _ _) (fun c => ?_) (fun c => ?_)
      · replace h := h.1 c
        refine st_aload_n (pc' := 14) dX12_number_13 rfl rfl (j := 0) rfl ?_
        refine G_X12_20_74 dX12_number_14 (pc' := 17) rfl rfl ?_
        refine st_iconst (pc' := 18) dX12_number_17 rfl ?_
        refine st_icmp_eq (tg := 30) (pc' := 21) dX12_number_18 (by decide) rfl (gi_in _ _ _) (by decide) (fun c => ?_) (fun c => ?_)
        · replace h := h.1 c
          refine st_aload_n (pc' := 31) dX12_number_30 rfl rfl (j := 0) rfl ?_
          refine G_X12_36_74 dX12_number_31 (pc' := 34) rfl rfl ?_
          refine st_if_ne (tg := 58) (pc' := 37) dX12_number_34 (by decide) rfl (gi_in _ _ _) (fun c => ?_) (fun c => ?_)
          · replace h := h.1 c
            refine st_aload_n (pc' := 59) dX12_number_58 rfl rfl (j := 0) rfl ?_
            refine G_X12_29_74 dX12_number_59 (pc' := 62) rfl rfl ?_
            refine st_istore_n (pc' := 63) (L' := [(3, vI (gi I 74 6)), (0, vR (some 74)), (1, vI x1), (2, vI x2)]) dX12_number_62 rfl rfl (by decide) rfl ?_
            refine st_aload_n (pc' := 64) dX12_number_63 rfl rfl (j := 1) rfl ?_
            refine G_X12_36_74 dX12_number_64 (pc' := 67) rfl rfl ?_
            refine st_if_ne (tg := 74) (pc' := 70) dX12_number_67 (by decide) rfl (gi_in _ _ _) (fun c => ?_) (fun c => ?_)
            · replace h := h.1 c
              refine st_iload_n (pc' := 75) dX12_number_74 rfl rfl (j := 0) rfl ?_
              exact st_iret (ty := .int) dX12_number_75 rfl rfl rfl h
            · replace h := h.2 c
              refine st_aload_n (pc' := 71) dX12_number_70 rfl rfl (j := 1) rfl ?_
              refine st_callV (pc' := 74) (kc := k - 1) (E' := LAY) (cal := m_X12_ahead) (n := 0) (as := []) (S := []) dX12_number_71 rfl l_X12_308 k_X12_ahead rfl L_74 c_X12 rfl rfl (Nat.le_of_ble_eq_true rfl) (by omega) ⟨Nat.le_refl _, Nat.le_refl _, Nat.le_refl _, Nat.le_refl _⟩ h (fun r M' q => ?_)
              obtain ⟨I24, J25, rfl, rfl, h⟩ := q
              change WP _ LAY m_X12_number 74 [(3, vI (gi I 74 6)), (0, vR (some 74)), (1, vI x1), (2, vI x2)] [] (mem (P, some 5, some 22) I24 J25) Q
              refine st_iload_n (pc' := 75) dX12_number_74 rfl rfl (j := 0) rfl ?_
              exact st_iret (ty := .int) dX12_number_75 rfl rfl rfl h
          · replace h := h.2 c
            refine st_aload_n (pc' := 38) dX12_number_37 rfl rfl (j := 0) rfl ?_
            refine G_X12_29_74 dX12_number_38 (pc' := 41) rfl rfl ?_
            refine st_iload_n (pc' := 42) dX12_number_41 rfl rfl (j := 1) rfl ?_
            refine st_iload_n (pc' := 43) dX12_number_42 rfl rfl (j := 2) rfl ?_
            obtain ⟨e26, h⟩ := h
            obtain ⟨e27, h⟩ := h
            refine st_callS (pc' := 46) (kc := k - 1) (E' := LAY) (cal := m_X12_is) (n := 3) (as := [vI (gi I 74 6), vI x1, vI x2]) (S := []) dX12_number_43 rfl l_X12_369 k_X12_is rfl rfl (Nat.le_of_ble_eq_true rfl) (by omega) ⟨Nat.le_refl _, Nat.le_refl _, Nat.le_refl _, Nat.le_refl _⟩ (Q1 := fun r M' => WP k LAY m_X12_number 46 [(0, vR (some 74)), (1, vI x1), (2, vI x2)] (r.toList ++ []) M' Q) (S_X12_is (by omega) (gi_in _ _ _) e26 e27 ?_) (fun r M' q => q)
            change WP _ LAY m_X12_number 46 [(0, vR (some 74)), (1, vI x1), (2, vI x2)] [vI (b2i (x1 ≤ (gi I 74 6) ∧ (gi I 74 6) ≤ x2))] (mem (P, some 5, some 22) I J) Q
            refine st_if_ne (tg := 58) (pc' := 49) dX12_number_46 (by decide) rfl (b2i_in _) (fun c => ?_) (fun c => ?_)
            · replace h := h.1 (b2i_t.mp c)
              refine st_aload_n (pc' := 59) dX12_number_58 rfl rfl (j := 0) rfl ?_
              refine G_X12_29_74 dX12_number_59 (pc' := 62) rfl rfl ?_
              refine st_istore_n (pc' := 63) (L' := [(3, vI (gi I 74 6)), (0, vR (some 74)), (1, vI x1), (2, vI x2)]) dX12_number_62 rfl rfl (by decide) rfl ?_
              refine st_aload_n (pc' := 64) dX12_number_63 rfl rfl (j := 1) rfl ?_
              refine G_X12_36_74 dX12_number_64 (pc' := 67) rfl rfl ?_
              refine st_if_ne (tg := 74) (pc' := 70) dX12_number_67 (by decide) rfl (gi_in _ _ _) (fun c => ?_) (fun c => ?_)
              · replace h := h.1 c
                refine st_iload_n (pc' := 75) dX12_number_74 rfl rfl (j := 0) rfl ?_
                exact st_iret (ty := .int) dX12_number_75 rfl rfl rfl h
              · replace h := h.2 c
                refine st_aload_n (pc' := 71) dX12_number_70 rfl rfl (j := 1) rfl ?_
                refine st_callV (pc' := 74) (kc := k - 1) (E' := LAY) (cal := m_X12_ahead) (n := 0) (as := []) (S := []) dX12_number_71 rfl l_X12_308 k_X12_ahead rfl L_74 c_X12 rfl rfl (Nat.le_of_ble_eq_true rfl) (by omega) ⟨Nat.le_refl _, Nat.le_refl _, Nat.le_refl _, Nat.le_refl _⟩ h (fun r M' q => ?_)
                obtain ⟨I29, J30, rfl, rfl, h⟩ := q
                change WP _ LAY m_X12_number 74 [(3, vI (gi I 74 6)), (0, vR (some 74)), (1, vI x1), (2, vI x2)] [] (mem (P, some 5, some 22) I29 J30) Q
                refine st_iload_n (pc' := 75) dX12_number_74 rfl rfl (j := 0) rfl ?_
                exact st_iret (ty := .int) dX12_number_75 rfl rfl rfl h
            · replace h := h.2 (b2i_f.mp c)
              refine st_aload_n (pc' := 50) dX12_number_49 rfl rfl (j := 0) rfl ?_
              refine st_iconst (pc' := 51) dX12_number_50 rfl ?_
              refine st_aload_n (pc' := 52) dX12_number_51 rfl rfl (j := 0) rfl ?_
              refine G_X12_23_74 dX12_number_52 (pc' := 55) rfl rfl ?_
              refine st_callV (pc' := 58) (kc := k - 1) (E' := LAY) (cal := m_X12_blame) (n := 2) (as := [vI 4, vI (gi I 74 4)]) (S := []) dX12_number_55 rfl l_X12_287 k_X12_blame rfl L_74 c_X12 rfl rfl (Nat.le_of_ble_eq_true rfl) (by omega) ⟨Nat.le_refl _, Nat.le_refl _, Nat.le_refl _, Nat.le_refl _⟩ (Q1 := fun r M' => WP k LAY m_X12_number 58 [(0, vR (some 74)), (1, vI x1), (2, vI x2)] (r.toList ++ []) M' Q) (WPm.of k_X12_blame.1 (Nat.le_of_ble_eq_true rfl) (B_X12_blame_0 (by omega) ?_)) (fun r M' q => q)
              refine ⟨fun c => ?_, fun c => ?_⟩
              · replace h := h.1 c
                change WP _ LAY m_X12_number 58 [(0, vR (some 74)), (1, vI x1), (2, vI x2)] [] (mem (P, some 5, some 22) (si (si I 74 8 4) 74 9 (gi I 74 4)) J) Q
                refine st_aload_n (pc' := 59) dX12_number_58 rfl rfl (j := 0) rfl ?_
                refine G_X12_29_74 dX12_number_59 (pc' := 62) rfl rfl ?_
                rw [show gi (si (si I 74 8 4) 74 9 (gi I 74 4)) 74 6 = (gi I 74 6) from ((gi_idx _ _ _ (by decide)).trans (gi_idx _ _ _ (by decide)))]
                refine st_istore_n (pc' := 63) (L' := [(3, vI (gi I 74 6)), (0, vR (some 74)), (1, vI x1), (2, vI x2)]) dX12_number_62 rfl rfl (by decide) rfl ?_
                refine st_aload_n (pc' := 64) dX12_number_63 rfl rfl (j := 1) rfl ?_
                refine G_X12_36_74 dX12_number_64 (pc' := 67) rfl rfl ?_
                rw [show gi (si (si I 74 8 4) 74 9 (gi I 74 4)) 74 8 = 4 from ((gi_idx _ _ _ (by decide)).trans (gi_same _ _ _ (by decide)))]
                refine st_if_ne (tg := 74) (pc' := 70) dX12_number_67 (by decide) rfl (by decide) (fun c => ?_) (fun c => ?_)
                · refine st_iload_n (pc' := 75) dX12_number_74 rfl rfl (j := 0) rfl ?_
                  exact st_iret (ty := .int) dX12_number_75 rfl rfl rfl h
                · exact absurd c (by decide)
              · replace h := h.2 c
                change WP _ LAY m_X12_number 58 [(0, vR (some 74)), (1, vI x1), (2, vI x2)] [] (mem (P, some 5, some 22) I J) Q
                refine st_aload_n (pc' := 59) dX12_number_58 rfl rfl (j := 0) rfl ?_
                refine G_X12_29_74 dX12_number_59 (pc' := 62) rfl rfl ?_
                refine st_istore_n (pc' := 63) (L' := [(3, vI (gi I 74 6)), (0, vR (some 74)), (1, vI x1), (2, vI x2)]) dX12_number_62 rfl rfl (by decide) rfl ?_
                refine st_aload_n (pc' := 64) dX12_number_63 rfl rfl (j := 1) rfl ?_
                refine G_X12_36_74 dX12_number_64 (pc' := 67) rfl rfl ?_
                refine st_if_ne (tg := 74) (pc' := 70) dX12_number_67 (by decide) rfl (gi_in _ _ _) (fun c => ?_) (fun c => ?_)
                · replace h := h.1 c
                  refine st_iload_n (pc' := 75) dX12_number_74 rfl rfl (j := 0) rfl ?_
                  exact st_iret (ty := .int) dX12_number_75 rfl rfl rfl h
                · replace h := h.2 c
                  refine st_aload_n (pc' := 71) dX12_number_70 rfl rfl (j := 1) rfl ?_
                  refine st_callV (pc' := 74) (kc := k - 1) (E' := LAY) (cal := m_X12_ahead) (n := 0) (as := []) (S := []) dX12_number_71 rfl l_X12_308 k_X12_ahead rfl L_74 c_X12 rfl rfl (Nat.le_of_ble_eq_true rfl) (by omega) ⟨Nat.le_refl _, Nat.le_refl _, Nat.le_refl _, Nat.le_refl _⟩ h (fun r M' q => ?_)
                  obtain ⟨I32, J33, rfl, rfl, h⟩ := q
                  change WP _ LAY m_X12_number 74 [(3, vI (gi I 74 6)), (0, vR (some 74)), (1, vI x1), (2, vI x2)] [] (mem (P, some 5, some 22) I32 J33) Q
                  refine st_iload_n (pc' := 75) dX12_number_74 rfl rfl (j := 0) rfl ?_
                  exact st_iret (ty := .int) dX12_number_75 rfl rfl rfl h
        · replace h := h.2 c
          refine st_aload_n (pc' := 22) dX12_number_21 rfl rfl (j := 0) rfl ?_
          refine st_iconst (pc' := 23) dX12_number_22 rfl ?_
          refine st_aload_n (pc' := 24) dX12_number_23 rfl rfl (j := 0) rfl ?_
          refine G_X12_23_74 dX12_number_24 (pc' := 27) rfl rfl ?_
          refine st_callV (pc' := 30) (kc := k - 1) (E' := LAY) (cal := m_X12_blame) (n := 2) (as := [vI 1, vI (gi I 74 4)]) (S := []) dX12_number_27 rfl l_X12_287 k_X12_blame rfl L_74 c_X12 rfl rfl (Nat.le_of_ble_eq_true rfl) (by omega) ⟨Nat.le_refl _, Nat.le_refl _, Nat.le_refl _, Nat.le_refl _⟩ (Q1 := fun r M' => WP k LAY m_X12_number 30 [(0, vR (some 74)), (1, vI x1), (2, vI x2)] (r.toList ++ []) M' Q) (WPm.of k_X12_blame.1 (Nat.le_of_ble_eq_true rfl) (B_X12_blame_0 (by omega) ?_)) (fun r M' q => q)
          refine ⟨fun c => ?_, fun c => ?_⟩
          · replace h := h.1 c
            change WP _ LAY m_X12_number 30 [(0, vR (some 74)), (1, vI x1), (2, vI x2)] [] (mem (P, some 5, some 22) (si (si I 74 8 1) 74 9 (gi I 74 4)) J) Q
            refine st_aload_n (pc' := 31) dX12_number_30 rfl rfl (j := 0) rfl ?_
            refine G_X12_36_74 dX12_number_31 (pc' := 34) rfl rfl ?_
            rw [show gi (si (si I 74 8 1) 74 9 (gi I 74 4)) 74 8 = 1 from ((gi_idx _ _ _ (by decide)).trans (gi_same _ _ _ (by decide)))]
            refine st_if_ne (tg := 58) (pc' := 37) dX12_number_34 (by decide) rfl (by decide) (fun c => ?_) (fun c => ?_)
            · refine st_aload_n (pc' := 59) dX12_number_58 rfl rfl (j := 0) rfl ?_
              refine G_X12_29_74 dX12_number_59 (pc' := 62) rfl rfl ?_
              rw [show gi (si (si I 74 8 1) 74 9 (gi I 74 4)) 74 6 = (gi I 74 6) from ((gi_idx _ _ _ (by decide)).trans (gi_idx _ _ _ (by decide)))]
              refine st_istore_n (pc' := 63) (L' := [(3, vI (gi I 74 6)), (0, vR (some 74)), (1, vI x1), (2, vI x2)]) dX12_number_62 rfl rfl (by decide) rfl ?_
              refine st_aload_n (pc' := 64) dX12_number_63 rfl rfl (j := 1) rfl ?_
              refine G_X12_36_74 dX12_number_64 (pc' := 67) rfl rfl ?_
              rw [show gi (si (si I 74 8 1) 74 9 (gi I 74 4)) 74 8 = 1 from ((gi_idx _ _ _ (by decide)).trans (gi_same _ _ _ (by decide)))]
              refine st_if_ne (tg := 74) (pc' := 70) dX12_number_67 (by decide) rfl (by decide) (fun c => ?_) (fun c => ?_)
              · refine st_iload_n (pc' := 75) dX12_number_74 rfl rfl (j := 0) rfl ?_
                exact st_iret (ty := .int) dX12_number_75 rfl rfl rfl h
              · exact absurd c (by decide)
            · exact absurd c (by decide)
          · replace h := h.2 c
            change WP _ LAY m_X12_number 30 [(0, vR (some 74)), (1, vI x1), (2, vI x2)] [] (mem (P, some 5, some 22) I J) Q
            refine st_aload_n (pc' := 31) dX12_number_30 rfl rfl (j := 0) rfl ?_
            refine G_X12_36_74 dX12_number_31 (pc' := 34) rfl rfl ?_
            refine st_if_ne (tg := 58) (pc' := 37) dX12_number_34 (by decide) rfl (gi_in _ _ _) (fun c => ?_) (fun c => ?_)
            · replace h := h.1 c
              refine st_aload_n (pc' := 59) dX12_number_58 rfl rfl (j := 0) rfl ?_
              refine G_X12_29_74 dX12_number_59 (pc' := 62) rfl rfl ?_
              refine st_istore_n (pc' := 63) (L' := [(3, vI (gi I 74 6)), (0, vR (some 74)), (1, vI x1), (2, vI x2)]) dX12_number_62 rfl rfl (by decide) rfl ?_
              refine st_aload_n (pc' := 64) dX12_number_63 rfl rfl (j := 1) rfl ?_
              refine G_X12_36_74 dX12_number_64 (pc' := 67) rfl rfl ?_
              refine st_if_ne (tg := 74) (pc' := 70) dX12_number_67 (by decide) rfl (gi_in _ _ _) (fun c => ?_) (fun c => ?_)
              · replace h := h.1 c
                refine st_iload_n (pc' := 75) dX12_number_74 rfl rfl (j := 0) rfl ?_
                exact st_iret (ty := .int) dX12_number_75 rfl rfl rfl h
              · replace h := h.2 c
                refine st_aload_n (pc' := 71) dX12_number_70 rfl rfl (j := 1) rfl ?_
                refine st_callV (pc' := 74) (kc := k - 1) (E' := LAY) (cal := m_X12_ahead) (n := 0) (as := []) (S := []) dX12_number_71 rfl l_X12_308 k_X12_ahead rfl L_74 c_X12 rfl rfl (Nat.le_of_ble_eq_true rfl) (by omega) ⟨Nat.le_refl _, Nat.le_refl _, Nat.le_refl _, Nat.le_refl _⟩ h (fun r M' q => ?_)
                obtain ⟨I35, J36, rfl, rfl, h⟩ := q
                change WP _ LAY m_X12_number 74 [(3, vI (gi I 74 6)), (0, vR (some 74)), (1, vI x1), (2, vI x2)] [] (mem (P, some 5, some 22) I35 J36) Q
                refine st_iload_n (pc' := 75) dX12_number_74 rfl rfl (j := 0) rfl ?_
                exact st_iret (ty := .int) dX12_number_75 rfl rfl rfl h
            · replace h := h.2 c
              refine st_aload_n (pc' := 38) dX12_number_37 rfl rfl (j := 0) rfl ?_
              refine G_X12_29_74 dX12_number_38 (pc' := 41) rfl rfl ?_
              refine st_iload_n (pc' := 42) dX12_number_41 rfl rfl (j := 1) rfl ?_
              refine st_iload_n (pc' := 43) dX12_number_42 rfl rfl (j := 2) rfl ?_
              obtain ⟨e37, h⟩ := h
              obtain ⟨e38, h⟩ := h
              refine st_callS (pc' := 46) (kc := k - 1) (E' := LAY) (cal := m_X12_is) (n := 3) (as := [vI (gi I 74 6), vI x1, vI x2]) (S := []) dX12_number_43 rfl l_X12_369 k_X12_is rfl rfl (Nat.le_of_ble_eq_true rfl) (by omega) ⟨Nat.le_refl _, Nat.le_refl _, Nat.le_refl _, Nat.le_refl _⟩ (Q1 := fun r M' => WP k LAY m_X12_number 46 [(0, vR (some 74)), (1, vI x1), (2, vI x2)] (r.toList ++ []) M' Q) (S_X12_is (by omega) (gi_in _ _ _) e37 e38 ?_) (fun r M' q => q)
              change WP _ LAY m_X12_number 46 [(0, vR (some 74)), (1, vI x1), (2, vI x2)] [vI (b2i (x1 ≤ (gi I 74 6) ∧ (gi I 74 6) ≤ x2))] (mem (P, some 5, some 22) I J) Q
              refine st_if_ne (tg := 58) (pc' := 49) dX12_number_46 (by decide) rfl (b2i_in _) (fun c => ?_) (fun c => ?_)
              · replace h := h.1 (b2i_t.mp c)
                refine st_aload_n (pc' := 59) dX12_number_58 rfl rfl (j := 0) rfl ?_
                refine G_X12_29_74 dX12_number_59 (pc' := 62) rfl rfl ?_
                refine st_istore_n (pc' := 63) (L' := [(3, vI (gi I 74 6)), (0, vR (some 74)), (1, vI x1), (2, vI x2)]) dX12_number_62 rfl rfl (by decide) rfl ?_
                refine st_aload_n (pc' := 64) dX12_number_63 rfl rfl (j := 1) rfl ?_
                refine G_X12_36_74 dX12_number_64 (pc' := 67) rfl rfl ?_
                refine st_if_ne (tg := 74) (pc' := 70) dX12_number_67 (by decide) rfl (gi_in _ _ _) (fun c => ?_) (fun c => ?_)
                · replace h := h.1 c
                  refine st_iload_n (pc' := 75) dX12_number_74 rfl rfl (j := 0) rfl ?_
                  exact st_iret (ty := .int) dX12_number_75 rfl rfl rfl h
                · replace h := h.2 c
                  refine st_aload_n (pc' := 71) dX12_number_70 rfl rfl (j := 1) rfl ?_
                  refine st_callV (pc' := 74) (kc := k - 1) (E' := LAY) (cal := m_X12_ahead) (n := 0) (as := []) (S := []) dX12_number_71 rfl l_X12_308 k_X12_ahead rfl L_74 c_X12 rfl rfl (Nat.le_of_ble_eq_true rfl) (by omega) ⟨Nat.le_refl _, Nat.le_refl _, Nat.le_refl _, Nat.le_refl _⟩ h (fun r M' q => ?_)
                  obtain ⟨I40, J41, rfl, rfl, h⟩ := q
                  change WP _ LAY m_X12_number 74 [(3, vI (gi I 74 6)), (0, vR (some 74)), (1, vI x1), (2, vI x2)] [] (mem (P, some 5, some 22) I40 J41) Q
                  refine st_iload_n (pc' := 75) dX12_number_74 rfl rfl (j := 0) rfl ?_
                  exact st_iret (ty := .int) dX12_number_75 rfl rfl rfl h
              · replace h := h.2 (b2i_f.mp c)
                refine st_aload_n (pc' := 50) dX12_number_49 rfl rfl (j := 0) rfl ?_
                refine st_iconst (pc' := 51) dX12_number_50 rfl ?_
                refine st_aload_n (pc' := 52) dX12_number_51 rfl rfl (j := 0) rfl ?_
                refine G_X12_23_74 dX12_number_52 (pc' := 55) rfl rfl ?_
                refine st_callV (pc' := 58) (kc := k - 1) (E' := LAY) (cal := m_X12_blame) (n := 2) (as := [vI 4, vI (gi I 74 4)]) (S := []) dX12_number_55 rfl l_X12_287 k_X12_blame rfl L_74 c_X12 rfl rfl (Nat.le_of_ble_eq_true rfl) (by omega) ⟨Nat.le_refl _, Nat.le_refl _, Nat.le_refl _, Nat.le_refl _⟩ (Q1 := fun r M' => WP k LAY m_X12_number 58 [(0, vR (some 74)), (1, vI x1), (2, vI x2)] (r.toList ++ []) M' Q) (WPm.of k_X12_blame.1 (Nat.le_of_ble_eq_true rfl) (B_X12_blame_0 (by omega) ?_)) (fun r M' q => q)
                refine ⟨fun c => ?_, fun c => ?_⟩
                · replace h := h.1 c
                  change WP _ LAY m_X12_number 58 [(0, vR (some 74)), (1, vI x1), (2, vI x2)] [] (mem (P, some 5, some 22) (si (si I 74 8 4) 74 9 (gi I 74 4)) J) Q
                  refine st_aload_n (pc' := 59) dX12_number_58 rfl rfl (j := 0) rfl ?_
                  refine G_X12_29_74 dX12_number_59 (pc' := 62) rfl rfl ?_
                  rw [show gi (si (si I 74 8 4) 74 9 (gi I 74 4)) 74 6 = (gi I 74 6) from ((gi_idx _ _ _ (by decide)).trans (gi_idx _ _ _ (by decide)))]
                  refine st_istore_n (pc' := 63) (L' := [(3, vI (gi I 74 6)), (0, vR (some 74)), (1, vI x1), (2, vI x2)]) dX12_number_62 rfl rfl (by decide) rfl ?_
                  refine st_aload_n (pc' := 64) dX12_number_63 rfl rfl (j := 1) rfl ?_
                  refine G_X12_36_74 dX12_number_64 (pc' := 67) rfl rfl ?_
                  rw [show gi (si (si I 74 8 4) 74 9 (gi I 74 4)) 74 8 = 4 from ((gi_idx _ _ _ (by decide)).trans (gi_same _ _ _ (by decide)))]
                  refine st_if_ne (tg := 74) (pc' := 70) dX12_number_67 (by decide) rfl (by decide) (fun c => ?_) (fun c => ?_)
                  · refine st_iload_n (pc' := 75) dX12_number_74 rfl rfl (j := 0) rfl ?_
                    exact st_iret (ty := .int) dX12_number_75 rfl rfl rfl h
                  · exact absurd c (by decide)
                · replace h := h.2 c
                  change WP _ LAY m_X12_number 58 [(0, vR (some 74)), (1, vI x1), (2, vI x2)] [] (mem (P, some 5, some 22) I J) Q
                  refine st_aload_n (pc' := 59) dX12_number_58 rfl rfl (j := 0) rfl ?_
                  refine G_X12_29_74 dX12_number_59 (pc' := 62) rfl rfl ?_
                  refine st_istore_n (pc' := 63) (L' := [(3, vI (gi I 74 6)), (0, vR (some 74)), (1, vI x1), (2, vI x2)]) dX12_number_62 rfl rfl (by decide) rfl ?_
                  refine st_aload_n (pc' := 64) dX12_number_63 rfl rfl (j := 1) rfl ?_
                  refine G_X12_36_74 dX12_number_64 (pc' := 67) rfl rfl ?_
                  refine st_if_ne (tg := 74) (pc' := 70) dX12_number_67 (by decide) rfl (gi_in _ _ _) (fun c => ?_) (fun c => ?_)
                  · replace h := h.1 c
                    refine st_iload_n (pc' := 75) dX12_number_74 rfl rfl (j := 0) rfl ?_
                    exact st_iret (ty := .int) dX12_number_75 rfl rfl rfl h
                  · replace h := h.2 c
                    refine st_aload_n (pc' := 71) dX12_number_70 rfl rfl (j := 1) rfl ?_
                    refine st_callV (pc' := 74) (kc := k - 1) (E' := LAY) (cal := m_X12_ahead) (n := 0) (as := []) (S := []) dX12_number_71 rfl l_X12_308 k_X12_ahead rfl L_74 c_X12 rfl rfl (Nat.le_of_ble_eq_true rfl) (by omega) ⟨Nat.le_refl _, Nat.le_refl _, Nat.le_refl _, Nat.le_refl _⟩ h (fun r M' q => ?_)
                    obtain ⟨I43, J44, rfl, rfl, h⟩ := q
                    change WP _ LAY m_X12_number 74 [(3, vI (gi I 74 6)), (0, vR (some 74)), (1, vI x1), (2, vI x2)] [] (mem (P, some 5, some 22) I43 J44) Q
                    refine st_iload_n (pc' := 75) dX12_number_74 rfl rfl (j := 0) rfl ?_
                    exact st_iret (ty := .int) dX12_number_75 rfl rfl rfl h
      · replace h := h.2 c
        refine st_iconst (pc' := 12) dX12_number_11 rfl ?_
        exact st_iret (ty := .int) dX12_number_12 rfl rfl rfl h
set_option maxRecDepth 20000 in
set_option maxHeartbeats 4000000 in
theorem B_X12_inching_0 {k : Nat} {P : Option Nat} {I : Nat → Nat → Int32} {J : Nat → Nat → Int64}  {Q : Option AV → Mem → Prop} (hk : 1 ≤ k) (h : WPm (k - 1) LAY m_X12_counts [vR (some 74), vI 0] (mem (P, some 5, some 22) I J) (retI (fun v1 I2 J3 => inR v1 ∧ ((¬ v1 = 0 → (WPm (k - 1) LAY m_X12_number [vR (some 74), vI 10, vI 120] (mem (P, some 5, some 22) I2 J3) (retI (fun v5 I6 J7 => (¬ (gi I6 74 8) = 0 → (Q none (mem (P, some 5, some 22) I6 J7))) ∧ ((gi I6 74 8) = 0 → ((0 ≤ (gi I6 74 40) ∧ (gi I6 74 40) < 2) ∧ (Q none (mem (P, some 5, some 22) (si I6 88 (gi I6 74 40).toNat v5) J7))))) (P, some 5, some 22)))) ∧ (v1 = 0 → (Q none (mem (P, some 5, some 22) I2 J3))))) (P, some 5, some 22))) : WP k LAY m_X12_inching 0 [(0, vR (some 74))] [] (mem (P, some 5, some 22) I J) Q := by
  refine st_aload_n (pc' := 1) dX12_inching_0 rfl rfl (j := 0) rfl ?_
  refine st_iconst (pc' := 2) dX12_inching_1 rfl ?_
  refine st_callV (pc' := 5) (kc := k - 1) (E' := LAY) (cal := m_X12_counts) (n := 1) (as := [vI 0]) (S := []) dX12_inching_2 rfl l_X12_410 k_X12_counts rfl L_74 c_X12 rfl rfl (Nat.le_of_ble_eq_true rfl) (by omega) ⟨Nat.le_refl _, Nat.le_refl _, Nat.le_refl _, Nat.le_refl _⟩ h (fun r M' q => ?_)
  obtain ⟨v1, I2, J3, rfl, rfl, h⟩ := q
  change WP _ LAY m_X12_inching 5 [(0, vR (some 74))] [vI v1] (mem (P, some 5, some 22) I2 J3) Q
  obtain ⟨e4, h⟩ := h
  refine st_if_ne (tg := 9) (pc' := 8) dX12_inching_5 (by decide) rfl e4 (fun c => ?_) (fun c => ?_)
  · replace h := h.1 c
    refine st_aload_n (pc' := 10) dX12_inching_9 rfl rfl (j := 0) rfl ?_
    refine st_bipush (pc' := 12) dX12_inching_10 rfl (by decide) ?_
    refine st_bipush (pc' := 14) dX12_inching_12 rfl (by decide) ?_
    refine st_callV (pc' := 17) (kc := k - 1) (E' := LAY) (cal := m_X12_number) (n := 2) (as := [vI 10, vI 120]) (S := []) dX12_inching_14 rfl l_X12_425 k_X12_number rfl L_74 c_X12 rfl rfl (Nat.le_of_ble_eq_true rfl) (by omega) ⟨Nat.le_refl _, Nat.le_refl _, Nat.le_refl _, Nat.le_refl _⟩ h (fun r M' q => ?_)
    obtain ⟨v5, I6, J7, rfl, rfl, h⟩ := q
    change WP _ LAY m_X12_inching 17 [(0, vR (some 74))] [vI v5] (mem (P, some 5, some 22) I6 J7) Q
    refine st_istore_n (pc' := 18) (L' := [(1, vI v5), (0, vR (some 74))]) dX12_inching_17 rfl rfl (by decide) rfl ?_
    refine st_aload_n (pc' := 19) dX12_inching_18 rfl rfl (j := 1) rfl ?_
    refine G_X12_36_74 dX12_inching_19 (pc' := 22) rfl rfl ?_
    refine st_if_ne (tg := 35) (pc' := 25) dX12_inching_22 (by decide) rfl (gi_in _ _ _) (fun c => ?_) (fun c => ?_)
    · replace h := h.1 c
      exact st_vret dX12_inching_35 rfl rfl h
    · replace h := h.2 c
      refine st_aload_n (pc' := 26) dX12_inching_25 rfl rfl (j := 1) rfl ?_
      refine G_X12_90_74 dX12_inching_26 (pc' := 29) rfl rfl ?_
      refine st_aload_n (pc' := 30) dX12_inching_29 rfl rfl (j := 1) rfl ?_
      refine G_X12_133_74 dX12_inching_30 (pc' := 33) rfl rfl ?_
      refine st_iload_n (pc' := 34) dX12_inching_33 rfl rfl (j := 0) rfl ?_
      obtain ⟨e8, h⟩ := h
      refine st_iastore (pc' := 35) (M' := (mem (P, some 5, some 22) (si I6 88 (gi I6 74 40).toNat v5) J7)) dX12_inching_34 rfl L_88 (by decide) e8 rfl ?_
      exact st_vret dX12_inching_35 rfl rfl h
  · replace h := h.2 c
    exact st_vret dX12_inching_8 rfl rfl h
set_option maxRecDepth 20000 in
set_option maxHeartbeats 4000000 in
theorem B_X12_isQuestion_0 {k : Nat} {P : Option Nat} {I : Nat → Nat → Int32} {J : Nat → Nat → Int64} {x1 : Int} {Q : Option AV → Mem → Prop} (hk : 1 ≤ k) (h : (0 ≤ (gi I 74 13) ∧ (gi I 74 13) < 2) ∧ (inR x1 ∧ (inR ((shl32 1 (gi I 77 (gi I 74 13).toNat)) - 1) ∧ (Q (some (vI (b2i (0 ≤ x1 ∧ x1 ≤ ((shl32 1 (gi I 77 (gi I 74 13).toNat)) - 1))))) (mem (P, some 5, some 22) I J))))) : WP k LAY m_X12_isQuestion 0 [(0, vR (some 74)), (1, vI x1)] [] (mem (P, some 5, some 22) I J) Q := by
  refine st_iload_n (pc' := 1) dX12_isQuestion_0 rfl rfl (j := 1) rfl ?_
  refine st_iconst (pc' := 2) dX12_isQuestion_1 rfl ?_
  refine st_iconst (pc' := 3) dX12_isQuestion_2 rfl ?_
  refine st_aload_n (pc' := 4) dX12_isQuestion_3 rfl rfl (j := 0) rfl ?_
  refine G_X12_57_74 dX12_isQuestion_4 (pc' := 7) rfl rfl ?_
  refine st_aload_n (pc' := 8) dX12_isQuestion_7 rfl rfl (j := 0) rfl ?_
  refine G_X12_51_74 dX12_isQuestion_8 (pc' := 11) rfl rfl ?_
  obtain ⟨e1, h⟩ := h
  refine st_iaload (pc' := 12) (v := (gi I 77 (gi I 74 13).toNat)) dX12_isQuestion_11 rfl L_77 (by decide) e1 (show gi I 77 (gi I 74 13).toNat = (gi I 77 (gi I 74 13).toNat) from rfl) ?_
  refine st_ishl (pc' := 13) (z := (shl32 1 (gi I 77 (gi I 74 13).toNat))) dX12_isQuestion_12 rfl rfl ?_
  refine st_iconst (pc' := 14) dX12_isQuestion_13 rfl ?_
  refine st_isub (pc' := 15) dX12_isQuestion_14 rfl ?_
  obtain ⟨e2, h⟩ := h
  obtain ⟨e3, h⟩ := h
  refine st_callS (pc' := 18) (kc := k - 1) (E' := LAY) (cal := m_X12_is) (n := 3) (as := [vI x1, vI 0, vI ((shl32 1 (gi I 77 (gi I 74 13).toNat)) - 1)]) (S := []) dX12_isQuestion_15 rfl l_X12_369 k_X12_is rfl rfl (Nat.le_of_ble_eq_true rfl) (by omega) ⟨Nat.le_refl _, Nat.le_refl _, Nat.le_refl _, Nat.le_refl _⟩ (Q1 := fun r M' => WP k LAY m_X12_isQuestion 18 [(0, vR (some 74)), (1, vI x1)] (r.toList ++ []) M' Q) (S_X12_is (by omega) e2 (by decide) e3 ?_) (fun r M' q => q)
  change WP _ LAY m_X12_isQuestion 18 [(0, vR (some 74)), (1, vI x1)] [vI (b2i (0 ≤ x1 ∧ x1 ≤ ((shl32 1 (gi I 77 (gi I 74 13).toNat)) - 1)))] (mem (P, some 5, some 22) I J) Q
  exact st_iret (ty := .boolean) dX12_isQuestion_18 rfl (nar_b (b2i_01 _)) rfl h
set_option maxRecDepth 20000 in
set_option maxHeartbeats 4000000 in
theorem B_X12_index_0 {k : Nat} {P : Option Nat} {I : Nat → Nat → Int32} {J : Nat → Nat → Int64} {x1 : Int} {x2 : Int} {Q : Option AV → Mem → Prop} (hk : 2 ≤ k) (h : (0 ≤ (gi I 74 13) ∧ (gi I 74 13) < 2) ∧ (inR x1 ∧ (inR ((shl32 1 (gi I 77 (gi I 74 13).toNat)) - 1) ∧ ((¬ (0 ≤ x1 ∧ x1 ≤ ((shl32 1 (gi I 77 (gi I 74 13).toNat)) - 1)) → (Q (some (vI (-1))) (mem (P, some 5, some 22) I J))) ∧ ((0 ≤ x1 ∧ x1 ≤ ((shl32 1 (gi I 77 (gi I 74 13).toNat)) - 1)) → (inR x2 ∧ (((0 ≤ x2 ∧ x2 ≤ 1) → (WPm (k - 1) LAY m_X12_allWork [vR (some 74), vI x1, vI (-1)] (mem (P, some 5, some 22) I J) (retI (fun v5 I6 J7 => WP k LAY m_X12_index 35 [(0, vR (some 74)), (1, vI x1), (2, vI x2), (3, vI v5), (4, vI (-1)), (5, vI v5), (6, vI 0)] [] (mem (P, some 5, some 22) I6 J7) Q) (P, some 5, some 22)))) ∧ (¬ (0 ≤ x2 ∧ x2 ≤ 1) → (Q (some (vI (-1))) (mem (P, some 5, some 22) I J)))))))))) : WP k LAY m_X12_index 0 [(0, vR (some 74)), (1, vI x1), (2, vI x2)] [] (mem (P, some 5, some 22) I J) Q := by
  refine st_aload_n (pc' := 1) dX12_index_0 rfl rfl (j := 0) rfl ?_
  refine st_iload_n (pc' := 2) dX12_index_1 rfl rfl (j := 1) rfl ?_
  refine st_callV (pc' := 5) (kc := k - 1) (E' := LAY) (cal := m_X12_isQuestion) (n := 1) (as := [vI x1]) (S := []) dX12_index_2 rfl l_X12_598 k_X12_isQuestion rfl L_74 c_X12 rfl rfl (Nat.le_of_ble_eq_true rfl) (by omega) ⟨Nat.le_refl _, Nat.le_refl _, Nat.le_refl _, Nat.le_refl _⟩ (Q1 := fun r M' => WP k LAY m_X12_index 5 [(0, vR (some 74)), (1, vI x1), (2, vI x2)] (r.toList ++ []) M' Q) (WPm.of k_X12_isQuestion.1 (Nat.le_of_ble_eq_true rfl) (B_X12_isQuestion_0 (by omega) ?_)) (fun r M' q => q)
  obtain ⟨e1, h⟩ := h
  refine ⟨e1, ?_⟩
  obtain ⟨e2, h⟩ := h
  refine ⟨e2, ?_⟩
  obtain ⟨e3, h⟩ := h
  refine ⟨e3, ?_⟩
  change WP _ LAY m_X12_index 5 [(0, vR (some 74)), (1, vI x1), (2, vI x2)] [vI (b2i (0 ≤ x1 ∧ x1 ≤ ((shl32 1 (gi I 77 (gi I 74 13).toNat)) - 1)))] (mem (P, some 5, some 22) I J) Q
  refine st_if_eq (tg := 17) (pc' := 8) dX12_index_5 (by decide) rfl (b2i_in _) (fun c => ?_) (fun c => ?_)
  · replace h := h.1 (b2i_f.mp c)
    refine st_iconst (pc' := 18) dX12_index_17 rfl ?_
    exact st_iret (ty := .int) dX12_index_18 rfl rfl rfl h
  · replace h := h.2 (b2i_t.mp c)
    refine st_iload_n (pc' := 9) dX12_index_8 rfl rfl (j := 2) rfl ?_
    refine st_iconst (pc' := 10) dX12_index_9 rfl ?_
    refine st_iconst (pc' := 11) dX12_index_10 rfl ?_
    obtain ⟨e4, h⟩ := h
    refine st_callS (pc' := 14) (kc := k - 1) (E' := LAY) (cal := m_X12_is) (n := 3) (as := [vI x2, vI 0, vI 1]) (S := []) dX12_index_11 rfl l_X12_369 k_X12_is rfl rfl (Nat.le_of_ble_eq_true rfl) (by omega) ⟨Nat.le_refl _, Nat.le_refl _, Nat.le_refl _, Nat.le_refl _⟩ (Q1 := fun r M' => WP k LAY m_X12_index 14 [(0, vR (some 74)), (1, vI x1), (2, vI x2)] (r.toList ++ []) M' Q) (S_X12_is (by omega) e4 (by decide) (by decide) ?_) (fun r M' q => q)
    change WP _ LAY m_X12_index 14 [(0, vR (some 74)), (1, vI x1), (2, vI x2)] [vI (b2i (0 ≤ x2 ∧ x2 ≤ 1))] (mem (P, some 5, some 22) I J) Q
    refine st_if_ne (tg := 19) (pc' := 17) dX12_index_14 (by decide) rfl (b2i_in _) (fun c => ?_) (fun c => ?_)
    · replace h := h.1 (b2i_t.mp c)
      refine st_aload_n (pc' := 20) dX12_index_19 rfl rfl (j := 0) rfl ?_
      refine st_iload_n (pc' := 21) dX12_index_20 rfl rfl (j := 1) rfl ?_
      refine st_iconst (pc' := 22) dX12_index_21 rfl ?_
      refine st_callV (pc' := 25) (kc := k - 1) (E' := LAY) (cal := m_X12_allWork) (n := 2) (as := [vI x1, vI (-1)]) (S := []) dX12_index_22 rfl l_X12_614 k_X12_allWork rfl L_74 c_X12 rfl rfl (Nat.le_of_ble_eq_true rfl) (by omega) ⟨Nat.le_refl _, Nat.le_refl _, Nat.le_refl _, Nat.le_refl _⟩ h (fun r M' q => ?_)
      obtain ⟨v5, I6, J7, rfl, rfl, h⟩ := q
      change WP _ LAY m_X12_index 25 [(0, vR (some 74)), (1, vI x1), (2, vI x2)] [vI v5] (mem (P, some 5, some 22) I6 J7) Q
      refine st_istore_n (pc' := 26) (L' := [(3, vI v5), (0, vR (some 74)), (1, vI x1), (2, vI x2)]) dX12_index_25 rfl rfl (by decide) rfl ?_
      refine st_iconst (pc' := 27) dX12_index_26 rfl ?_
      refine st_istore (pc' := 29) (L' := [(4, vI (-1)), (3, vI v5), (0, vR (some 74)), (1, vI x1), (2, vI x2)]) dX12_index_27 rfl (by decide) rfl ?_
      refine st_iload_n (pc' := 30) dX12_index_29 rfl rfl (j := 1) rfl ?_
      refine st_istore (pc' := 32) (L' := [(5, vI v5), (4, vI (-1)), (3, vI v5), (0, vR (some 74)), (1, vI x1), (2, vI x2)]) dX12_index_30 rfl (by decide) rfl ?_
      refine st_iconst (pc' := 33) dX12_index_32 rfl ?_
      refine st_istore (pc' := 35) (L' := [(6, vI 0), (5, vI v5), (4, vI (-1)), (3, vI v5), (0, vR (some 74)), (1, vI x1), (2, vI x2)]) dX12_index_33 rfl (by decide) rfl ?_
      refine WP_sub (L' := [(0, vR (some 74)), (1, vI x1), (2, vI x2), (3, vI v5), (4, vI (-1)), (5, vI v5), (6, vI 0)]) [4, 5, 6, 3, 2, 1, 0] rfl ?_
      exact h
    · replace h := h.2 (b2i_f.mp c)
      refine st_iconst (pc' := 18) dX12_index_17 rfl ?_
      exact st_iret (ty := .int) dX12_index_18 rfl rfl rfl h
set_option maxRecDepth 20000 in
set_option maxHeartbeats 4000000 in
theorem B_X12_index_35 {k : Nat} {P : Option Nat} {I : Nat → Nat → Int32} {J : Nat → Nat → Int64} {x1 : Int} {x2 : Int} {x3 : Int} {x4 : Int} {x5 : Int} {x6 : Int} {Q : Option AV → Mem → Prop} (hk : 1 ≤ k) (h : (0 ≤ (gi I 74 13) ∧ (gi I 74 13) < 2) ∧ (inR x6 ∧ (((gi I 77 (gi I 74 13).toNat) ≤ x6 → (inR x4 ∧ ((x4 = (-1) → (Q (some (vI x4)) (mem (P, some 5, some 22) I J))) ∧ (¬ x4 = (-1) → (inR x2 ∧ ((¬ x2 = 0 → (Q (some (vI (x3 - x5))) (mem (P, some 5, some 22) I J))) ∧ (x2 = 0 → (Q (some (vI x4)) (mem (P, some 5, some 22) I J))))))))) ∧ (¬ (gi I 77 (gi I 74 13).toNat) ≤ x6 → ((¬ (and32 (shr32 x1 x6) 1 = 1) → (WPm (k - 1) LAY m_X12_allWork [vR (some 74), vI x1, vI x6] (mem (P, some 5, some 22) I J) (retI (fun v5 I6 J7 => inR v5 ∧ (inR x5 ∧ ((v5 < x5 → (WP k LAY m_X12_index 35 [(0, vR (some 74)), (1, vI x1), (2, vI x2), (3, vI x3), (4, vI x6), (5, vI v5), (6, vI (x6 + 1))] [] (mem (P, some 5, some 22) I6 J7) Q)) ∧ (¬ v5 < x5 → (WP k LAY m_X12_index 35 [(0, vR (some 74)), (1, vI x1), (2, vI x2), (3, vI x3), (4, vI x4), (5, vI x5), (6, vI (x6 + 1))] [] (mem (P, some 5, some 22) I6 J7) Q))))) (P, some 5, some 22)))) ∧ ((and32 (shr32 x1 x6) 1 = 1) → (WP k LAY m_X12_index 35 [(0, vR (some 74)), (1, vI x1), (2, vI x2), (3, vI x3), (4, vI x4), (5, vI x5), (6, vI (x6 + 1))] [] (mem (P, some 5, some 22) I J) Q))))))) : WP k LAY m_X12_index 35 [(0, vR (some 74)), (1, vI x1), (2, vI x2), (3, vI x3), (4, vI x4), (5, vI x5), (6, vI x6)] [] (mem (P, some 5, some 22) I J) Q := by
  refine st_iload (pc' := 37) dX12_index_35 rfl (j := 6) rfl ?_
  refine st_aload_n (pc' := 38) dX12_index_37 rfl rfl (j := 0) rfl ?_
  refine G_X12_57_74 dX12_index_38 (pc' := 41) rfl rfl ?_
  refine st_aload_n (pc' := 42) dX12_index_41 rfl rfl (j := 0) rfl ?_
  refine G_X12_51_74 dX12_index_42 (pc' := 45) rfl rfl ?_
  obtain ⟨e1, h⟩ := h
  refine st_iaload (pc' := 46) (v := (gi I 77 (gi I 74 13).toNat)) dX12_index_45 rfl L_77 (by decide) e1 (show gi I 77 (gi I 74 13).toNat = (gi I 77 (gi I 74 13).toNat) from rfl) ?_
  obtain ⟨e2, h⟩ := h
  refine st_icmp_ge (tg := 94) (pc' := 49) dX12_index_46 (by decide) rfl e2 (gi_in _ _ _) (fun c => ?_) (fun c => ?_)
  · replace h := h.1 c
    refine st_iload (pc' := 96) dX12_index_94 rfl (j := 4) rfl ?_
    refine st_iconst (pc' := 97) dX12_index_96 rfl ?_
    obtain ⟨e3, h⟩ := h
    refine st_icmp_eq (tg := 104) (pc' := 100) dX12_index_97 (by decide) rfl e3 (by decide) (fun c => ?_) (fun c => ?_)
    · replace h := h.1 c
      refine st_iload (pc' := 106) dX12_index_104 rfl (j := 4) rfl ?_
      refine st_goto (pc' := 113) dX12_index_106 (by decide) ?_
      exact st_iret (ty := .int) dX12_index_113 rfl rfl rfl h
    · replace h := h.2 c
      refine st_iload_n (pc' := 101) dX12_index_100 rfl rfl (j := 2) rfl ?_
      obtain ⟨e4, h⟩ := h
      refine st_if_ne (tg := 109) (pc' := 104) dX12_index_101 (by decide) rfl e4 (fun c => ?_) (fun c => ?_)
      · replace h := h.1 c
        refine st_iload_n (pc' := 110) dX12_index_109 rfl rfl (j := 3) rfl ?_
        refine st_iload (pc' := 112) dX12_index_110 rfl (j := 5) rfl ?_
        refine st_isub (pc' := 113) dX12_index_112 rfl ?_
        exact st_iret (ty := .int) dX12_index_113 rfl rfl rfl h
      · replace h := h.2 c
        refine st_iload (pc' := 106) dX12_index_104 rfl (j := 4) rfl ?_
        refine st_goto (pc' := 113) dX12_index_106 (by decide) ?_
        exact st_iret (ty := .int) dX12_index_113 rfl rfl rfl h
  · replace h := h.2 c
    refine st_iload_n (pc' := 50) dX12_index_49 rfl rfl (j := 1) rfl ?_
    refine st_iload (pc' := 52) dX12_index_50 rfl (j := 6) rfl ?_
    refine st_callS (pc' := 55) (kc := k - 1) (E' := LAY) (cal := m_X12_has) (n := 2) (as := [vI x1, vI x6]) (S := []) dX12_index_52 rfl l_X12_552 k_X12_has rfl rfl (Nat.le_of_ble_eq_true rfl) (by omega) ⟨Nat.le_refl _, Nat.le_refl _, Nat.le_refl _, Nat.le_refl _⟩ (Q1 := fun r M' => WP k LAY m_X12_index 55 [(0, vR (some 74)), (1, vI x1), (2, vI x2), (3, vI x3), (4, vI x4), (5, vI x5), (6, vI x6)] (r.toList ++ []) M' Q) (S_X12_has (by omega)  ?_) (fun r M' q => q)
    change WP _ LAY m_X12_index 55 [(0, vR (some 74)), (1, vI x1), (2, vI x2), (3, vI x3), (4, vI x4), (5, vI x5), (6, vI x6)] [vI (b2i (and32 (shr32 x1 x6) 1 = 1))] (mem (P, some 5, some 22) I J) Q
    refine st_if_eq (tg := 61) (pc' := 58) dX12_index_55 (by decide) rfl (b2i_in _) (fun c => ?_) (fun c => ?_)
    · replace h := h.1 (b2i_f.mp c)
      refine st_aload_n (pc' := 62) dX12_index_61 rfl rfl (j := 0) rfl ?_
      refine st_iload_n (pc' := 63) dX12_index_62 rfl rfl (j := 1) rfl ?_
      refine st_iload (pc' := 65) dX12_index_63 rfl (j := 6) rfl ?_
      refine st_callV (pc' := 68) (kc := k - 1) (E' := LAY) (cal := m_X12_allWork) (n := 2) (as := [vI x1, vI x6]) (S := []) dX12_index_65 rfl l_X12_614 k_X12_allWork rfl L_74 c_X12 rfl rfl (Nat.le_of_ble_eq_true rfl) (by omega) ⟨Nat.le_refl _, Nat.le_refl _, Nat.le_refl _, Nat.le_refl _⟩ h (fun r M' q => ?_)
      obtain ⟨v5, I6, J7, rfl, rfl, h⟩ := q
      change WP _ LAY m_X12_index 68 [(0, vR (some 74)), (1, vI x1), (2, vI x2), (3, vI x3), (4, vI x4), (5, vI x5), (6, vI x6)] [vI v5] (mem (P, some 5, some 22) I6 J7) Q
      refine st_istore (pc' := 70) (L' := [(7, vI v5), (0, vR (some 74)), (1, vI x1), (2, vI x2), (3, vI x3), (4, vI x4), (5, vI x5), (6, vI x6)]) dX12_index_68 rfl (by decide) rfl ?_
      refine st_iload (pc' := 72) dX12_index_70 rfl (j := 0) rfl ?_
      refine st_iload (pc' := 74) dX12_index_72 rfl (j := 6) rfl ?_
      obtain ⟨e8, h⟩ := h
      obtain ⟨e9, h⟩ := h
      refine st_icmp_lt (tg := 80) (pc' := 77) dX12_index_74 (by decide) rfl e8 e9 (fun c => ?_) (fun c => ?_)
      · replace h := h.1 c
        refine st_iload (pc' := 82) dX12_index_80 rfl (j := 7) rfl ?_
        refine st_istore (pc' := 84) (L' := [(4, vI x6), (7, vI v5), (0, vR (some 74)), (1, vI x1), (2, vI x2), (3, vI x3), (5, vI x5), (6, vI x6)]) dX12_index_82 rfl (by decide) rfl ?_
        refine st_iload (pc' := 86) dX12_index_84 rfl (j := 1) rfl ?_
        refine st_istore (pc' := 88) (L' := [(5, vI v5), (4, vI x6), (7, vI v5), (0, vR (some 74)), (1, vI x1), (2, vI x2), (3, vI x3), (6, vI x6)]) dX12_index_86 rfl (by decide) rfl ?_
        refine st_iinc (pc' := 91) (L' := [(6, vI (x6 + 1)), (5, vI v5), (4, vI x6), (7, vI v5), (0, vR (some 74)), (1, vI x1), (2, vI x2), (3, vI x3)]) (j := 7) dX12_index_88 rfl (by decide) rfl rfl ?_
        refine st_goto (pc' := 35) dX12_index_91 (by decide) ?_
        refine WP_sub (L' := [(0, vR (some 74)), (1, vI x1), (2, vI x2), (3, vI x3), (4, vI x6), (5, vI v5), (6, vI (x6 + 1))]) [4, 5, 6, 7, 2, 1, 0] rfl ?_
        exact h
      · replace h := h.2 c
        refine st_goto (pc' := 88) dX12_index_77 (by decide) ?_
        refine st_iinc (pc' := 91) (L' := [(6, vI (x6 + 1)), (7, vI v5), (0, vR (some 74)), (1, vI x1), (2, vI x2), (3, vI x3), (4, vI x4), (5, vI x5)]) (j := 7) dX12_index_88 rfl (by decide) rfl rfl ?_
        refine st_goto (pc' := 35) dX12_index_91 (by decide) ?_
        refine WP_sub (L' := [(0, vR (some 74)), (1, vI x1), (2, vI x2), (3, vI x3), (4, vI x4), (5, vI x5), (6, vI (x6 + 1))]) [2, 3, 4, 5, 6, 7, 0] rfl ?_
        exact h
    · replace h := h.2 (b2i_t.mp c)
      refine st_goto (pc' := 88) dX12_index_58 (by decide) ?_
      refine st_iinc (pc' := 91) (L' := [(6, vI (x6 + 1)), (0, vR (some 74)), (1, vI x1), (2, vI x2), (3, vI x3), (4, vI x4), (5, vI x5)]) (j := 6) dX12_index_88 rfl (by decide) rfl rfl ?_
      refine st_goto (pc' := 35) dX12_index_91 (by decide) ?_
      refine WP_sub (L' := [(0, vR (some 74)), (1, vI x1), (2, vI x2), (3, vI x3), (4, vI x4), (5, vI x5), (6, vI (x6 + 1))]) [1, 2, 3, 4, 5, 6, 0] rfl ?_
      exact h
set_option maxRecDepth 20000 in
set_option maxHeartbeats 4000000 in
theorem B_X12_isListed_0 {k : Nat} {P : Option Nat} {I : Nat → Nat → Int32} {J : Nat → Nat → Int64} {x1 : Int} {x2 : Int} {x3 : Int} {Q : Option AV → Mem → Prop} (hk : 0 ≤ k) (h : WP k LAY m_X12_isListed 11 [(0, vR (some 74)), (3, vI x3), (4, vI ((6 * x1) + x2)), (5, vI 0)] [] (mem (P, some 5, some 22) I J) Q) : WP k LAY m_X12_isListed 0 [(0, vR (some 74)), (1, vI x1), (2, vI x2), (3, vI x3)] [] (mem (P, some 5, some 22) I J) Q := by
  refine st_bipush (pc' := 2) dX12_isListed_0 rfl (by decide) ?_
  refine st_iload_n (pc' := 3) dX12_isListed_2 rfl rfl (j := 1) rfl ?_
  refine st_imul (pc' := 4) dX12_isListed_3 rfl ?_
  refine st_iload_n (pc' := 5) dX12_isListed_4 rfl rfl (j := 2) rfl ?_
  refine st_iadd (pc' := 6) dX12_isListed_5 rfl ?_
  refine st_istore (pc' := 8) (L' := [(4, vI ((6 * x1) + x2)), (0, vR (some 74)), (1, vI x1), (2, vI x2), (3, vI x3)]) dX12_isListed_6 rfl (by decide) rfl ?_
  refine st_iconst (pc' := 9) dX12_isListed_8 rfl ?_
  refine st_istore (pc' := 11) (L' := [(5, vI 0), (4, vI ((6 * x1) + x2)), (0, vR (some 74)), (1, vI x1), (2, vI x2), (3, vI x3)]) dX12_isListed_9 rfl (by decide) rfl ?_
  refine WP_sub (L' := [(0, vR (some 74)), (3, vI x3), (4, vI ((6 * x1) + x2)), (5, vI 0)]) [2, 5, 1, 0] rfl ?_
  exact h
set_option maxRecDepth 20000 in
set_option maxHeartbeats 4000000 in
theorem B_X12_isListed_11 {k : Nat} {P : Option Nat} {I : Nat → Nat → Int32} {J : Nat → Nat → Int64} {x3 : Int} {x4 : Int} {x5 : Int} {Q : Option AV → Mem → Prop} (hk : 0 ≤ k) (h : (0 ≤ x4 ∧ x4 < 132) ∧ (inR x5 ∧ (((gi I 115 (x4).toNat) ≤ x5 → (Q (some (vI 0)) (mem (P, some 5, some 22) I J))) ∧ (¬ (gi I 115 (x4).toNat) ≤ x5 → ((0 ≤ ((8 * x4) + x5) ∧ ((8 * x4) + x5) < 1056) ∧ (inR x3 ∧ ((¬ (gi I 116 (((8 * x4) + x5) : Int).toNat) = x3 → (WP k LAY m_X12_isListed 11 [(0, vR (some 74)), (3, vI x3), (4, vI x4), (5, vI (x5 + 1))] [] (mem (P, some 5, some 22) I J) Q)) ∧ ((gi I 116 (((8 * x4) + x5) : Int).toNat) = x3 → (Q (some (vI 1)) (mem (P, some 5, some 22) I J)))))))))) : WP k LAY m_X12_isListed 11 [(0, vR (some 74)), (3, vI x3), (4, vI x4), (5, vI x5)] [] (mem (P, some 5, some 22) I J) Q := by
  refine st_iload (pc' := 13) dX12_isListed_11 rfl (j := 3) rfl ?_
  refine st_aload_n (pc' := 14) dX12_isListed_13 rfl rfl (j := 0) rfl ?_
  refine G_X12_192_74 dX12_isListed_14 (pc' := 17) rfl rfl ?_
  refine st_iload (pc' := 19) dX12_isListed_17 rfl (j := 2) rfl ?_
  obtain ⟨e1, h⟩ := h
  refine st_iaload (pc' := 20) (v := (gi I 115 (x4).toNat)) dX12_isListed_19 rfl L_115 (by decide) e1 (show gi I 115 (x4).toNat = (gi I 115 (x4).toNat) from rfl) ?_
  obtain ⟨e2, h⟩ := h
  refine st_icmp_ge (tg := 48) (pc' := 23) dX12_isListed_20 (by decide) rfl e2 (gi_in _ _ _) (fun c => ?_) (fun c => ?_)
  · replace h := h.1 c
    refine st_iconst (pc' := 49) dX12_isListed_48 rfl ?_
    exact st_iret (ty := .boolean) dX12_isListed_49 rfl (by decide) rfl h
  · replace h := h.2 c
    refine st_aload_n (pc' := 24) dX12_isListed_23 rfl rfl (j := 0) rfl ?_
    refine G_X12_195_74 dX12_isListed_24 (pc' := 27) rfl rfl ?_
    refine st_bipush (pc' := 29) dX12_isListed_27 rfl (by decide) ?_
    refine st_iload (pc' := 31) dX12_isListed_29 rfl (j := 2) rfl ?_
    refine st_imul (pc' := 32) dX12_isListed_31 rfl ?_
    refine st_iload (pc' := 34) dX12_isListed_32 rfl (j := 3) rfl ?_
    refine st_iadd (pc' := 35) dX12_isListed_34 rfl ?_
    obtain ⟨e3, h⟩ := h
    refine st_iaload (pc' := 36) (v := (gi I 116 (((8 * x4) + x5) : Int).toNat)) dX12_isListed_35 rfl L_116 (by decide) e3 (show gi I 116 (((8 * x4) + x5) : Int).toNat = (gi I 116 (((8 * x4) + x5) : Int).toNat) from rfl) ?_
    refine st_iload_n (pc' := 37) dX12_isListed_36 rfl rfl (j := 1) rfl ?_
    obtain ⟨e4, h⟩ := h
    refine st_icmp_ne (tg := 42) (pc' := 40) dX12_isListed_37 (by decide) rfl (gi_in _ _ _) e4 (fun c => ?_) (fun c => ?_)
    · replace h := h.1 c
      refine st_iinc (pc' := 45) (L' := [(5, vI (x5 + 1)), (0, vR (some 74)), (3, vI x3), (4, vI x4)]) (j := 3) dX12_isListed_42 rfl (by decide) rfl rfl ?_
      refine st_goto (pc' := 11) dX12_isListed_45 (by decide) ?_
      refine WP_sub (L' := [(0, vR (some 74)), (3, vI x3), (4, vI x4), (5, vI (x5 + 1))]) [1, 2, 3, 0] rfl ?_
      exact h
    · replace h := h.2 c
      refine st_iconst (pc' := 41) dX12_isListed_40 rfl ?_
      exact st_iret (ty := .boolean) dX12_isListed_41 rfl (by decide) rfl h
set_option maxRecDepth 20000 in
set_option maxHeartbeats 4000000 in
theorem B_X12_kept_0 {k : Nat} {P : Option Nat} {I : Nat → Nat → Int32} {J : Nat → Nat → Int64} {x1 : Int} {x2 : Int} {Q : Option AV → Mem → Prop} (hk : 1 ≤ k) (h : inR x1 ∧ (inR ((gi I 117 0) - 1) ∧ ((¬ (0 ≤ x1 ∧ x1 ≤ ((gi I 117 0) - 1)) → (Q (some (vI (-1))) (mem (P, some 5, some 22) I J))) ∧ ((0 ≤ x1 ∧ x1 ≤ ((gi I 117 0) - 1)) → (inR x2 ∧ (((0 ≤ x2 ∧ x2 ≤ 2) → ((¬ x2 = 0 → ((¬ x2 = 1 → ((0 ≤ x1 ∧ x1 < 1320) ∧ (Q (some (vI (gi I 120 (x1).toNat))) (mem (P, some 5, some 22) I J)))) ∧ (x2 = 1 → ((0 ≤ x1 ∧ x1 < 1320) ∧ (Q (some (vI (gi I 119 (x1).toNat))) (mem (P, some 5, some 22) I J)))))) ∧ (x2 = 0 → ((0 ≤ x1 ∧ x1 < 1320) ∧ (Q (some (vI (gi I 118 (x1).toNat))) (mem (P, some 5, some 22) I J)))))) ∧ (¬ (0 ≤ x2 ∧ x2 ≤ 2) → (Q (some (vI (-1))) (mem (P, some 5, some 22) I J))))))))) : WP k LAY m_X12_kept 0 [(0, vR (some 74)), (1, vI x1), (2, vI x2)] [] (mem (P, some 5, some 22) I J) Q := by
  refine st_iload_n (pc' := 1) dX12_kept_0 rfl rfl (j := 1) rfl ?_
  refine st_iconst (pc' := 2) dX12_kept_1 rfl ?_
  refine st_aload_n (pc' := 3) dX12_kept_2 rfl rfl (j := 0) rfl ?_
  refine G_X12_198_74 dX12_kept_3 (pc' := 6) rfl rfl ?_
  refine st_iconst (pc' := 7) dX12_kept_6 rfl ?_
  refine st_iaload (pc' := 8) (v := (gi I 117 0)) dX12_kept_7 rfl L_117 (by decide) (by decide) (show gi I 117 0 = (gi I 117 0) from rfl) ?_
  refine st_iconst (pc' := 9) dX12_kept_8 rfl ?_
  refine st_isub (pc' := 10) dX12_kept_9 rfl ?_
  obtain ⟨e1, h⟩ := h
  obtain ⟨e2, h⟩ := h
  refine st_callS (pc' := 13) (kc := k - 1) (E' := LAY) (cal := m_X12_is) (n := 3) (as := [vI x1, vI 0, vI ((gi I 117 0) - 1)]) (S := []) dX12_kept_10 rfl l_X12_369 k_X12_is rfl rfl (Nat.le_of_ble_eq_true rfl) (by omega) ⟨Nat.le_refl _, Nat.le_refl _, Nat.le_refl _, Nat.le_refl _⟩ (Q1 := fun r M' => WP k LAY m_X12_kept 13 [(0, vR (some 74)), (1, vI x1), (2, vI x2)] (r.toList ++ []) M' Q) (S_X12_is (by omega) e1 (by decide) e2 ?_) (fun r M' q => q)
  change WP _ LAY m_X12_kept 13 [(0, vR (some 74)), (1, vI x1), (2, vI x2)] [vI (b2i (0 ≤ x1 ∧ x1 ≤ ((gi I 117 0) - 1)))] (mem (P, some 5, some 22) I J) Q
  refine st_if_eq (tg := 25) (pc' := 16) dX12_kept_13 (by decide) rfl (b2i_in _) (fun c => ?_) (fun c => ?_)
  · replace h := h.1 (b2i_f.mp c)
    refine st_iconst (pc' := 26) dX12_kept_25 rfl ?_
    exact st_iret (ty := .int) dX12_kept_26 rfl rfl rfl h
  · replace h := h.2 (b2i_t.mp c)
    refine st_iload_n (pc' := 17) dX12_kept_16 rfl rfl (j := 2) rfl ?_
    refine st_iconst (pc' := 18) dX12_kept_17 rfl ?_
    refine st_iconst (pc' := 19) dX12_kept_18 rfl ?_
    obtain ⟨e3, h⟩ := h
    refine st_callS (pc' := 22) (kc := k - 1) (E' := LAY) (cal := m_X12_is) (n := 3) (as := [vI x2, vI 0, vI 2]) (S := []) dX12_kept_19 rfl l_X12_369 k_X12_is rfl rfl (Nat.le_of_ble_eq_true rfl) (by omega) ⟨Nat.le_refl _, Nat.le_refl _, Nat.le_refl _, Nat.le_refl _⟩ (Q1 := fun r M' => WP k LAY m_X12_kept 22 [(0, vR (some 74)), (1, vI x1), (2, vI x2)] (r.toList ++ []) M' Q) (S_X12_is (by omega) e3 (by decide) (by decide) ?_) (fun r M' q => q)
    change WP _ LAY m_X12_kept 22 [(0, vR (some 74)), (1, vI x1), (2, vI x2)] [vI (b2i (0 ≤ x2 ∧ x2 ≤ 2))] (mem (P, some 5, some 22) I J) Q
    refine st_if_ne (tg := 27) (pc' := 25) dX12_kept_22 (by decide) rfl (b2i_in _) (fun c => ?_) (fun c => ?_)
    · replace h := h.1 (b2i_t.mp c)
      refine st_iload_n (pc' := 28) dX12_kept_27 rfl rfl (j := 2) rfl ?_
      refine st_if_ne (tg := 40) (pc' := 31) dX12_kept_28 (by decide) rfl e3 (fun c => ?_) (fun c => ?_)
      · replace h := h.1 c
        refine st_iload_n (pc' := 41) dX12_kept_40 rfl rfl (j := 2) rfl ?_
        refine st_iconst (pc' := 42) dX12_kept_41 rfl ?_
        refine st_icmp_ne (tg := 54) (pc' := 45) dX12_kept_42 (by decide) rfl e3 (by decide) (fun c => ?_) (fun c => ?_)
        · replace h := h.1 c
          refine st_aload_n (pc' := 55) dX12_kept_54 rfl rfl (j := 0) rfl ?_
          refine G_X12_207_74 dX12_kept_55 (pc' := 58) rfl rfl ?_
          refine st_iload_n (pc' := 59) dX12_kept_58 rfl rfl (j := 1) rfl ?_
          obtain ⟨e4, h⟩ := h
          refine st_iaload (pc' := 60) (v := (gi I 120 (x1).toNat)) dX12_kept_59 rfl L_120 (by decide) e4 (show gi I 120 (x1).toNat = (gi I 120 (x1).toNat) from rfl) ?_
          exact st_iret (ty := .int) dX12_kept_60 rfl rfl rfl h
        · replace h := h.2 c
          refine st_aload_n (pc' := 46) dX12_kept_45 rfl rfl (j := 0) rfl ?_
          refine G_X12_204_74 dX12_kept_46 (pc' := 49) rfl rfl ?_
          refine st_iload_n (pc' := 50) dX12_kept_49 rfl rfl (j := 1) rfl ?_
          obtain ⟨e5, h⟩ := h
          refine st_iaload (pc' := 51) (v := (gi I 119 (x1).toNat)) dX12_kept_50 rfl L_119 (by decide) e5 (show gi I 119 (x1).toNat = (gi I 119 (x1).toNat) from rfl) ?_
          refine st_goto (pc' := 60) dX12_kept_51 (by decide) ?_
          exact st_iret (ty := .int) dX12_kept_60 rfl rfl rfl h
      · replace h := h.2 c
        refine st_aload_n (pc' := 32) dX12_kept_31 rfl rfl (j := 0) rfl ?_
        refine G_X12_201_74 dX12_kept_32 (pc' := 35) rfl rfl ?_
        refine st_iload_n (pc' := 36) dX12_kept_35 rfl rfl (j := 1) rfl ?_
        obtain ⟨e6, h⟩ := h
        refine st_iaload (pc' := 37) (v := (gi I 118 (x1).toNat)) dX12_kept_36 rfl L_118 (by decide) e6 (show gi I 118 (x1).toNat = (gi I 118 (x1).toNat) from rfl) ?_
        refine st_goto (pc' := 60) dX12_kept_37 (by decide) ?_
        exact st_iret (ty := .int) dX12_kept_60 rfl rfl rfl h
    · replace h := h.2 (b2i_f.mp c)
      refine st_iconst (pc' := 26) dX12_kept_25 rfl ?_
      exact st_iret (ty := .int) dX12_kept_26 rfl rfl rfl h
set_option maxRecDepth 20000 in
set_option maxHeartbeats 4000000 in
theorem B_X12_letter_0 {k : Nat} {P : Option Nat} {I : Nat → Nat → Int32} {J : Nat → Nat → Int64} {x1 : Int} {x2 : Int} {x3 : Int} {Q : Option AV → Mem → Prop} (hk : 1 ≤ k) (h : inR x1 ∧ ((¬ (0 ≤ x1 ∧ x1 ≤ 3) → (Q (some (vI (-1))) (mem (P, some 5, some 22) I J))) ∧ ((0 ≤ x1 ∧ x1 ≤ 3) → (WPm (k - 1) LAY m_X12_manyOf [vR (some 74), vI (gi I 74 13), vI x1] (mem (P, some 5, some 22) I J) (retI (fun v2 I3 J4 => inR x2 ∧ (inR (v2 - 1) ∧ ((¬ (0 ≤ x2 ∧ x2 ≤ (v2 - 1)) → (Q (some (vI (-1))) (mem (P, some 5, some 22) I3 J4))) ∧ ((0 ≤ x2 ∧ x2 ≤ (v2 - 1)) → (inR x3 ∧ (((0 ≤ x3 ∧ x3 ≤ 5) → (WPm (k - 1) LAY m_X12_nameOf [vR (some 74), vI (gi I3 74 13), vI x1, vI x2] (mem (P, some 5, some 22) I3 J4) (retL (fun v8 I9 J10 => WP k LAY m_X12_letter 58 [(3, vI x3), (4, vL v8), (6, vI 0), (7, vL v8)] [] (mem (P, some 5, some 22) I9 J10) Q) (P, some 5, some 22)))) ∧ (¬ (0 ≤ x3 ∧ x3 ≤ 5) → (Q (some (vI (-1))) (mem (P, some 5, some 22) I3 J4))))))))) (P, some 5, some 22)))))) : WP k LAY m_X12_letter 0 [(0, vR (some 74)), (1, vI x1), (2, vI x2), (3, vI x3)] [] (mem (P, some 5, some 22) I J) Q := by
  refine st_iload_n (pc' := 1) dX12_letter_0 rfl rfl (j := 1) rfl ?_
  refine st_iconst (pc' := 2) dX12_letter_1 rfl ?_
  refine st_iconst (pc' := 3) dX12_letter_2 rfl ?_
  obtain ⟨e1, h⟩ := h
  refine st_callS (pc' := 6) (kc := k - 1) (E' := LAY) (cal := m_X12_is) (n := 3) (as := [vI x1, vI 0, vI 3]) (S := []) dX12_letter_3 rfl l_X12_369 k_X12_is rfl rfl (Nat.le_of_ble_eq_true rfl) (by omega) ⟨Nat.le_refl _, Nat.le_refl _, Nat.le_refl _, Nat.le_refl _⟩ (Q1 := fun r M' => WP k LAY m_X12_letter 6 [(0, vR (some 74)), (1, vI x1), (2, vI x2), (3, vI x3)] (r.toList ++ []) M' Q) (S_X12_is (by omega) e1 (by decide) (by decide) ?_) (fun r M' q => q)
  change WP _ LAY m_X12_letter 6 [(0, vR (some 74)), (1, vI x1), (2, vI x2), (3, vI x3)] [vI (b2i (0 ≤ x1 ∧ x1 ≤ 3))] (mem (P, some 5, some 22) I J) Q
  refine st_if_eq (tg := 37) (pc' := 9) dX12_letter_6 (by decide) rfl (b2i_in _) (fun c => ?_) (fun c => ?_)
  · replace h := h.1 (b2i_f.mp c)
    refine st_iconst (pc' := 38) dX12_letter_37 rfl ?_
    exact st_iret (ty := .int) dX12_letter_38 rfl rfl rfl h
  · replace h := h.2 (b2i_t.mp c)
    refine st_iload_n (pc' := 10) dX12_letter_9 rfl rfl (j := 2) rfl ?_
    refine st_iconst (pc' := 11) dX12_letter_10 rfl ?_
    refine st_aload_n (pc' := 12) dX12_letter_11 rfl rfl (j := 0) rfl ?_
    refine st_aload_n (pc' := 13) dX12_letter_12 rfl rfl (j := 0) rfl ?_
    refine G_X12_51_74 dX12_letter_13 (pc' := 16) rfl rfl ?_
    refine st_iload_n (pc' := 17) dX12_letter_16 rfl rfl (j := 1) rfl ?_
    refine st_callV (pc' := 20) (kc := k - 1) (E' := LAY) (cal := m_X12_manyOf) (n := 2) (as := [vI (gi I 74 13), vI x1]) (S := [vI 0, vI x2]) dX12_letter_17 rfl l_X12_361 k_X12_manyOf rfl L_74 c_X12 rfl rfl (Nat.le_of_ble_eq_true rfl) (by omega) ⟨Nat.le_refl _, Nat.le_refl _, Nat.le_refl _, Nat.le_refl _⟩ h (fun r M' q => ?_)
    obtain ⟨v2, I3, J4, rfl, rfl, h⟩ := q
    change WP _ LAY m_X12_letter 20 [(0, vR (some 74)), (1, vI x1), (2, vI x2), (3, vI x3)] [vI v2, vI 0, vI x2] (mem (P, some 5, some 22) I3 J4) Q
    refine st_iconst (pc' := 21) dX12_letter_20 rfl ?_
    refine st_isub (pc' := 22) dX12_letter_21 rfl ?_
    obtain ⟨e5, h⟩ := h
    obtain ⟨e6, h⟩ := h
    refine st_callS (pc' := 25) (kc := k - 1) (E' := LAY) (cal := m_X12_is) (n := 3) (as := [vI x2, vI 0, vI (v2 - 1)]) (S := []) dX12_letter_22 rfl l_X12_369 k_X12_is rfl rfl (Nat.le_of_ble_eq_true rfl) (by omega) ⟨Nat.le_refl _, Nat.le_refl _, Nat.le_refl _, Nat.le_refl _⟩ (Q1 := fun r M' => WP k LAY m_X12_letter 25 [(0, vR (some 74)), (1, vI x1), (2, vI x2), (3, vI x3)] (r.toList ++ []) M' Q) (S_X12_is (by omega) e5 (by decide) e6 ?_) (fun r M' q => q)
    change WP _ LAY m_X12_letter 25 [(0, vR (some 74)), (1, vI x1), (2, vI x2), (3, vI x3)] [vI (b2i (0 ≤ x2 ∧ x2 ≤ (v2 - 1)))] (mem (P, some 5, some 22) I3 J4) Q
    refine st_if_eq (tg := 37) (pc' := 28) dX12_letter_25 (by decide) rfl (b2i_in _) (fun c => ?_) (fun c => ?_)
    · replace h := h.1 (b2i_f.mp c)
      refine st_iconst (pc' := 38) dX12_letter_37 rfl ?_
      exact st_iret (ty := .int) dX12_letter_38 rfl rfl rfl h
    · replace h := h.2 (b2i_t.mp c)
      refine st_iload_n (pc' := 29) dX12_letter_28 rfl rfl (j := 3) rfl ?_
      refine st_iconst (pc' := 30) dX12_letter_29 rfl ?_
      refine st_iconst (pc' := 31) dX12_letter_30 rfl ?_
      obtain ⟨e7, h⟩ := h
      refine st_callS (pc' := 34) (kc := k - 1) (E' := LAY) (cal := m_X12_is) (n := 3) (as := [vI x3, vI 0, vI 5]) (S := []) dX12_letter_31 rfl l_X12_369 k_X12_is rfl rfl (Nat.le_of_ble_eq_true rfl) (by omega) ⟨Nat.le_refl _, Nat.le_refl _, Nat.le_refl _, Nat.le_refl _⟩ (Q1 := fun r M' => WP k LAY m_X12_letter 34 [(0, vR (some 74)), (1, vI x1), (2, vI x2), (3, vI x3)] (r.toList ++ []) M' Q) (S_X12_is (by omega) e7 (by decide) (by decide) ?_) (fun r M' q => q)
      change WP _ LAY m_X12_letter 34 [(0, vR (some 74)), (1, vI x1), (2, vI x2), (3, vI x3)] [vI (b2i (0 ≤ x3 ∧ x3 ≤ 5))] (mem (P, some 5, some 22) I3 J4) Q
      refine st_if_ne (tg := 39) (pc' := 37) dX12_letter_34 (by decide) rfl (b2i_in _) (fun c => ?_) (fun c => ?_)
      · replace h := h.1 (b2i_t.mp c)
        refine st_aload_n (pc' := 40) dX12_letter_39 rfl rfl (j := 0) rfl ?_
        refine st_aload_n (pc' := 41) dX12_letter_40 rfl rfl (j := 0) rfl ?_
        refine G_X12_51_74 dX12_letter_41 (pc' := 44) rfl rfl ?_
        refine st_iload_n (pc' := 45) dX12_letter_44 rfl rfl (j := 1) rfl ?_
        refine st_iload_n (pc' := 46) dX12_letter_45 rfl rfl (j := 2) rfl ?_
        refine st_callV (pc' := 49) (kc := k - 1) (E' := LAY) (cal := m_X12_nameOf) (n := 3) (as := [vI (gi I3 74 13), vI x1, vI x2]) (S := []) dX12_letter_46 rfl l_X12_365 k_X12_nameOf rfl L_74 c_X12 rfl rfl (Nat.le_of_ble_eq_true rfl) (by omega) ⟨Nat.le_refl _, Nat.le_refl _, Nat.le_refl _, Nat.le_refl _⟩ h (fun r M' q => ?_)
        obtain ⟨v8, I9, J10, rfl, rfl, h⟩ := q
        change WP _ LAY m_X12_letter 49 [(0, vR (some 74)), (1, vI x1), (2, vI x2), (3, vI x3)] [vL v8] (mem (P, some 5, some 22) I9 J10) Q
        refine st_lstore (pc' := 51) (L' := [(4, vL v8), (0, vR (some 74)), (1, vI x1), (2, vI x2), (3, vI x3)]) dX12_letter_49 rfl (by decide) rfl ?_
        refine st_iconst (pc' := 52) dX12_letter_51 rfl ?_
        refine st_istore (pc' := 54) (L' := [(6, vI 0), (4, vL v8), (0, vR (some 74)), (1, vI x1), (2, vI x2), (3, vI x3)]) dX12_letter_52 rfl (by decide) rfl ?_
        refine st_lload (pc' := 56) dX12_letter_54 rfl (j := 1) rfl ?_
        refine st_lstore (pc' := 58) (L' := [(7, vL v8), (6, vI 0), (4, vL v8), (0, vR (some 74)), (1, vI x1), (2, vI x2), (3, vI x3)]) dX12_letter_56 rfl (by decide) rfl ?_
        refine WP_sub (L' := [(3, vI x3), (4, vL v8), (6, vI 0), (7, vL v8)]) [6, 2, 1, 0] rfl ?_
        exact h
      · replace h := h.2 (b2i_f.mp c)
        refine st_iconst (pc' := 38) dX12_letter_37 rfl ?_
        exact st_iret (ty := .int) dX12_letter_38 rfl rfl rfl h
set_option maxRecDepth 20000 in
set_option maxHeartbeats 4000000 in
theorem B_X12_letter_58 {k : Nat} {P : Option Nat} {I : Nat → Nat → Int32} {J : Nat → Nat → Int64} {x3 : Int} {x4 : Int} {x6 : Int} {x7 : Int} {Q : Option AV → Mem → Prop} (hk : 0 ≤ k) (h : inL x7 ∧ ((x7 ≤ 0 → (inR x3 ∧ (inR x6 ∧ ((x3 < x6 → (Q (some (vI (((and64 (shr64 x4 (8 * ((x6 - 1) - x3))) 255) - 97) + 1))) (mem (P, some 5, some 22) I J))) ∧ (¬ x3 < x6 → (Q (some (vI 0)) (mem (P, some 5, some 22) I J))))))) ∧ (¬ x7 ≤ 0 → (WP k LAY m_X12_letter 58 [(3, vI x3), (4, vL x4), (6, vI (x6 + 1)), (7, vL (shr64 x7 8))] [] (mem (P, some 5, some 22) I J) Q)))) : WP k LAY m_X12_letter 58 [(3, vI x3), (4, vL x4), (6, vI x6), (7, vL x7)] [] (mem (P, some 5, some 22) I J) Q := by
  refine st_lload (pc' := 60) dX12_letter_58 rfl (j := 3) rfl ?_
  refine st_lconst (pc' := 61) (z := 0) dX12_letter_60 rfl (by decide) ?_
  obtain ⟨e1, h⟩ := h
  refine st_lif_le (tg := 78) (pc' := 65) (pc1 := 62) dX12_letter_61 rfl dX12_letter_62 (by decide) rfl e1 (by decide) (fun c => ?_) (fun c => ?_)
  · replace h := h.1 c
    refine st_iload_n (pc' := 79) dX12_letter_78 rfl rfl (j := 0) rfl ?_
    refine st_iload (pc' := 81) dX12_letter_79 rfl (j := 2) rfl ?_
    obtain ⟨e2, h⟩ := h
    obtain ⟨e3, h⟩ := h
    refine st_icmp_lt (tg := 88) (pc' := 84) dX12_letter_81 (by decide) rfl e2 e3 (fun c => ?_) (fun c => ?_)
    · replace h := h.1 c
      refine st_lload (pc' := 90) dX12_letter_88 rfl (j := 1) rfl ?_
      refine st_bipush (pc' := 92) dX12_letter_90 rfl (by decide) ?_
      refine st_iload (pc' := 94) dX12_letter_92 rfl (j := 2) rfl ?_
      refine st_iconst (pc' := 95) dX12_letter_94 rfl ?_
      refine st_isub (pc' := 96) dX12_letter_95 rfl ?_
      refine st_iload_n (pc' := 97) dX12_letter_96 rfl rfl (j := 0) rfl ?_
      refine st_isub (pc' := 98) dX12_letter_97 rfl ?_
      refine st_imul (pc' := 99) dX12_letter_98 rfl ?_
      refine st_lshr (pc' := 100) (z := (shr64 x4 (8 * ((x6 - 1) - x3)))) dX12_letter_99 rfl rfl ?_
      refine st_ldc2 (pc' := 103) (z := 255) dX12_letter_100 rfl q_X12_550 (by decide) ?_
      refine st_land (pc' := 104) (z := (and64 (shr64 x4 (8 * ((x6 - 1) - x3))) 255)) dX12_letter_103 rfl rfl ?_
      refine st_l2i (pc' := 105) dX12_letter_104 rfl ?_
      refine st_bipush (pc' := 107) dX12_letter_105 rfl (by decide) ?_
      refine st_isub (pc' := 108) dX12_letter_107 rfl ?_
      refine st_iconst (pc' := 109) dX12_letter_108 rfl ?_
      refine st_iadd (pc' := 110) dX12_letter_109 rfl ?_
      exact st_iret (ty := .int) dX12_letter_110 rfl rfl rfl h
    · replace h := h.2 c
      refine st_iconst (pc' := 85) dX12_letter_84 rfl ?_
      refine st_goto (pc' := 110) dX12_letter_85 (by decide) ?_
      exact st_iret (ty := .int) dX12_letter_110 rfl rfl rfl h
  · replace h := h.2 c
    refine st_iinc (pc' := 68) (L' := [(6, vI (x6 + 1)), (3, vI x3), (4, vL x4), (7, vL x7)]) (j := 2) dX12_letter_65 rfl (by decide) rfl rfl ?_
    refine st_lload (pc' := 70) dX12_letter_68 rfl (j := 3) rfl ?_
    refine st_bipush (pc' := 72) dX12_letter_70 rfl (by decide) ?_
    refine st_lshr (pc' := 73) (z := (shr64 x7 8)) dX12_letter_72 rfl rfl ?_
    refine st_lstore (pc' := 75) (L' := [(7, vL (shr64 x7 8)), (6, vI (x6 + 1)), (3, vI x3), (4, vL x4)]) dX12_letter_73 rfl (by decide) rfl ?_
    refine st_goto (pc' := 58) dX12_letter_75 (by decide) ?_
    refine WP_sub (L' := [(3, vI x3), (4, vL x4), (6, vI (x6 + 1)), (7, vL (shr64 x7 8))]) [2, 3, 1, 0] rfl ?_
    exact h
set_option maxRecDepth 20000 in
set_option maxHeartbeats 4000000 in
theorem B_X12_must__0 {k : Nat} {P : Option Nat} {I : Nat → Nat → Int32} {J : Nat → Nat → Int64} {x1 : Int} {Q : Option AV → Mem → Prop} (hk : 2 ≤ k) (h : ((gi I 74 12) = (-1) → (((gi I 74 8) ≤ 0 → (inL x1 ∧ (((gi I 74 3 = 1 ∧ gl J 74 7 = x1) → ((¬ (gi I 74 8) = 0 → (Q none (mem (P, some 5, some 22) I J))) ∧ ((gi I 74 8) = 0 → (WPm (k - 1) LAY m_X12_ahead [vR (some 74)] (mem (P, some 5, some 22) I J) (retV (fun I3 J4 => Q none (mem (P, some 5, some 22) I3 J4)) (P, some 5, some 22)))))) ∧ (¬ (gi I 74 3 = 1 ∧ gl J 74 7 = x1) → (((gi I 74 8) ≤ 0 → (Q none (mem (P, some 5, some 22) (si (si I 74 8 1) 74 9 (gi I 74 4)) J))) ∧ (¬ (gi I 74 8) ≤ 0 → ((¬ (gi I 74 8) = 0 → (Q none (mem (P, some 5, some 22) I J))) ∧ ((gi I 74 8) = 0 → (WPm (k - 1) LAY m_X12_ahead [vR (some 74)] (mem (P, some 5, some 22) I J) (retV (fun I6 J7 => Q none (mem (P, some 5, some 22) I6 J7)) (P, some 5, some 22))))))))))) ∧ (¬ (gi I 74 8) ≤ 0 → (Q none (mem (P, some 5, some 22) I J))))) ∧ (¬ (gi I 74 12) = (-1) → (((gi I 74 8) ≤ 0 → (Q none (mem (P, some 5, some 22) (si (si I 74 8 1) 74 9 (gi I 74 12)) J))) ∧ (¬ (gi I 74 8) ≤ 0 → (((gi I 74 8) ≤ 0 → (inL x1 ∧ (((gi I 74 3 = 1 ∧ gl J 74 7 = x1) → ((¬ (gi I 74 8) = 0 → (Q none (mem (P, some 5, some 22) I J))) ∧ ((gi I 74 8) = 0 → (WPm (k - 1) LAY m_X12_ahead [vR (some 74)] (mem (P, some 5, some 22) I J) (retV (fun I10 J11 => Q none (mem (P, some 5, some 22) I10 J11)) (P, some 5, some 22)))))) ∧ (¬ (gi I 74 3 = 1 ∧ gl J 74 7 = x1) → (((gi I 74 8) ≤ 0 → (Q none (mem (P, some 5, some 22) (si (si I 74 8 1) 74 9 (gi I 74 4)) J))) ∧ (¬ (gi I 74 8) ≤ 0 → ((¬ (gi I 74 8) = 0 → (Q none (mem (P, some 5, some 22) I J))) ∧ ((gi I 74 8) = 0 → (WPm (k - 1) LAY m_X12_ahead [vR (some 74)] (mem (P, some 5, some 22) I J) (retV (fun I13 J14 => Q none (mem (P, some 5, some 22) I13 J14)) (P, some 5, some 22))))))))))) ∧ (¬ (gi I 74 8) ≤ 0 → (Q none (mem (P, some 5, some 22) I J)))))))) : WP k LAY m_X12_must_ 0 [(0, vR (some 74)), (1, vL x1)] [] (mem (P, some 5, some 22) I J) Q := by
  refine st_aload_n (pc' := 1) dX12_must__0 rfl rfl (j := 0) rfl ?_
  refine st_callV (pc' := 4) (kc := k - 1) (E' := LAY) (cal := m_X12_lex) (n := 0) (as := []) (S := []) dX12_must__1 rfl l_X12_302 k_X12_lex rfl L_74 c_X12 rfl rfl (Nat.le_of_ble_eq_true rfl) (by omega) ⟨Nat.le_refl _, Nat.le_refl _, Nat.le_refl _, Nat.le_refl _⟩ (Q1 := fun r M' => WP k LAY m_X12_must_ 4 [(0, vR (some 74)), (1, vL x1)] (r.toList ++ []) M' Q) (WPm.of k_X12_lex.1 (Nat.le_of_ble_eq_true rfl) (B_X12_lex_0 (by omega) ?_)) (fun r M' q => q)
  refine ⟨fun c => ?_, fun c => ?_⟩
  · replace h := h.1 c
    change WP _ LAY m_X12_must_ 4 [(0, vR (some 74)), (1, vL x1)] [] (mem (P, some 5, some 22) I J) Q
    refine st_aload_n (pc' := 5) dX12_must__4 rfl rfl (j := 0) rfl ?_
    refine G_X12_36_74 dX12_must__5 (pc' := 8) rfl rfl ?_
    refine st_if_le (tg := 12) (pc' := 11) dX12_must__8 (by decide) rfl (gi_in _ _ _) (fun c => ?_) (fun c => ?_)
    · replace h := h.1 c
      refine st_aload_n (pc' := 13) dX12_must__12 rfl rfl (j := 0) rfl ?_
      refine st_lload_n (pc' := 14) dX12_must__13 rfl rfl (j := 1) rfl ?_
      obtain ⟨e1, h⟩ := h
      refine st_callV (pc' := 17) (kc := k - 1) (E' := LAY) (cal := m_X12_isWord) (n := 1) (as := [vL x1]) (S := []) dX12_must__14 rfl l_X12_385 k_X12_isWord rfl L_74 c_X12 rfl rfl (Nat.le_of_ble_eq_true rfl) (by omega) ⟨Nat.le_refl _, Nat.le_refl _, Nat.le_refl _, Nat.le_refl _⟩ (Q1 := fun r M' => WP k LAY m_X12_must_ 17 [(0, vR (some 74)), (1, vL x1)] (r.toList ++ []) M' Q) (S_X12_isWord (by omega) e1 ?_) (fun r M' q => q)
      change WP _ LAY m_X12_must_ 17 [(0, vR (some 74)), (1, vL x1)] [vI (b2i (gi I 74 3 = 1 ∧ gl J 74 7 = x1))] (mem (P, some 5, some 22) I J) Q
      refine st_if_ne (tg := 29) (pc' := 20) dX12_must__17 (by decide) rfl (b2i_in _) (fun c => ?_) (fun c => ?_)
      · replace h := h.1 (b2i_t.mp c)
        refine st_aload_n (pc' := 30) dX12_must__29 rfl rfl (j := 0) rfl ?_
        refine G_X12_36_74 dX12_must__30 (pc' := 33) rfl rfl ?_
        refine st_if_ne (tg := 40) (pc' := 36) dX12_must__33 (by decide) rfl (gi_in _ _ _) (fun c => ?_) (fun c => ?_)
        · replace h := h.1 c
          exact st_vret dX12_must__40 rfl rfl h
        · replace h := h.2 c
          refine st_aload_n (pc' := 37) dX12_must__36 rfl rfl (j := 0) rfl ?_
          refine st_callV (pc' := 40) (kc := k - 1) (E' := LAY) (cal := m_X12_ahead) (n := 0) (as := []) (S := []) dX12_must__37 rfl l_X12_308 k_X12_ahead rfl L_74 c_X12 rfl rfl (Nat.le_of_ble_eq_true rfl) (by omega) ⟨Nat.le_refl _, Nat.le_refl _, Nat.le_refl _, Nat.le_refl _⟩ h (fun r M' q => ?_)
          obtain ⟨I3, J4, rfl, rfl, h⟩ := q
          change WP _ LAY m_X12_must_ 40 [(0, vR (some 74)), (1, vL x1)] [] (mem (P, some 5, some 22) I3 J4) Q
          exact st_vret dX12_must__40 rfl rfl h
      · replace h := h.2 (b2i_f.mp c)
        refine st_aload_n (pc' := 21) dX12_must__20 rfl rfl (j := 0) rfl ?_
        refine st_iconst (pc' := 22) dX12_must__21 rfl ?_
        refine st_aload_n (pc' := 23) dX12_must__22 rfl rfl (j := 0) rfl ?_
        refine G_X12_23_74 dX12_must__23 (pc' := 26) rfl rfl ?_
        refine st_callV (pc' := 29) (kc := k - 1) (E' := LAY) (cal := m_X12_blame) (n := 2) (as := [vI 1, vI (gi I 74 4)]) (S := []) dX12_must__26 rfl l_X12_287 k_X12_blame rfl L_74 c_X12 rfl rfl (Nat.le_of_ble_eq_true rfl) (by omega) ⟨Nat.le_refl _, Nat.le_refl _, Nat.le_refl _, Nat.le_refl _⟩ (Q1 := fun r M' => WP k LAY m_X12_must_ 29 [(0, vR (some 74)), (1, vL x1)] (r.toList ++ []) M' Q) (WPm.of k_X12_blame.1 (Nat.le_of_ble_eq_true rfl) (B_X12_blame_0 (by omega) ?_)) (fun r M' q => q)
        refine ⟨fun c => ?_, fun c => ?_⟩
        · replace h := h.1 c
          change WP _ LAY m_X12_must_ 29 [(0, vR (some 74)), (1, vL x1)] [] (mem (P, some 5, some 22) (si (si I 74 8 1) 74 9 (gi I 74 4)) J) Q
          refine st_aload_n (pc' := 30) dX12_must__29 rfl rfl (j := 0) rfl ?_
          refine G_X12_36_74 dX12_must__30 (pc' := 33) rfl rfl ?_
          rw [show gi (si (si I 74 8 1) 74 9 (gi I 74 4)) 74 8 = 1 from ((gi_idx _ _ _ (by decide)).trans (gi_same _ _ _ (by decide)))]
          refine st_if_ne (tg := 40) (pc' := 36) dX12_must__33 (by decide) rfl (by decide) (fun c => ?_) (fun c => ?_)
          · exact st_vret dX12_must__40 rfl rfl h
          · exact absurd c (by decide)
        · replace h := h.2 c
          change WP _ LAY m_X12_must_ 29 [(0, vR (some 74)), (1, vL x1)] [] (mem (P, some 5, some 22) I J) Q
          refine st_aload_n (pc' := 30) dX12_must__29 rfl rfl (j := 0) rfl ?_
          refine G_X12_36_74 dX12_must__30 (pc' := 33) rfl rfl ?_
          refine st_if_ne (tg := 40) (pc' := 36) dX12_must__33 (by decide) rfl (gi_in _ _ _) (fun c => ?_) (fun c => ?_)
          · replace h := h.1 c
            exact st_vret dX12_must__40 rfl rfl h
          · replace h := h.2 c
            refine st_aload_n (pc' := 37) dX12_must__36 rfl rfl (j := 0) rfl ?_
            refine st_callV (pc' := 40) (kc := k - 1) (E' := LAY) (cal := m_X12_ahead) (n := 0) (as := []) (S := []) dX12_must__37 rfl l_X12_308 k_X12_ahead rfl L_74 c_X12 rfl rfl (Nat.le_of_ble_eq_true rfl) (by omega) ⟨Nat.le_refl _, Nat.le_refl _, Nat.le_refl _, Nat.le_refl _⟩ h (fun r M' q => ?_)
            obtain ⟨I6, J7, rfl, rfl, h⟩ := q
            change WP _ LAY m_X12_must_ 40 [(0, vR (some 74)), (1, vL x1)] [] (mem (P, some 5, some 22) I6 J7) Q
            exact st_vret dX12_must__40 rfl rfl h
    · replace h := h.2 c
      exact st_vret dX12_must__11 rfl rfl h
  · replace h := h.2 c
    refine ⟨fun c => ?_, fun c => ?_⟩
    · replace h := h.1 c
      change WP _ LAY m_X12_must_ 4 [(0, vR (some 74)), (1, vL x1)] [] (mem (P, some 5, some 22) (si (si I 74 8 1) 74 9 (gi I 74 12)) J) Q
      refine st_aload_n (pc' := 5) dX12_must__4 rfl rfl (j := 0) rfl ?_
      refine G_X12_36_74 dX12_must__5 (pc' := 8) rfl rfl ?_
      rw [show gi (si (si I 74 8 1) 74 9 (gi I 74 12)) 74 8 = 1 from ((gi_idx _ _ _ (by decide)).trans (gi_same _ _ _ (by decide)))]
      refine st_if_le (tg := 12) (pc' := 11) dX12_must__8 (by decide) rfl (by decide) (fun c => ?_) (fun c => ?_)
      · exact absurd c (by decide)
      · exact st_vret dX12_must__11 rfl rfl h
    · replace h := h.2 c
      change WP _ LAY m_X12_must_ 4 [(0, vR (some 74)), (1, vL x1)] [] (mem (P, some 5, some 22) I J) Q
      refine st_aload_n (pc' := 5) dX12_must__4 rfl rfl (j := 0) rfl ?_
      refine G_X12_36_74 dX12_must__5 (pc' := 8) rfl rfl ?_
      refine st_if_le (tg := 12) (pc' := 11) dX12_must__8 (by decide) rfl (gi_in _ _ _) (fun c => ?_) (fun c => ?_)
      · replace h := h.1 c
        refine st_aload_n (pc' := 13) dX12_must__12 rfl rfl (j := 0) rfl ?_
        refine st_lload_n (pc' := 14) dX12_must__13 rfl rfl (j := 1) rfl ?_
        obtain ⟨e8, h⟩ := h
        refine st_callV (pc' := 17) (kc := k - 1) (E' := LAY) (cal := m_X12_isWord) (n := 1) (as := [vL x1]) (S := []) dX12_must__14 rfl l_X12_385 k_X12_isWord rfl L_74 c_X12 rfl rfl (Nat.le_of_ble_eq_true rfl) (by omega) ⟨Nat.le_refl _, Nat.le_refl _, Nat.le_refl _, Nat.le_refl _⟩ (Q1 := fun r M' => WP k LAY m_X12_must_ 17 [(0, vR (some 74)), (1, vL x1)] (r.toList ++ []) M' Q) (S_X12_isWord (by omega) e8 ?_) (fun r M' q => q)
        change WP _ LAY m_X12_must_ 17 [(0, vR (some 74)), (1, vL x1)] [vI (b2i (gi I 74 3 = 1 ∧ gl J 74 7 = x1))] (mem (P, some 5, some 22) I J) Q
        refine st_if_ne (tg := 29) (pc' := 20) dX12_must__17 (by decide) rfl (b2i_in _) (fun c => ?_) (fun c => ?_)
        · replace h := h.1 (b2i_t.mp c)
          refine st_aload_n (pc' := 30) dX12_must__29 rfl rfl (j := 0) rfl ?_
          refine G_X12_36_74 dX12_must__30 (pc' := 33) rfl rfl ?_
          refine st_if_ne (tg := 40) (pc' := 36) dX12_must__33 (by decide) rfl (gi_in _ _ _) (fun c => ?_) (fun c => ?_)
          · replace h := h.1 c
            exact st_vret dX12_must__40 rfl rfl h
          · replace h := h.2 c
            refine st_aload_n (pc' := 37) dX12_must__36 rfl rfl (j := 0) rfl ?_
            refine st_callV (pc' := 40) (kc := k - 1) (E' := LAY) (cal := m_X12_ahead) (n := 0) (as := []) (S := []) dX12_must__37 rfl l_X12_308 k_X12_ahead rfl L_74 c_X12 rfl rfl (Nat.le_of_ble_eq_true rfl) (by omega) ⟨Nat.le_refl _, Nat.le_refl _, Nat.le_refl _, Nat.le_refl _⟩ h (fun r M' q => ?_)
            obtain ⟨I10, J11, rfl, rfl, h⟩ := q
            change WP _ LAY m_X12_must_ 40 [(0, vR (some 74)), (1, vL x1)] [] (mem (P, some 5, some 22) I10 J11) Q
            exact st_vret dX12_must__40 rfl rfl h
        · replace h := h.2 (b2i_f.mp c)
          refine st_aload_n (pc' := 21) dX12_must__20 rfl rfl (j := 0) rfl ?_
          refine st_iconst (pc' := 22) dX12_must__21 rfl ?_
          refine st_aload_n (pc' := 23) dX12_must__22 rfl rfl (j := 0) rfl ?_
          refine G_X12_23_74 dX12_must__23 (pc' := 26) rfl rfl ?_
          refine st_callV (pc' := 29) (kc := k - 1) (E' := LAY) (cal := m_X12_blame) (n := 2) (as := [vI 1, vI (gi I 74 4)]) (S := []) dX12_must__26 rfl l_X12_287 k_X12_blame rfl L_74 c_X12 rfl rfl (Nat.le_of_ble_eq_true rfl) (by omega) ⟨Nat.le_refl _, Nat.le_refl _, Nat.le_refl _, Nat.le_refl _⟩ (Q1 := fun r M' => WP k LAY m_X12_must_ 29 [(0, vR (some 74)), (1, vL x1)] (r.toList ++ []) M' Q) (WPm.of k_X12_blame.1 (Nat.le_of_ble_eq_true rfl) (B_X12_blame_0 (by omega) ?_)) (fun r M' q => q)
          refine ⟨fun c => ?_, fun c => ?_⟩
          · replace h := h.1 c
            change WP _ LAY m_X12_must_ 29 [(0, vR (some 74)), (1, vL x1)] [] (mem (P, some 5, some 22) (si (si I 74 8 1) 74 9 (gi I 74 4)) J) Q
            refine st_aload_n (pc' := 30) dX12_must__29 rfl rfl (j := 0) rfl ?_
            refine G_X12_36_74 dX12_must__30 (pc' := 33) rfl rfl ?_
            rw [show gi (si (si I 74 8 1) 74 9 (gi I 74 4)) 74 8 = 1 from ((gi_idx _ _ _ (by decide)).trans (gi_same _ _ _ (by decide)))]
            refine st_if_ne (tg := 40) (pc' := 36) dX12_must__33 (by decide) rfl (by decide) (fun c => ?_) (fun c => ?_)
            · exact st_vret dX12_must__40 rfl rfl h
            · exact absurd c (by decide)
          · replace h := h.2 c
            change WP _ LAY m_X12_must_ 29 [(0, vR (some 74)), (1, vL x1)] [] (mem (P, some 5, some 22) I J) Q
            refine st_aload_n (pc' := 30) dX12_must__29 rfl rfl (j := 0) rfl ?_
            refine G_X12_36_74 dX12_must__30 (pc' := 33) rfl rfl ?_
            refine st_if_ne (tg := 40) (pc' := 36) dX12_must__33 (by decide) rfl (gi_in _ _ _) (fun c => ?_) (fun c => ?_)
            · replace h := h.1 c
              exact st_vret dX12_must__40 rfl rfl h
            · replace h := h.2 c
              refine st_aload_n (pc' := 37) dX12_must__36 rfl rfl (j := 0) rfl ?_
              refine st_callV (pc' := 40) (kc := k - 1) (E' := LAY) (cal := m_X12_ahead) (n := 0) (as := []) (S := []) dX12_must__37 rfl l_X12_308 k_X12_ahead rfl L_74 c_X12 rfl rfl (Nat.le_of_ble_eq_true rfl) (by omega) ⟨Nat.le_refl _, Nat.le_refl _, Nat.le_refl _, Nat.le_refl _⟩ h (fun r M' q => ?_)
              obtain ⟨I13, J14, rfl, rfl, h⟩ := q
              change WP _ LAY m_X12_must_ 40 [(0, vR (some 74)), (1, vL x1)] [] (mem (P, some 5, some 22) I13 J14) Q
              exact st_vret dX12_must__40 rfl rfl h
      · replace h := h.2 c
        exact st_vret dX12_must__11 rfl rfl h
set_option maxRecDepth 20000 in
set_option maxHeartbeats 4000000 in
theorem B_X12_paging_0 {k : Nat} {P : Option Nat} {I : Nat → Nat → Int32} {J : Nat → Nat → Int64}  {Q : Option AV → Mem → Prop} (hk : 2 ≤ k) (h : (0 ≤ (gi I 74 40) ∧ (gi I 74 40) < 2) ∧ ((¬ (gi I 77 (gi I 74 40).toNat) = 14 → (WPm (k - 1) LAY m_X12_counts [vR (some 74), vI 0] (mem (P, some 5, some 22) I J) (retI (fun v2 I3 J4 => inR v2 ∧ ((¬ v2 = 0 → ((0 ≤ (gi I3 74 40) ∧ (gi I3 74 40) < 2) ∧ (WPm (k - 1) LAY m_X12_fresh [vR (some 74)] (mem (P, some 5, some 22) I3 J4) (retL (fun v7 I8 J9 => (0 ≤ ((14 * (gi I3 74 40)) + (gi I3 77 (gi I3 74 40).toNat)) ∧ ((14 * (gi I3 74 40)) + (gi I3 77 (gi I3 74 40).toNat)) < 28) ∧ (WPm (k - 1) LAY m_X12_must_ [vR (some 74), vL 28518] (mem (P, some 5, some 22) I8 (sl J9 98 (((14 * (gi I3 74 40)) + (gi I3 77 (gi I3 74 40).toNat)) : Int).toNat v7)) (retV (fun I12 J13 => WPm (k - 1) LAY m_X12_asked [vR (some 74), vI 0] (mem (P, some 5, some 22) I12 J13) (retI (fun v14 I15 J16 => WPm (k - 1) LAY m_X12_must_ [vR (some 74), vL 465625310579] (mem (P, some 5, some 22) (si I15 78 (((14 * (gi I3 74 40)) + (gi I3 77 (gi I3 74 40).toNat)) : Int).toNat v14) J16) (retV (fun I18 J19 => WPm (k - 1) LAY m_X12_number [vR (some 74), vI 1, vI 99] (mem (P, some 5, some 22) I18 J19) (retI (fun v20 I21 J22 => ((gi (si (si (si I21 79 (((14 * (gi I3 74 40)) + (gi I3 77 (gi I3 74 40).toNat)) : Int).toNat v20) 80 (((14 * (gi I3 74 40)) + (gi I3 77 (gi I3 74 40).toNat)) : Int).toNat 0) 81 (((14 * (gi I3 74 40)) + (gi I3 77 (gi I3 74 40).toNat)) : Int).toNat 0) 74 12) = (-1) → (((gi I21 74 8) ≤ 0 → ((¬ (gi (si (si (si I21 79 (((14 * (gi I3 74 40)) + (gi I3 77 (gi I3 74 40).toNat)) : Int).toNat v20) 80 (((14 * (gi I3 74 40)) + (gi I3 77 (gi I3 74 40).toNat)) : Int).toNat 0) 81 (((14 * (gi I3 74 40)) + (gi I3 77 (gi I3 74 40).toNat)) : Int).toNat 0) 74 3 = 1 ∧ gl J22 74 7 = 6449511) → ((0 ≤ (gi I21 74 40) ∧ (gi I21 74 40) < 2) ∧ (Q none (mem (P, some 5, some 22) (si (si (si (si I21 79 (((14 * (gi I3 74 40)) + (gi I3 77 (gi I3 74 40).toNat)) : Int).toNat v20) 80 (((14 * (gi I3 74 40)) + (gi I3 77 (gi I3 74 40).toNat)) : Int).toNat 0) 81 (((14 * (gi I3 74 40)) + (gi I3 77 (gi I3 74 40).toNat)) : Int).toNat 0) 77 (gi I21 74 40).toNat ((gi I21 77 (gi I21 74 40).toNat) + 1)) J22)))) ∧ ((gi (si (si (si I21 79 (((14 * (gi I3 74 40)) + (gi I3 77 (gi I3 74 40).toNat)) : Int).toNat v20) 80 (((14 * (gi I3 74 40)) + (gi I3 77 (gi I3 74 40).toNat)) : Int).toNat 0) 81 (((14 * (gi I3 74 40)) + (gi I3 77 (gi I3 74 40).toNat)) : Int).toNat 0) 74 3 = 1 ∧ gl J22 74 7 = 6449511) → (WPm (k - 1) LAY m_X12_ahead [vR (some 74)] (mem (P, some 5, some 22) (si (si (si (si I21 79 (((14 * (gi I3 74 40)) + (gi I3 77 (gi I3 74 40).toNat)) : Int).toNat v20) 80 (((14 * (gi I3 74 40)) + (gi I3 77 (gi I3 74 40).toNat)) : Int).toNat 0) 81 (((14 * (gi I3 74 40)) + (gi I3 77 (gi I3 74 40).toNat)) : Int).toNat 0) 80 (((14 * (gi I3 74 40)) + (gi I3 77 (gi I3 74 40).toNat)) : Int).toNat 1) J22) (retV (fun I25 J26 => (0 ≤ (gi I25 74 40) ∧ (gi I25 74 40) < 2) ∧ (Q none (mem (P, some 5, some 22) (si I25 77 (gi I25 74 40).toNat ((gi I25 77 (gi I25 74 40).toNat) + 1)) J26))) (P, some 5, some 22)))))) ∧ (¬ (gi I21 74 8) ≤ 0 → (Q none (mem (P, some 5, some 22) (si (si (si I21 79 (((14 * (gi I3 74 40)) + (gi I3 77 (gi I3 74 40).toNat)) : Int).toNat v20) 80 (((14 * (gi I3 74 40)) + (gi I3 77 (gi I3 74 40).toNat)) : Int).toNat 0) 81 (((14 * (gi I3 74 40)) + (gi I3 77 (gi I3 74 40).toNat)) : Int).toNat 0) J22))))) ∧ (¬ (gi (si (si (si I21 79 (((14 * (gi I3 74 40)) + (gi I3 77 (gi I3 74 40).toNat)) : Int).toNat v20) 80 (((14 * (gi I3 74 40)) + (gi I3 77 (gi I3 74 40).toNat)) : Int).toNat 0) 81 (((14 * (gi I3 74 40)) + (gi I3 77 (gi I3 74 40).toNat)) : Int).toNat 0) 74 12) = (-1) → (((gi (si (si (si I21 79 (((14 * (gi I3 74 40)) + (gi I3 77 (gi I3 74 40).toNat)) : Int).toNat v20) 80 (((14 * (gi I3 74 40)) + (gi I3 77 (gi I3 74 40).toNat)) : Int).toNat 0) 81 (((14 * (gi I3 74 40)) + (gi I3 77 (gi I3 74 40).toNat)) : Int).toNat 0) 74 8) ≤ 0 → (Q none (mem (P, some 5, some 22) (si (si (si (si (si I21 79 (((14 * (gi I3 74 40)) + (gi I3 77 (gi I3 74 40).toNat)) : Int).toNat v20) 80 (((14 * (gi I3 74 40)) + (gi I3 77 (gi I3 74 40).toNat)) : Int).toNat 0) 81 (((14 * (gi I3 74 40)) + (gi I3 77 (gi I3 74 40).toNat)) : Int).toNat 0) 74 8 1) 74 9 (gi (si (si (si I21 79 (((14 * (gi I3 74 40)) + (gi I3 77 (gi I3 74 40).toNat)) : Int).toNat v20) 80 (((14 * (gi I3 74 40)) + (gi I3 77 (gi I3 74 40).toNat)) : Int).toNat 0) 81 (((14 * (gi I3 74 40)) + (gi I3 77 (gi I3 74 40).toNat)) : Int).toNat 0) 74 12)) J22))) ∧ (¬ (gi (si (si (si I21 79 (((14 * (gi I3 74 40)) + (gi I3 77 (gi I3 74 40).toNat)) : Int).toNat v20) 80 (((14 * (gi I3 74 40)) + (gi I3 77 (gi I3 74 40).toNat)) : Int).toNat 0) 81 (((14 * (gi I3 74 40)) + (gi I3 77 (gi I3 74 40).toNat)) : Int).toNat 0) 74 8) ≤ 0 → (((gi I21 74 8) ≤ 0 → ((¬ (gi (si (si (si I21 79 (((14 * (gi I3 74 40)) + (gi I3 77 (gi I3 74 40).toNat)) : Int).toNat v20) 80 (((14 * (gi I3 74 40)) + (gi I3 77 (gi I3 74 40).toNat)) : Int).toNat 0) 81 (((14 * (gi I3 74 40)) + (gi I3 77 (gi I3 74 40).toNat)) : Int).toNat 0) 74 3 = 1 ∧ gl J22 74 7 = 6449511) → ((0 ≤ (gi I21 74 40) ∧ (gi I21 74 40) < 2) ∧ (Q none (mem (P, some 5, some 22) (si (si (si (si I21 79 (((14 * (gi I3 74 40)) + (gi I3 77 (gi I3 74 40).toNat)) : Int).toNat v20) 80 (((14 * (gi I3 74 40)) + (gi I3 77 (gi I3 74 40).toNat)) : Int).toNat 0) 81 (((14 * (gi I3 74 40)) + (gi I3 77 (gi I3 74 40).toNat)) : Int).toNat 0) 77 (gi I21 74 40).toNat ((gi I21 77 (gi I21 74 40).toNat) + 1)) J22)))) ∧ ((gi (si (si (si I21 79 (((14 * (gi I3 74 40)) + (gi I3 77 (gi I3 74 40).toNat)) : Int).toNat v20) 80 (((14 * (gi I3 74 40)) + (gi I3 77 (gi I3 74 40).toNat)) : Int).toNat 0) 81 (((14 * (gi I3 74 40)) + (gi I3 77 (gi I3 74 40).toNat)) : Int).toNat 0) 74 3 = 1 ∧ gl J22 74 7 = 6449511) → (WPm (k - 1) LAY m_X12_ahead [vR (some 74)] (mem (P, some 5, some 22) (si (si (si (si I21 79 (((14 * (gi I3 74 40)) + (gi I3 77 (gi I3 74 40).toNat)) : Int).toNat v20) 80 (((14 * (gi I3 74 40)) + (gi I3 77 (gi I3 74 40).toNat)) : Int).toNat 0) 81 (((14 * (gi I3 74 40)) + (gi I3 77 (gi I3 74 40).toNat)) : Int).toNat 0) 80 (((14 * (gi I3 74 40)) + (gi I3 77 (gi I3 74 40).toNat)) : Int).toNat 1) J22) (retV (fun I30 J31 => (0 ≤ (gi I30 74 40) ∧ (gi I30 74 40) < 2) ∧ (Q none (mem (P, some 5, some 22) (si I30 77 (gi I30 74 40).toNat ((gi I30 77 (gi I30 74 40).toNat) + 1)) J31))) (P, some 5, some 22)))))) ∧ (¬ (gi I21 74 8) ≤ 0 → (Q none (mem (P, some 5, some 22) (si (si (si I21 79 (((14 * (gi I3 74 40)) + (gi I3 77 (gi I3 74 40).toNat)) : Int).toNat v20) 80 (((14 * (gi I3 74 40)) + (gi I3 77 (gi I3 74 40).toNat)) : Int).toNat 0) 81 (((14 * (gi I3 74 40)) + (gi I3 77 (gi I3 74 40).toNat)) : Int).toNat 0) J22)))))))) (P, some 5, some 22))) (P, some 5, some 22))) (P, some 5, some 22))) (P, some 5, some 22)))) (P, some 5, some 22))))) ∧ (v2 = 0 → (Q none (mem (P, some 5, some 22) I3 J4))))) (P, some 5, some 22)))) ∧ ((gi I 77 (gi I 74 40).toNat) = 14 → (WPm (k - 1) LAY m_X12_counts [vR (some 74), vI 1] (mem (P, some 5, some 22) I J) (retI (fun v33 I34 J35 => inR v33 ∧ ((¬ v33 = 0 → ((0 ≤ (gi I34 74 40) ∧ (gi I34 74 40) < 2) ∧ (WPm (k - 1) LAY m_X12_fresh [vR (some 74)] (mem (P, some 5, some 22) I34 J35) (retL (fun v38 I39 J40 => (0 ≤ ((14 * (gi I34 74 40)) + (gi I34 77 (gi I34 74 40).toNat)) ∧ ((14 * (gi I34 74 40)) + (gi I34 77 (gi I34 74 40).toNat)) < 28) ∧ (WPm (k - 1) LAY m_X12_must_ [vR (some 74), vL 28518] (mem (P, some 5, some 22) I39 (sl J40 98 (((14 * (gi I34 74 40)) + (gi I34 77 (gi I34 74 40).toNat)) : Int).toNat v38)) (retV (fun I43 J44 => WPm (k - 1) LAY m_X12_asked [vR (some 74), vI 0] (mem (P, some 5, some 22) I43 J44) (retI (fun v45 I46 J47 => WPm (k - 1) LAY m_X12_must_ [vR (some 74), vL 465625310579] (mem (P, some 5, some 22) (si I46 78 (((14 * (gi I34 74 40)) + (gi I34 77 (gi I34 74 40).toNat)) : Int).toNat v45) J47) (retV (fun I49 J50 => WPm (k - 1) LAY m_X12_number [vR (some 74), vI 1, vI 99] (mem (P, some 5, some 22) I49 J50) (retI (fun v51 I52 J53 => ((gi (si (si (si I52 79 (((14 * (gi I34 74 40)) + (gi I34 77 (gi I34 74 40).toNat)) : Int).toNat v51) 80 (((14 * (gi I34 74 40)) + (gi I34 77 (gi I34 74 40).toNat)) : Int).toNat 0) 81 (((14 * (gi I34 74 40)) + (gi I34 77 (gi I34 74 40).toNat)) : Int).toNat 0) 74 12) = (-1) → (((gi I52 74 8) ≤ 0 → ((¬ (gi (si (si (si I52 79 (((14 * (gi I34 74 40)) + (gi I34 77 (gi I34 74 40).toNat)) : Int).toNat v51) 80 (((14 * (gi I34 74 40)) + (gi I34 77 (gi I34 74 40).toNat)) : Int).toNat 0) 81 (((14 * (gi I34 74 40)) + (gi I34 77 (gi I34 74 40).toNat)) : Int).toNat 0) 74 3 = 1 ∧ gl J53 74 7 = 6449511) → ((0 ≤ (gi I52 74 40) ∧ (gi I52 74 40) < 2) ∧ (Q none (mem (P, some 5, some 22) (si (si (si (si I52 79 (((14 * (gi I34 74 40)) + (gi I34 77 (gi I34 74 40).toNat)) : Int).toNat v51) 80 (((14 * (gi I34 74 40)) + (gi I34 77 (gi I34 74 40).toNat)) : Int).toNat 0) 81 (((14 * (gi I34 74 40)) + (gi I34 77 (gi I34 74 40).toNat)) : Int).toNat 0) 77 (gi I52 74 40).toNat ((gi I52 77 (gi I52 74 40).toNat) + 1)) J53)))) ∧ ((gi (si (si (si I52 79 (((14 * (gi I34 74 40)) + (gi I34 77 (gi I34 74 40).toNat)) : Int).toNat v51) 80 (((14 * (gi I34 74 40)) + (gi I34 77 (gi I34 74 40).toNat)) : Int).toNat 0) 81 (((14 * (gi I34 74 40)) + (gi I34 77 (gi I34 74 40).toNat)) : Int).toNat 0) 74 3 = 1 ∧ gl J53 74 7 = 6449511) → (WPm (k - 1) LAY m_X12_ahead [vR (some 74)] (mem (P, some 5, some 22) (si (si (si (si I52 79 (((14 * (gi I34 74 40)) + (gi I34 77 (gi I34 74 40).toNat)) : Int).toNat v51) 80 (((14 * (gi I34 74 40)) + (gi I34 77 (gi I34 74 40).toNat)) : Int).toNat 0) 81 (((14 * (gi I34 74 40)) + (gi I34 77 (gi I34 74 40).toNat)) : Int).toNat 0) 80 (((14 * (gi I34 74 40)) + (gi I34 77 (gi I34 74 40).toNat)) : Int).toNat 1) J53) (retV (fun I56 J57 => (0 ≤ (gi I56 74 40) ∧ (gi I56 74 40) < 2) ∧ (Q none (mem (P, some 5, some 22) (si I56 77 (gi I56 74 40).toNat ((gi I56 77 (gi I56 74 40).toNat) + 1)) J57))) (P, some 5, some 22)))))) ∧ (¬ (gi I52 74 8) ≤ 0 → (Q none (mem (P, some 5, some 22) (si (si (si I52 79 (((14 * (gi I34 74 40)) + (gi I34 77 (gi I34 74 40).toNat)) : Int).toNat v51) 80 (((14 * (gi I34 74 40)) + (gi I34 77 (gi I34 74 40).toNat)) : Int).toNat 0) 81 (((14 * (gi I34 74 40)) + (gi I34 77 (gi I34 74 40).toNat)) : Int).toNat 0) J53))))) ∧ (¬ (gi (si (si (si I52 79 (((14 * (gi I34 74 40)) + (gi I34 77 (gi I34 74 40).toNat)) : Int).toNat v51) 80 (((14 * (gi I34 74 40)) + (gi I34 77 (gi I34 74 40).toNat)) : Int).toNat 0) 81 (((14 * (gi I34 74 40)) + (gi I34 77 (gi I34 74 40).toNat)) : Int).toNat 0) 74 12) = (-1) → (((gi (si (si (si I52 79 (((14 * (gi I34 74 40)) + (gi I34 77 (gi I34 74 40).toNat)) : Int).toNat v51) 80 (((14 * (gi I34 74 40)) + (gi I34 77 (gi I34 74 40).toNat)) : Int).toNat 0) 81 (((14 * (gi I34 74 40)) + (gi I34 77 (gi I34 74 40).toNat)) : Int).toNat 0) 74 8) ≤ 0 → (Q none (mem (P, some 5, some 22) (si (si (si (si (si I52 79 (((14 * (gi I34 74 40)) + (gi I34 77 (gi I34 74 40).toNat)) : Int).toNat v51) 80 (((14 * (gi I34 74 40)) + (gi I34 77 (gi I34 74 40).toNat)) : Int).toNat 0) 81 (((14 * (gi I34 74 40)) + (gi I34 77 (gi I34 74 40).toNat)) : Int).toNat 0) 74 8 1) 74 9 (gi (si (si (si I52 79 (((14 * (gi I34 74 40)) + (gi I34 77 (gi I34 74 40).toNat)) : Int).toNat v51) 80 (((14 * (gi I34 74 40)) + (gi I34 77 (gi I34 74 40).toNat)) : Int).toNat 0) 81 (((14 * (gi I34 74 40)) + (gi I34 77 (gi I34 74 40).toNat)) : Int).toNat 0) 74 12)) J53))) ∧ (¬ (gi (si (si (si I52 79 (((14 * (gi I34 74 40)) + (gi I34 77 (gi I34 74 40).toNat)) : Int).toNat v51) 80 (((14 * (gi I34 74 40)) + (gi I34 77 (gi I34 74 40).toNat)) : Int).toNat 0) 81 (((14 * (gi I34 74 40)) + (gi I34 77 (gi I34 74 40).toNat)) : Int).toNat 0) 74 8) ≤ 0 → (((gi I52 74 8) ≤ 0 → ((¬ (gi (si (si (si I52 79 (((14 * (gi I34 74 40)) + (gi I34 77 (gi I34 74 40).toNat)) : Int).toNat v51) 80 (((14 * (gi I34 74 40)) + (gi I34 77 (gi I34 74 40).toNat)) : Int).toNat 0) 81 (((14 * (gi I34 74 40)) + (gi I34 77 (gi I34 74 40).toNat)) : Int).toNat 0) 74 3 = 1 ∧ gl J53 74 7 = 6449511) → ((0 ≤ (gi I52 74 40) ∧ (gi I52 74 40) < 2) ∧ (Q none (mem (P, some 5, some 22) (si (si (si (si I52 79 (((14 * (gi I34 74 40)) + (gi I34 77 (gi I34 74 40).toNat)) : Int).toNat v51) 80 (((14 * (gi I34 74 40)) + (gi I34 77 (gi I34 74 40).toNat)) : Int).toNat 0) 81 (((14 * (gi I34 74 40)) + (gi I34 77 (gi I34 74 40).toNat)) : Int).toNat 0) 77 (gi I52 74 40).toNat ((gi I52 77 (gi I52 74 40).toNat) + 1)) J53)))) ∧ ((gi (si (si (si I52 79 (((14 * (gi I34 74 40)) + (gi I34 77 (gi I34 74 40).toNat)) : Int).toNat v51) 80 (((14 * (gi I34 74 40)) + (gi I34 77 (gi I34 74 40).toNat)) : Int).toNat 0) 81 (((14 * (gi I34 74 40)) + (gi I34 77 (gi I34 74 40).toNat)) : Int).toNat 0) 74 3 = 1 ∧ gl J53 74 7 = 6449511) → (WPm (k - 1) LAY m_X12_ahead [vR (some 74)] (mem (P, some 5, some 22) (si (si (si (si I52 79 (((14 * (gi I34 74 40)) + (gi I34 77 (gi I34 74 40).toNat)) : Int).toNat v51) 80 (((14 * (gi I34 74 40)) + (gi I34 77 (gi I34 74 40).toNat)) : Int).toNat 0) 81 (((14 * (gi I34 74 40)) + (gi I34 77 (gi I34 74 40).toNat)) : Int).toNat 0) 80 (((14 * (gi I34 74 40)) + (gi I34 77 (gi I34 74 40).toNat)) : Int).toNat 1) J53) (retV (fun I61 J62 => (0 ≤ (gi I61 74 40) ∧ (gi I61 74 40) < 2) ∧ (Q none (mem (P, some 5, some 22) (si I61 77 (gi I61 74 40).toNat ((gi I61 77 (gi I61 74 40).toNat) + 1)) J62))) (P, some 5, some 22)))))) ∧ (¬ (gi I52 74 8) ≤ 0 → (Q none (mem (P, some 5, some 22) (si (si (si I52 79 (((14 * (gi I34 74 40)) + (gi I34 77 (gi I34 74 40).toNat)) : Int).toNat v51) 80 (((14 * (gi I34 74 40)) + (gi I34 77 (gi I34 74 40).toNat)) : Int).toNat 0) 81 (((14 * (gi I34 74 40)) + (gi I34 77 (gi I34 74 40).toNat)) : Int).toNat 0) J53)))))))) (P, some 5, some 22))) (P, some 5, some 22))) (P, some 5, some 22))) (P, some 5, some 22)))) (P, some 5, some 22))))) ∧ (v33 = 0 → (Q none (mem (P, some 5, some 22) I34 J35))))) (P, some 5, some 22)))))) : WP k LAY m_X12_paging 0 [(0, vR (some 74))] [] (mem (P, some 5, some 22) I J) Q := by
  refine st_aload_n (pc' := 1) dX12_paging_0 rfl rfl (j := 0) rfl ?_
  refine st_aload_n (pc' := 2) dX12_paging_1 rfl rfl (j := 0) rfl ?_
  refine G_X12_57_74 dX12_paging_2 (pc' := 5) rfl rfl ?_
  refine st_aload_n (pc' := 6) dX12_paging_5 rfl rfl (j := 0) rfl ?_
  refine G_X12_133_74 dX12_paging_6 (pc' := 9) rfl rfl ?_
  obtain ⟨e1, h⟩ := h
  refine st_iaload (pc' := 10) (v := (gi I 77 (gi I 74 40).toNat)) dX12_paging_9 rfl L_77 (by decide) e1 (show gi I 77 (gi I 74 40).toNat = (gi I 77 (gi I 74 40).toNat) from rfl) ?_
  refine st_bipush (pc' := 12) dX12_paging_10 rfl (by decide) ?_
  refine st_icmp_ne (tg := 19) (pc' := 15) dX12_paging_12 (by decide) rfl (gi_in _ _ _) (by decide) (fun c => ?_) (fun c => ?_)
  · replace h := h.1 c
    refine st_iconst (pc' := 20) dX12_paging_19 rfl ?_
    refine st_callV (pc' := 23) (kc := k - 1) (E' := LAY) (cal := m_X12_counts) (n := 1) (as := [vI 0]) (S := []) dX12_paging_20 rfl l_X12_410 k_X12_counts rfl L_74 c_X12 rfl rfl (Nat.le_of_ble_eq_true rfl) (by omega) ⟨Nat.le_refl _, Nat.le_refl _, Nat.le_refl _, Nat.le_refl _⟩ h (fun r M' q => ?_)
    obtain ⟨v2, I3, J4, rfl, rfl, h⟩ := q
    change WP _ LAY m_X12_paging 23 [(0, vR (some 74))] [vI v2] (mem (P, some 5, some 22) I3 J4) Q
    obtain ⟨e5, h⟩ := h
    refine st_if_ne (tg := 27) (pc' := 26) dX12_paging_23 (by decide) rfl e5 (fun c => ?_) (fun c => ?_)
    · replace h := h.1 c
      refine st_bipush (pc' := 29) dX12_paging_27 rfl (by decide) ?_
      refine st_aload_n (pc' := 30) dX12_paging_29 rfl rfl (j := 0) rfl ?_
      refine G_X12_133_74 dX12_paging_30 (pc' := 33) rfl rfl ?_
      refine st_imul (pc' := 34) dX12_paging_33 rfl ?_
      refine st_aload_n (pc' := 35) dX12_paging_34 rfl rfl (j := 0) rfl ?_
      refine G_X12_57_74 dX12_paging_35 (pc' := 38) rfl rfl ?_
      refine st_aload_n (pc' := 39) dX12_paging_38 rfl rfl (j := 0) rfl ?_
      refine G_X12_133_74 dX12_paging_39 (pc' := 42) rfl rfl ?_
      obtain ⟨e6, h⟩ := h
      refine st_iaload (pc' := 43) (v := (gi I3 77 (gi I3 74 40).toNat)) dX12_paging_42 rfl L_77 (by decide) e6 (show gi I3 77 (gi I3 74 40).toNat = (gi I3 77 (gi I3 74 40).toNat) from rfl) ?_
      refine st_iadd (pc' := 44) dX12_paging_43 rfl ?_
      refine st_istore_n (pc' := 45) (L' := [(1, vI ((14 * (gi I3 74 40)) + (gi I3 77 (gi I3 74 40).toNat))), (0, vR (some 74))]) dX12_paging_44 rfl rfl (by decide) rfl ?_
      refine st_aload_n (pc' := 46) dX12_paging_45 rfl rfl (j := 1) rfl ?_
      refine G_X12_121_74 dX12_paging_46 (pc' := 49) rfl rfl ?_
      refine st_iload_n (pc' := 50) dX12_paging_49 rfl rfl (j := 0) rfl ?_
      refine st_aload_n (pc' := 51) dX12_paging_50 rfl rfl (j := 1) rfl ?_
      refine st_callV (pc' := 54) (kc := k - 1) (E' := LAY) (cal := m_X12_fresh) (n := 0) (as := []) (S := [vI ((14 * (gi I3 74 40)) + (gi I3 77 (gi I3 74 40).toNat)), vR (some 98)]) dX12_paging_51 rfl l_X12_414 k_X12_fresh rfl L_74 c_X12 rfl rfl (Nat.le_of_ble_eq_true rfl) (by omega) ⟨Nat.le_refl _, Nat.le_refl _, Nat.le_refl _, Nat.le_refl _⟩ h (fun r M' q => ?_)
      obtain ⟨v7, I8, J9, rfl, rfl, h⟩ := q
      change WP _ LAY m_X12_paging 54 [(1, vI ((14 * (gi I3 74 40)) + (gi I3 77 (gi I3 74 40).toNat))), (0, vR (some 74))] [vL v7, vI ((14 * (gi I3 74 40)) + (gi I3 77 (gi I3 74 40).toNat)), vR (some 98)] (mem (P, some 5, some 22) I8 J9) Q
      obtain ⟨e10, h⟩ := h
      refine st_lastore (pc' := 55) (M' := (mem (P, some 5, some 22) I8 (sl J9 98 (((14 * (gi I3 74 40)) + (gi I3 77 (gi I3 74 40).toNat)) : Int).toNat v7))) dX12_paging_54 rfl L_98 (by decide) e10 rfl ?_
      refine st_aload_n (pc' := 56) dX12_paging_55 rfl rfl (j := 1) rfl ?_
      refine st_ldc2 (pc' := 59) (z := 28518) dX12_paging_56 rfl q_X12_315 (by decide) ?_
      refine st_callV (pc' := 62) (kc := k - 1) (E' := LAY) (cal := m_X12_must_) (n := 1) (as := [vL 28518]) (S := []) dX12_paging_59 rfl l_X12_418 k_X12_must_ rfl L_74 c_X12 rfl rfl (Nat.le_of_ble_eq_true rfl) (by omega) ⟨Nat.le_refl _, Nat.le_refl _, Nat.le_refl _, Nat.le_refl _⟩ h (fun r M' q => ?_)
      obtain ⟨I12, J13, rfl, rfl, h⟩ := q
      change WP _ LAY m_X12_paging 62 [(1, vI ((14 * (gi I3 74 40)) + (gi I3 77 (gi I3 74 40).toNat))), (0, vR (some 74))] [] (mem (P, some 5, some 22) I12 J13) Q
      refine st_aload_n (pc' := 63) dX12_paging_62 rfl rfl (j := 1) rfl ?_
      refine G_X12_60_74 dX12_paging_63 (pc' := 66) rfl rfl ?_
      refine st_iload_n (pc' := 67) dX12_paging_66 rfl rfl (j := 0) rfl ?_
      refine st_aload_n (pc' := 68) dX12_paging_67 rfl rfl (j := 1) rfl ?_
      refine st_iconst (pc' := 69) dX12_paging_68 rfl ?_
      refine st_callV (pc' := 72) (kc := k - 1) (E' := LAY) (cal := m_X12_asked) (n := 1) (as := [vI 0]) (S := [vI ((14 * (gi I3 74 40)) + (gi I3 77 (gi I3 74 40).toNat)), vR (some 78)]) dX12_paging_69 rfl l_X12_422 k_X12_asked rfl L_74 c_X12 rfl rfl (Nat.le_of_ble_eq_true rfl) (by omega) ⟨Nat.le_refl _, Nat.le_refl _, Nat.le_refl _, Nat.le_refl _⟩ h (fun r M' q => ?_)
      obtain ⟨v14, I15, J16, rfl, rfl, h⟩ := q
      change WP _ LAY m_X12_paging 72 [(1, vI ((14 * (gi I3 74 40)) + (gi I3 77 (gi I3 74 40).toNat))), (0, vR (some 74))] [vI v14, vI ((14 * (gi I3 74 40)) + (gi I3 77 (gi I3 74 40).toNat)), vR (some 78)] (mem (P, some 5, some 22) I15 J16) Q
      refine st_iastore (pc' := 73) (M' := (mem (P, some 5, some 22) (si I15 78 (((14 * (gi I3 74 40)) + (gi I3 77 (gi I3 74 40).toNat)) : Int).toNat v14) J16)) dX12_paging_72 rfl L_78 (by decide) e10 rfl ?_
      refine st_aload_n (pc' := 74) dX12_paging_73 rfl rfl (j := 1) rfl ?_
      refine st_ldc2 (pc' := 77) (z := 465625310579) dX12_paging_74 rfl q_X12_317 (by decide) ?_
      refine st_callV (pc' := 80) (kc := k - 1) (E' := LAY) (cal := m_X12_must_) (n := 1) (as := [vL 465625310579]) (S := []) dX12_paging_77 rfl l_X12_418 k_X12_must_ rfl L_74 c_X12 rfl rfl (Nat.le_of_ble_eq_true rfl) (by omega) ⟨Nat.le_refl _, Nat.le_refl _, Nat.le_refl _, Nat.le_refl _⟩ h (fun r M' q => ?_)
      obtain ⟨I18, J19, rfl, rfl, h⟩ := q
      change WP _ LAY m_X12_paging 80 [(1, vI ((14 * (gi I3 74 40)) + (gi I3 77 (gi I3 74 40).toNat))), (0, vR (some 74))] [] (mem (P, some 5, some 22) I18 J19) Q
      refine st_aload_n (pc' := 81) dX12_paging_80 rfl rfl (j := 1) rfl ?_
      refine G_X12_63_74 dX12_paging_81 (pc' := 84) rfl rfl ?_
      refine st_iload_n (pc' := 85) dX12_paging_84 rfl rfl (j := 0) rfl ?_
      refine st_aload_n (pc' := 86) dX12_paging_85 rfl rfl (j := 1) rfl ?_
      refine st_iconst (pc' := 87) dX12_paging_86 rfl ?_
      refine st_bipush (pc' := 89) dX12_paging_87 rfl (by decide) ?_
      refine st_callV (pc' := 92) (kc := k - 1) (E' := LAY) (cal := m_X12_number) (n := 2) (as := [vI 1, vI 99]) (S := [vI ((14 * (gi I3 74 40)) + (gi I3 77 (gi I3 74 40).toNat)), vR (some 79)]) dX12_paging_89 rfl l_X12_425 k_X12_number rfl L_74 c_X12 rfl rfl (Nat.le_of_ble_eq_true rfl) (by omega) ⟨Nat.le_refl _, Nat.le_refl _, Nat.le_refl _, Nat.le_refl _⟩ h (fun r M' q => ?_)
      obtain ⟨v20, I21, J22, rfl, rfl, h⟩ := q
      change WP _ LAY m_X12_paging 92 [(1, vI ((14 * (gi I3 74 40)) + (gi I3 77 (gi I3 74 40).toNat))), (0, vR (some 74))] [vI v20, vI ((14 * (gi I3 74 40)) + (gi I3 77 (gi I3 74 40).toNat)), vR (some 79)] (mem (P, some 5, some 22) I21 J22) Q
      refine st_iastore (pc' := 93) (M' := (mem (P, some 5, some 22) (si I21 79 (((14 * (gi I3 74 40)) + (gi I3 77 (gi I3 74 40).toNat)) : Int).toNat v20) J22)) dX12_paging_92 rfl L_79 (by decide) e10 rfl ?_
      refine st_aload_n (pc' := 94) dX12_paging_93 rfl rfl (j := 1) rfl ?_
      refine G_X12_66_74 dX12_paging_94 (pc' := 97) rfl rfl ?_
      refine st_iload_n (pc' := 98) dX12_paging_97 rfl rfl (j := 0) rfl ?_
      refine st_iconst (pc' := 99) dX12_paging_98 rfl ?_
      refine st_iastore (pc' := 100) (M' := (mem (P, some 5, some 22) (si (si I21 79 (((14 * (gi I3 74 40)) + (gi I3 77 (gi I3 74 40).toNat)) : Int).toNat v20) 80 (((14 * (gi I3 74 40)) + (gi I3 77 (gi I3 74 40).toNat)) : Int).toNat 0) J22)) dX12_paging_99 rfl L_80 (by decide) e10 rfl ?_
      refine st_aload_n (pc' := 101) dX12_paging_100 rfl rfl (j := 1) rfl ?_
      refine G_X12_69_74 dX12_paging_101 (pc' := 104) rfl rfl ?_
      refine st_iload_n (pc' := 105) dX12_paging_104 rfl rfl (j := 0) rfl ?_
      refine st_iconst (pc' := 106) dX12_paging_105 rfl ?_
      refine st_iastore (pc' := 107) (M' := (mem (P, some 5, some 22) (si (si (si I21 79 (((14 * (gi I3 74 40)) + (gi I3 77 (gi I3 74 40).toNat)) : Int).toNat v20) 80 (((14 * (gi I3 74 40)) + (gi I3 77 (gi I3 74 40).toNat)) : Int).toNat 0) 81 (((14 * (gi I3 74 40)) + (gi I3 77 (gi I3 74 40).toNat)) : Int).toNat 0) J22)) dX12_paging_106 rfl L_81 (by decide) e10 rfl ?_
      refine st_aload_n (pc' := 108) dX12_paging_107 rfl rfl (j := 1) rfl ?_
      refine st_callV (pc' := 111) (kc := k - 1) (E' := LAY) (cal := m_X12_lex) (n := 0) (as := []) (S := []) dX12_paging_108 rfl l_X12_302 k_X12_lex rfl L_74 c_X12 rfl rfl (Nat.le_of_ble_eq_true rfl) (by omega) ⟨Nat.le_refl _, Nat.le_refl _, Nat.le_refl _, Nat.le_refl _⟩ (Q1 := fun r M' => WP k LAY m_X12_paging 111 [(1, vI ((14 * (gi I3 74 40)) + (gi I3 77 (gi I3 74 40).toNat))), (0, vR (some 74))] (r.toList ++ []) M' Q) (WPm.of k_X12_lex.1 (Nat.le_of_ble_eq_true rfl) (B_X12_lex_0 (by omega) ?_)) (fun r M' q => q)
      refine ⟨fun c => ?_, fun c => ?_⟩
      · replace h := h.1 c
        change WP _ LAY m_X12_paging 111 [(1, vI ((14 * (gi I3 74 40)) + (gi I3 77 (gi I3 74 40).toNat))), (0, vR (some 74))] [] (mem (P, some 5, some 22) (si (si (si I21 79 (((14 * (gi I3 74 40)) + (gi I3 77 (gi I3 74 40).toNat)) : Int).toNat v20) 80 (((14 * (gi I3 74 40)) + (gi I3 77 (gi I3 74 40).toNat)) : Int).toNat 0) 81 (((14 * (gi I3 74 40)) + (gi I3 77 (gi I3 74 40).toNat)) : Int).toNat 0) J22) Q
        refine st_aload_n (pc' := 112) dX12_paging_111 rfl rfl (j := 1) rfl ?_
        refine G_X12_36_74 dX12_paging_112 (pc' := 115) rfl rfl ?_
        rw [show gi (si (si (si I21 79 (((14 * (gi I3 74 40)) + (gi I3 77 (gi I3 74 40).toNat)) : Int).toNat v20) 80 (((14 * (gi I3 74 40)) + (gi I3 77 (gi I3 74 40).toNat)) : Int).toNat 0) 81 (((14 * (gi I3 74 40)) + (gi I3 77 (gi I3 74 40).toNat)) : Int).toNat 0) 74 8 = (gi I21 74 8) from ((gi_cell _ _ _ _ (by decide)).trans ((gi_cell _ _ _ _ (by decide)).trans (gi_cell _ _ _ _ (by decide))))]
        refine st_if_le (tg := 119) (pc' := 118) dX12_paging_115 (by decide) rfl (gi_in _ _ _) (fun c => ?_) (fun c => ?_)
        · replace h := h.1 c
          refine st_aload_n (pc' := 120) dX12_paging_119 rfl rfl (j := 1) rfl ?_
          refine st_ldc2 (pc' := 123) (z := 6449511) dX12_paging_120 rfl q_X12_319 (by decide) ?_
          refine st_callV (pc' := 126) (kc := k - 1) (E' := LAY) (cal := m_X12_isWord) (n := 1) (as := [vL 6449511]) (S := []) dX12_paging_123 rfl l_X12_385 k_X12_isWord rfl L_74 c_X12 rfl rfl (Nat.le_of_ble_eq_true rfl) (by omega) ⟨Nat.le_refl _, Nat.le_refl _, Nat.le_refl _, Nat.le_refl _⟩ (Q1 := fun r M' => WP k LAY m_X12_paging 126 [(1, vI ((14 * (gi I3 74 40)) + (gi I3 77 (gi I3 74 40).toNat))), (0, vR (some 74))] (r.toList ++ []) M' Q) (S_X12_isWord (by omega) (by decide) ?_) (fun r M' q => q)
          change WP _ LAY m_X12_paging 126 [(1, vI ((14 * (gi I3 74 40)) + (gi I3 77 (gi I3 74 40).toNat))), (0, vR (some 74))] [vI (b2i (gi (si (si (si I21 79 (((14 * (gi I3 74 40)) + (gi I3 77 (gi I3 74 40).toNat)) : Int).toNat v20) 80 (((14 * (gi I3 74 40)) + (gi I3 77 (gi I3 74 40).toNat)) : Int).toNat 0) 81 (((14 * (gi I3 74 40)) + (gi I3 77 (gi I3 74 40).toNat)) : Int).toNat 0) 74 3 = 1 ∧ gl J22 74 7 = 6449511))] (mem (P, some 5, some 22) (si (si (si I21 79 (((14 * (gi I3 74 40)) + (gi I3 77 (gi I3 74 40).toNat)) : Int).toNat v20) 80 (((14 * (gi I3 74 40)) + (gi I3 77 (gi I3 74 40).toNat)) : Int).toNat 0) 81 (((14 * (gi I3 74 40)) + (gi I3 77 (gi I3 74 40).toNat)) : Int).toNat 0) J22) Q
          refine st_if_eq (tg := 140) (pc' := 129) dX12_paging_126 (by decide) rfl (b2i_in _) (fun c => ?_) (fun c => ?_)
          · replace h := h.1 (b2i_f.mp c)
            refine st_aload_n (pc' := 141) dX12_paging_140 rfl rfl (j := 1) rfl ?_
            refine G_X12_57_74 dX12_paging_141 (pc' := 144) rfl rfl ?_
            refine st_aload_n (pc' := 145) dX12_paging_144 rfl rfl (j := 1) rfl ?_
            refine G_X12_133_74 dX12_paging_145 (pc' := 148) rfl rfl ?_
            rw [show gi (si (si (si I21 79 (((14 * (gi I3 74 40)) + (gi I3 77 (gi I3 74 40).toNat)) : Int).toNat v20) 80 (((14 * (gi I3 74 40)) + (gi I3 77 (gi I3 74 40).toNat)) : Int).toNat 0) 81 (((14 * (gi I3 74 40)) + (gi I3 77 (gi I3 74 40).toNat)) : Int).toNat 0) 74 40 = (gi I21 74 40) from ((gi_cell _ _ _ _ (by decide)).trans ((gi_cell _ _ _ _ (by decide)).trans (gi_cell _ _ _ _ (by decide))))]
            refine st_dup2 (pc' := 149) dX12_paging_148 rfl rfl rfl ?_
            obtain ⟨e23, h⟩ := h
            refine st_iaload (pc' := 150) (v := (gi I21 77 (gi I21 74 40).toNat)) dX12_paging_149 rfl L_77 (by decide) e23 (show gi (si (si (si I21 79 (((14 * (gi I3 74 40)) + (gi I3 77 (gi I3 74 40).toNat)) : Int).toNat v20) 80 (((14 * (gi I3 74 40)) + (gi I3 77 (gi I3 74 40).toNat)) : Int).toNat 0) 81 (((14 * (gi I3 74 40)) + (gi I3 77 (gi I3 74 40).toNat)) : Int).toNat 0) 77 (gi I21 74 40).toNat = (gi I21 77 (gi I21 74 40).toNat) from ((gi_cell _ _ _ _ (by decide)).trans ((gi_cell _ _ _ _ (by decide)).trans (gi_cell _ _ _ _ (by decide))))) ?_
            refine st_iconst (pc' := 151) dX12_paging_150 rfl ?_
            refine st_iadd (pc' := 152) dX12_paging_151 rfl ?_
            refine st_iastore (pc' := 153) (M' := (mem (P, some 5, some 22) (si (si (si (si I21 79 (((14 * (gi I3 74 40)) + (gi I3 77 (gi I3 74 40).toNat)) : Int).toNat v20) 80 (((14 * (gi I3 74 40)) + (gi I3 77 (gi I3 74 40).toNat)) : Int).toNat 0) 81 (((14 * (gi I3 74 40)) + (gi I3 77 (gi I3 74 40).toNat)) : Int).toNat 0) 77 (gi I21 74 40).toNat ((gi I21 77 (gi I21 74 40).toNat) + 1)) J22)) dX12_paging_152 rfl L_77 (by decide) e23 rfl ?_
            exact st_vret dX12_paging_153 rfl rfl h
          · replace h := h.2 (b2i_t.mp c)
            refine st_aload_n (pc' := 130) dX12_paging_129 rfl rfl (j := 1) rfl ?_
            refine G_X12_66_74 dX12_paging_130 (pc' := 133) rfl rfl ?_
            refine st_iload_n (pc' := 134) dX12_paging_133 rfl rfl (j := 0) rfl ?_
            refine st_iconst (pc' := 135) dX12_paging_134 rfl ?_
            refine st_iastore (pc' := 136) (M' := (mem (P, some 5, some 22) (si (si (si (si I21 79 (((14 * (gi I3 74 40)) + (gi I3 77 (gi I3 74 40).toNat)) : Int).toNat v20) 80 (((14 * (gi I3 74 40)) + (gi I3 77 (gi I3 74 40).toNat)) : Int).toNat 0) 81 (((14 * (gi I3 74 40)) + (gi I3 77 (gi I3 74 40).toNat)) : Int).toNat 0) 80 (((14 * (gi I3 74 40)) + (gi I3 77 (gi I3 74 40).toNat)) : Int).toNat 1) J22)) dX12_paging_135 rfl L_80 (by decide) e10 rfl ?_
            refine st_aload_n (pc' := 137) dX12_paging_136 rfl rfl (j := 1) rfl ?_
            refine st_callV (pc' := 140) (kc := k - 1) (E' := LAY) (cal := m_X12_ahead) (n := 0) (as := []) (S := []) dX12_paging_137 rfl l_X12_308 k_X12_ahead rfl L_74 c_X12 rfl rfl (Nat.le_of_ble_eq_true rfl) (by omega) ⟨Nat.le_refl _, Nat.le_refl _, Nat.le_refl _, Nat.le_refl _⟩ h (fun r M' q => ?_)
            obtain ⟨I25, J26, rfl, rfl, h⟩ := q
            change WP _ LAY m_X12_paging 140 [(1, vI ((14 * (gi I3 74 40)) + (gi I3 77 (gi I3 74 40).toNat))), (0, vR (some 74))] [] (mem (P, some 5, some 22) I25 J26) Q
            refine st_aload_n (pc' := 141) dX12_paging_140 rfl rfl (j := 1) rfl ?_
            refine G_X12_57_74 dX12_paging_141 (pc' := 144) rfl rfl ?_
            refine st_aload_n (pc' := 145) dX12_paging_144 rfl rfl (j := 1) rfl ?_
            refine G_X12_133_74 dX12_paging_145 (pc' := 148) rfl rfl ?_
            refine st_dup2 (pc' := 149) dX12_paging_148 rfl rfl rfl ?_
            obtain ⟨e27, h⟩ := h
            refine st_iaload (pc' := 150) (v := (gi I25 77 (gi I25 74 40).toNat)) dX12_paging_149 rfl L_77 (by decide) e27 (show gi I25 77 (gi I25 74 40).toNat = (gi I25 77 (gi I25 74 40).toNat) from rfl) ?_
            refine st_iconst (pc' := 151) dX12_paging_150 rfl ?_
            refine st_iadd (pc' := 152) dX12_paging_151 rfl ?_
            refine st_iastore (pc' := 153) (M' := (mem (P, some 5, some 22) (si I25 77 (gi I25 74 40).toNat ((gi I25 77 (gi I25 74 40).toNat) + 1)) J26)) dX12_paging_152 rfl L_77 (by decide) e27 rfl ?_
            exact st_vret dX12_paging_153 rfl rfl h
        · replace h := h.2 c
          exact st_vret dX12_paging_118 rfl rfl h
      · replace h := h.2 c
        refine ⟨fun c => ?_, fun c => ?_⟩
        · replace h := h.1 c
          change WP _ LAY m_X12_paging 111 [(1, vI ((14 * (gi I3 74 40)) + (gi I3 77 (gi I3 74 40).toNat))), (0, vR (some 74))] [] (mem (P, some 5, some 22) (si (si (si (si (si I21 79 (((14 * (gi I3 74 40)) + (gi I3 77 (gi I3 74 40).toNat)) : Int).toNat v20) 80 (((14 * (gi I3 74 40)) + (gi I3 77 (gi I3 74 40).toNat)) : Int).toNat 0) 81 (((14 * (gi I3 74 40)) + (gi I3 77 (gi I3 74 40).toNat)) : Int).toNat 0) 74 8 1) 74 9 (gi (si (si (si I21 79 (((14 * (gi I3 74 40)) + (gi I3 77 (gi I3 74 40).toNat)) : Int).toNat v20) 80 (((14 * (gi I3 74 40)) + (gi I3 77 (gi I3 74 40).toNat)) : Int).toNat 0) 81 (((14 * (gi I3 74 40)) + (gi I3 77 (gi I3 74 40).toNat)) : Int).toNat 0) 74 12)) J22) Q
          refine st_aload_n (pc' := 112) dX12_paging_111 rfl rfl (j := 1) rfl ?_
          refine G_X12_36_74 dX12_paging_112 (pc' := 115) rfl rfl ?_
          rw [show gi (si (si (si (si (si I21 79 (((14 * (gi I3 74 40)) + (gi I3 77 (gi I3 74 40).toNat)) : Int).toNat v20) 80 (((14 * (gi I3 74 40)) + (gi I3 77 (gi I3 74 40).toNat)) : Int).toNat 0) 81 (((14 * (gi I3 74 40)) + (gi I3 77 (gi I3 74 40).toNat)) : Int).toNat 0) 74 8 1) 74 9 (gi (si (si (si I21 79 (((14 * (gi I3 74 40)) + (gi I3 77 (gi I3 74 40).toNat)) : Int).toNat v20) 80 (((14 * (gi I3 74 40)) + (gi I3 77 (gi I3 74 40).toNat)) : Int).toNat 0) 81 (((14 * (gi I3 74 40)) + (gi I3 77 (gi I3 74 40).toNat)) : Int).toNat 0) 74 12)) 74 8 = 1 from ((gi_idx _ _ _ (by decide)).trans (gi_same _ _ _ (by decide)))]
          refine st_if_le (tg := 119) (pc' := 118) dX12_paging_115 (by decide) rfl (by decide) (fun c => ?_) (fun c => ?_)
          · exact absurd c (by decide)
          · exact st_vret dX12_paging_118 rfl rfl h
        · replace h := h.2 c
          change WP _ LAY m_X12_paging 111 [(1, vI ((14 * (gi I3 74 40)) + (gi I3 77 (gi I3 74 40).toNat))), (0, vR (some 74))] [] (mem (P, some 5, some 22) (si (si (si I21 79 (((14 * (gi I3 74 40)) + (gi I3 77 (gi I3 74 40).toNat)) : Int).toNat v20) 80 (((14 * (gi I3 74 40)) + (gi I3 77 (gi I3 74 40).toNat)) : Int).toNat 0) 81 (((14 * (gi I3 74 40)) + (gi I3 77 (gi I3 74 40).toNat)) : Int).toNat 0) J22) Q
          refine st_aload_n (pc' := 112) dX12_paging_111 rfl rfl (j := 1) rfl ?_
          refine G_X12_36_74 dX12_paging_112 (pc' := 115) rfl rfl ?_
          rw [show gi (si (si (si I21 79 (((14 * (gi I3 74 40)) + (gi I3 77 (gi I3 74 40).toNat)) : Int).toNat v20) 80 (((14 * (gi I3 74 40)) + (gi I3 77 (gi I3 74 40).toNat)) : Int).toNat 0) 81 (((14 * (gi I3 74 40)) + (gi I3 77 (gi I3 74 40).toNat)) : Int).toNat 0) 74 8 = (gi I21 74 8) from ((gi_cell _ _ _ _ (by decide)).trans ((gi_cell _ _ _ _ (by decide)).trans (gi_cell _ _ _ _ (by decide))))]
          refine st_if_le (tg := 119) (pc' := 118) dX12_paging_115 (by decide) rfl (gi_in _ _ _) (fun c => ?_) (fun c => ?_)
          · replace h := h.1 c
            refine st_aload_n (pc' := 120) dX12_paging_119 rfl rfl (j := 1) rfl ?_
            refine st_ldc2 (pc' := 123) (z := 6449511) dX12_paging_120 rfl q_X12_319 (by decide) ?_
            refine st_callV (pc' := 126) (kc := k - 1) (E' := LAY) (cal := m_X12_isWord) (n := 1) (as := [vL 6449511]) (S := []) dX12_paging_123 rfl l_X12_385 k_X12_isWord rfl L_74 c_X12 rfl rfl (Nat.le_of_ble_eq_true rfl) (by omega) ⟨Nat.le_refl _, Nat.le_refl _, Nat.le_refl _, Nat.le_refl _⟩ (Q1 := fun r M' => WP k LAY m_X12_paging 126 [(1, vI ((14 * (gi I3 74 40)) + (gi I3 77 (gi I3 74 40).toNat))), (0, vR (some 74))] (r.toList ++ []) M' Q) (S_X12_isWord (by omega) (by decide) ?_) (fun r M' q => q)
            change WP _ LAY m_X12_paging 126 [(1, vI ((14 * (gi I3 74 40)) + (gi I3 77 (gi I3 74 40).toNat))), (0, vR (some 74))] [vI (b2i (gi (si (si (si I21 79 (((14 * (gi I3 74 40)) + (gi I3 77 (gi I3 74 40).toNat)) : Int).toNat v20) 80 (((14 * (gi I3 74 40)) + (gi I3 77 (gi I3 74 40).toNat)) : Int).toNat 0) 81 (((14 * (gi I3 74 40)) + (gi I3 77 (gi I3 74 40).toNat)) : Int).toNat 0) 74 3 = 1 ∧ gl J22 74 7 = 6449511))] (mem (P, some 5, some 22) (si (si (si I21 79 (((14 * (gi I3 74 40)) + (gi I3 77 (gi I3 74 40).toNat)) : Int).toNat v20) 80 (((14 * (gi I3 74 40)) + (gi I3 77 (gi I3 74 40).toNat)) : Int).toNat 0) 81 (((14 * (gi I3 74 40)) + (gi I3 77 (gi I3 74 40).toNat)) : Int).toNat 0) J22) Q
            refine st_if_eq (tg := 140) (pc' := 129) dX12_paging_126 (by decide) rfl (b2i_in _) (fun c => ?_) (fun c => ?_)
            · replace h := h.1 (b2i_f.mp c)
              refine st_aload_n (pc' := 141) dX12_paging_140 rfl rfl (j := 1) rfl ?_
              refine G_X12_57_74 dX12_paging_141 (pc' := 144) rfl rfl ?_
              refine st_aload_n (pc' := 145) dX12_paging_144 rfl rfl (j := 1) rfl ?_
              refine G_X12_133_74 dX12_paging_145 (pc' := 148) rfl rfl ?_
              rw [show gi (si (si (si I21 79 (((14 * (gi I3 74 40)) + (gi I3 77 (gi I3 74 40).toNat)) : Int).toNat v20) 80 (((14 * (gi I3 74 40)) + (gi I3 77 (gi I3 74 40).toNat)) : Int).toNat 0) 81 (((14 * (gi I3 74 40)) + (gi I3 77 (gi I3 74 40).toNat)) : Int).toNat 0) 74 40 = (gi I21 74 40) from ((gi_cell _ _ _ _ (by decide)).trans ((gi_cell _ _ _ _ (by decide)).trans (gi_cell _ _ _ _ (by decide))))]
              refine st_dup2 (pc' := 149) dX12_paging_148 rfl rfl rfl ?_
              obtain ⟨e28, h⟩ := h
              refine st_iaload (pc' := 150) (v := (gi I21 77 (gi I21 74 40).toNat)) dX12_paging_149 rfl L_77 (by decide) e28 (show gi (si (si (si I21 79 (((14 * (gi I3 74 40)) + (gi I3 77 (gi I3 74 40).toNat)) : Int).toNat v20) 80 (((14 * (gi I3 74 40)) + (gi I3 77 (gi I3 74 40).toNat)) : Int).toNat 0) 81 (((14 * (gi I3 74 40)) + (gi I3 77 (gi I3 74 40).toNat)) : Int).toNat 0) 77 (gi I21 74 40).toNat = (gi I21 77 (gi I21 74 40).toNat) from ((gi_cell _ _ _ _ (by decide)).trans ((gi_cell _ _ _ _ (by decide)).trans (gi_cell _ _ _ _ (by decide))))) ?_
              refine st_iconst (pc' := 151) dX12_paging_150 rfl ?_
              refine st_iadd (pc' := 152) dX12_paging_151 rfl ?_
              refine st_iastore (pc' := 153) (M' := (mem (P, some 5, some 22) (si (si (si (si I21 79 (((14 * (gi I3 74 40)) + (gi I3 77 (gi I3 74 40).toNat)) : Int).toNat v20) 80 (((14 * (gi I3 74 40)) + (gi I3 77 (gi I3 74 40).toNat)) : Int).toNat 0) 81 (((14 * (gi I3 74 40)) + (gi I3 77 (gi I3 74 40).toNat)) : Int).toNat 0) 77 (gi I21 74 40).toNat ((gi I21 77 (gi I21 74 40).toNat) + 1)) J22)) dX12_paging_152 rfl L_77 (by decide) e28 rfl ?_
              exact st_vret dX12_paging_153 rfl rfl h
            · replace h := h.2 (b2i_t.mp c)
              refine st_aload_n (pc' := 130) dX12_paging_129 rfl rfl (j := 1) rfl ?_
              refine G_X12_66_74 dX12_paging_130 (pc' := 133) rfl rfl ?_
              refine st_iload_n (pc' := 134) dX12_paging_133 rfl rfl (j := 0) rfl ?_
              refine st_iconst (pc' := 135) dX12_paging_134 rfl ?_
              refine st_iastore (pc' := 136) (M' := (mem (P, some 5, some 22) (si (si (si (si I21 79 (((14 * (gi I3 74 40)) + (gi I3 77 (gi I3 74 40).toNat)) : Int).toNat v20) 80 (((14 * (gi I3 74 40)) + (gi I3 77 (gi I3 74 40).toNat)) : Int).toNat 0) 81 (((14 * (gi I3 74 40)) + (gi I3 77 (gi I3 74 40).toNat)) : Int).toNat 0) 80 (((14 * (gi I3 74 40)) + (gi I3 77 (gi I3 74 40).toNat)) : Int).toNat 1) J22)) dX12_paging_135 rfl L_80 (by decide) e10 rfl ?_
              refine st_aload_n (pc' := 137) dX12_paging_136 rfl rfl (j := 1) rfl ?_
              refine st_callV (pc' := 140) (kc := k - 1) (E' := LAY) (cal := m_X12_ahead) (n := 0) (as := []) (S := []) dX12_paging_137 rfl l_X12_308 k_X12_ahead rfl L_74 c_X12 rfl rfl (Nat.le_of_ble_eq_true rfl) (by omega) ⟨Nat.le_refl _, Nat.le_refl _, Nat.le_refl _, Nat.le_refl _⟩ h (fun r M' q => ?_)
              obtain ⟨I30, J31, rfl, rfl, h⟩ := q
              change WP _ LAY m_X12_paging 140 [(1, vI ((14 * (gi I3 74 40)) + (gi I3 77 (gi I3 74 40).toNat))), (0, vR (some 74))] [] (mem (P, some 5, some 22) I30 J31) Q
              refine st_aload_n (pc' := 141) dX12_paging_140 rfl rfl (j := 1) rfl ?_
              refine G_X12_57_74 dX12_paging_141 (pc' := 144) rfl rfl ?_
              refine st_aload_n (pc' := 145) dX12_paging_144 rfl rfl (j := 1) rfl ?_
              refine G_X12_133_74 dX12_paging_145 (pc' := 148) rfl rfl ?_
              refine st_dup2 (pc' := 149) dX12_paging_148 rfl rfl rfl ?_
              obtain ⟨e32, h⟩ := h
              refine st_iaload (pc' := 150) (v := (gi I30 77 (gi I30 74 40).toNat)) dX12_paging_149 rfl L_77 (by decide) e32 (show gi I30 77 (gi I30 74 40).toNat = (gi I30 77 (gi I30 74 40).toNat) from rfl) ?_
              refine st_iconst (pc' := 151) dX12_paging_150 rfl ?_
              refine st_iadd (pc' := 152) dX12_paging_151 rfl ?_
              refine st_iastore (pc' := 153) (M' := (mem (P, some 5, some 22) (si I30 77 (gi I30 74 40).toNat ((gi I30 77 (gi I30 74 40).toNat) + 1)) J31)) dX12_paging_152 rfl L_77 (by decide) e32 rfl ?_
              exact st_vret dX12_paging_153 rfl rfl h
          · replace h := h.2 c
            exact st_vret dX12_paging_118 rfl rfl h
    · replace h := h.2 c
      exact st_vret dX12_paging_26 rfl rfl h
  · replace h := h.2 c
    refine st_iconst (pc' := 16) dX12_paging_15 rfl ?_
    refine st_goto (pc' := 20) dX12_paging_16 (by decide) ?_
    refine st_callV (pc' := 23) (kc := k - 1) (E' := LAY) (cal := m_X12_counts) (n := 1) (as := [vI 1]) (S := []) dX12_paging_20 rfl l_X12_410 k_X12_counts rfl L_74 c_X12 rfl rfl (Nat.le_of_ble_eq_true rfl) (by omega) ⟨Nat.le_refl _, Nat.le_refl _, Nat.le_refl _, Nat.le_refl _⟩ h (fun r M' q => ?_)
    obtain ⟨v33, I34, J35, rfl, rfl, h⟩ := q
    change WP _ LAY m_X12_paging 23 [(0, vR (some 74))] [vI v33] (mem (P, some 5, some 22) I34 J35) Q
    obtain ⟨e36, h⟩ := h
    refine st_if_ne (tg := 27) (pc' := 26) dX12_paging_23 (by decide) rfl e36 (fun c => ?_) (fun c => ?_)
    · replace h := h.1 c
      refine st_bipush (pc' := 29) dX12_paging_27 rfl (by decide) ?_
      refine st_aload_n (pc' := 30) dX12_paging_29 rfl rfl (j := 0) rfl ?_
      refine G_X12_133_74 dX12_paging_30 (pc' := 33) rfl rfl ?_
      refine st_imul (pc' := 34) dX12_paging_33 rfl ?_
      refine st_aload_n (pc' := 35) dX12_paging_34 rfl rfl (j := 0) rfl ?_
      refine G_X12_57_74 dX12_paging_35 (pc' := 38) rfl rfl ?_
      refine st_aload_n (pc' := 39) dX12_paging_38 rfl rfl (j := 0) rfl ?_
      refine G_X12_133_74 dX12_paging_39 (pc' := 42) rfl rfl ?_
      obtain ⟨e37, h⟩ := h
      refine st_iaload (pc' := 43) (v := (gi I34 77 (gi I34 74 40).toNat)) dX12_paging_42 rfl L_77 (by decide) e37 (show gi I34 77 (gi I34 74 40).toNat = (gi I34 77 (gi I34 74 40).toNat) from rfl) ?_
      refine st_iadd (pc' := 44) dX12_paging_43 rfl ?_
      refine st_istore_n (pc' := 45) (L' := [(1, vI ((14 * (gi I34 74 40)) + (gi I34 77 (gi I34 74 40).toNat))), (0, vR (some 74))]) dX12_paging_44 rfl rfl (by decide) rfl ?_
      refine st_aload_n (pc' := 46) dX12_paging_45 rfl rfl (j := 1) rfl ?_
      refine G_X12_121_74 dX12_paging_46 (pc' := 49) rfl rfl ?_
      refine st_iload_n (pc' := 50) dX12_paging_49 rfl rfl (j := 0) rfl ?_
      refine st_aload_n (pc' := 51) dX12_paging_50 rfl rfl (j := 1) rfl ?_
      refine st_callV (pc' := 54) (kc := k - 1) (E' := LAY) (cal := m_X12_fresh) (n := 0) (as := []) (S := [vI ((14 * (gi I34 74 40)) + (gi I34 77 (gi I34 74 40).toNat)), vR (some 98)]) dX12_paging_51 rfl l_X12_414 k_X12_fresh rfl L_74 c_X12 rfl rfl (Nat.le_of_ble_eq_true rfl) (by omega) ⟨Nat.le_refl _, Nat.le_refl _, Nat.le_refl _, Nat.le_refl _⟩ h (fun r M' q => ?_)
      obtain ⟨v38, I39, J40, rfl, rfl, h⟩ := q
      change WP _ LAY m_X12_paging 54 [(1, vI ((14 * (gi I34 74 40)) + (gi I34 77 (gi I34 74 40).toNat))), (0, vR (some 74))] [vL v38, vI ((14 * (gi I34 74 40)) + (gi I34 77 (gi I34 74 40).toNat)), vR (some 98)] (mem (P, some 5, some 22) I39 J40) Q
      obtain ⟨e41, h⟩ := h
      refine st_lastore (pc' := 55) (M' := (mem (P, some 5, some 22) I39 (sl J40 98 (((14 * (gi I34 74 40)) + (gi I34 77 (gi I34 74 40).toNat)) : Int).toNat v38))) dX12_paging_54 rfl L_98 (by decide) e41 rfl ?_
      refine st_aload_n (pc' := 56) dX12_paging_55 rfl rfl (j := 1) rfl ?_
      refine st_ldc2 (pc' := 59) (z := 28518) dX12_paging_56 rfl q_X12_315 (by decide) ?_
      refine st_callV (pc' := 62) (kc := k - 1) (E' := LAY) (cal := m_X12_must_) (n := 1) (as := [vL 28518]) (S := []) dX12_paging_59 rfl l_X12_418 k_X12_must_ rfl L_74 c_X12 rfl rfl (Nat.le_of_ble_eq_true rfl) (by omega) ⟨Nat.le_refl _, Nat.le_refl _, Nat.le_refl _, Nat.le_refl _⟩ h (fun r M' q => ?_)
      obtain ⟨I43, J44, rfl, rfl, h⟩ := q
      change WP _ LAY m_X12_paging 62 [(1, vI ((14 * (gi I34 74 40)) + (gi I34 77 (gi I34 74 40).toNat))), (0, vR (some 74))] [] (mem (P, some 5, some 22) I43 J44) Q
      refine st_aload_n (pc' := 63) dX12_paging_62 rfl rfl (j := 1) rfl ?_
      refine G_X12_60_74 dX12_paging_63 (pc' := 66) rfl rfl ?_
      refine st_iload_n (pc' := 67) dX12_paging_66 rfl rfl (j := 0) rfl ?_
      refine st_aload_n (pc' := 68) dX12_paging_67 rfl rfl (j := 1) rfl ?_
      refine st_iconst (pc' := 69) dX12_paging_68 rfl ?_
      refine st_callV (pc' := 72) (kc := k - 1) (E' := LAY) (cal := m_X12_asked) (n := 1) (as := [vI 0]) (S := [vI ((14 * (gi I34 74 40)) + (gi I34 77 (gi I34 74 40).toNat)), vR (some 78)]) dX12_paging_69 rfl l_X12_422 k_X12_asked rfl L_74 c_X12 rfl rfl (Nat.le_of_ble_eq_true rfl) (by omega) ⟨Nat.le_refl _, Nat.le_refl _, Nat.le_refl _, Nat.le_refl _⟩ h (fun r M' q => ?_)
      obtain ⟨v45, I46, J47, rfl, rfl, h⟩ := q
      change WP _ LAY m_X12_paging 72 [(1, vI ((14 * (gi I34 74 40)) + (gi I34 77 (gi I34 74 40).toNat))), (0, vR (some 74))] [vI v45, vI ((14 * (gi I34 74 40)) + (gi I34 77 (gi I34 74 40).toNat)), vR (some 78)] (mem (P, some 5, some 22) I46 J47) Q
      refine st_iastore (pc' := 73) (M' := (mem (P, some 5, some 22) (si I46 78 (((14 * (gi I34 74 40)) + (gi I34 77 (gi I34 74 40).toNat)) : Int).toNat v45) J47)) dX12_paging_72 rfl L_78 (by decide) e41 rfl ?_
      refine st_aload_n (pc' := 74) dX12_paging_73 rfl rfl (j := 1) rfl ?_
      refine st_ldc2 (pc' := 77) (z := 465625310579) dX12_paging_74 rfl q_X12_317 (by decide) ?_
      refine st_callV (pc' := 80) (kc := k - 1) (E' := LAY) (cal := m_X12_must_) (n := 1) (as := [vL 465625310579]) (S := []) dX12_paging_77 rfl l_X12_418 k_X12_must_ rfl L_74 c_X12 rfl rfl (Nat.le_of_ble_eq_true rfl) (by omega) ⟨Nat.le_refl _, Nat.le_refl _, Nat.le_refl _, Nat.le_refl _⟩ h (fun r M' q => ?_)
      obtain ⟨I49, J50, rfl, rfl, h⟩ := q
      change WP _ LAY m_X12_paging 80 [(1, vI ((14 * (gi I34 74 40)) + (gi I34 77 (gi I34 74 40).toNat))), (0, vR (some 74))] [] (mem (P, some 5, some 22) I49 J50) Q
      refine st_aload_n (pc' := 81) dX12_paging_80 rfl rfl (j := 1) rfl ?_
      refine G_X12_63_74 dX12_paging_81 (pc' := 84) rfl rfl ?_
      refine st_iload_n (pc' := 85) dX12_paging_84 rfl rfl (j := 0) rfl ?_
      refine st_aload_n (pc' := 86) dX12_paging_85 rfl rfl (j := 1) rfl ?_
      refine st_iconst (pc' := 87) dX12_paging_86 rfl ?_
      refine st_bipush (pc' := 89) dX12_paging_87 rfl (by decide) ?_
      refine st_callV (pc' := 92) (kc := k - 1) (E' := LAY) (cal := m_X12_number) (n := 2) (as := [vI 1, vI 99]) (S := [vI ((14 * (gi I34 74 40)) + (gi I34 77 (gi I34 74 40).toNat)), vR (some 79)]) dX12_paging_89 rfl l_X12_425 k_X12_number rfl L_74 c_X12 rfl rfl (Nat.le_of_ble_eq_true rfl) (by omega) ⟨Nat.le_refl _, Nat.le_refl _, Nat.le_refl _, Nat.le_refl _⟩ h (fun r M' q => ?_)
      obtain ⟨v51, I52, J53, rfl, rfl, h⟩ := q
      change WP _ LAY m_X12_paging 92 [(1, vI ((14 * (gi I34 74 40)) + (gi I34 77 (gi I34 74 40).toNat))), (0, vR (some 74))] [vI v51, vI ((14 * (gi I34 74 40)) + (gi I34 77 (gi I34 74 40).toNat)), vR (some 79)] (mem (P, some 5, some 22) I52 J53) Q
      refine st_iastore (pc' := 93) (M' := (mem (P, some 5, some 22) (si I52 79 (((14 * (gi I34 74 40)) + (gi I34 77 (gi I34 74 40).toNat)) : Int).toNat v51) J53)) dX12_paging_92 rfl L_79 (by decide) e41 rfl ?_
      refine st_aload_n (pc' := 94) dX12_paging_93 rfl rfl (j := 1) rfl ?_
      refine G_X12_66_74 dX12_paging_94 (pc' := 97) rfl rfl ?_
      refine st_iload_n (pc' := 98) dX12_paging_97 rfl rfl (j := 0) rfl ?_
      refine st_iconst (pc' := 99) dX12_paging_98 rfl ?_
      refine st_iastore (pc' := 100) (M' := (mem (P, some 5, some 22) (si (si I52 79 (((14 * (gi I34 74 40)) + (gi I34 77 (gi I34 74 40).toNat)) : Int).toNat v51) 80 (((14 * (gi I34 74 40)) + (gi I34 77 (gi I34 74 40).toNat)) : Int).toNat 0) J53)) dX12_paging_99 rfl L_80 (by decide) e41 rfl ?_
      refine st_aload_n (pc' := 101) dX12_paging_100 rfl rfl (j := 1) rfl ?_
      refine G_X12_69_74 dX12_paging_101 (pc' := 104) rfl rfl ?_
      refine st_iload_n (pc' := 105) dX12_paging_104 rfl rfl (j := 0) rfl ?_
      refine st_iconst (pc' := 106) dX12_paging_105 rfl ?_
      refine st_iastore (pc' := 107) (M' := (mem (P, some 5, some 22) (si (si (si I52 79 (((14 * (gi I34 74 40)) + (gi I34 77 (gi I34 74 40).toNat)) : Int).toNat v51) 80 (((14 * (gi I34 74 40)) + (gi I34 77 (gi I34 74 40).toNat)) : Int).toNat 0) 81 (((14 * (gi I34 74 40)) + (gi I34 77 (gi I34 74 40).toNat)) : Int).toNat 0) J53)) dX12_paging_106 rfl L_81 (by decide) e41 rfl ?_
      refine st_aload_n (pc' := 108) dX12_paging_107 rfl rfl (j := 1) rfl ?_
      refine st_callV (pc' := 111) (kc := k - 1) (E' := LAY) (cal := m_X12_lex) (n := 0) (as := []) (S := []) dX12_paging_108 rfl l_X12_302 k_X12_lex rfl L_74 c_X12 rfl rfl (Nat.le_of_ble_eq_true rfl) (by omega) ⟨Nat.le_refl _, Nat.le_refl _, Nat.le_refl _, Nat.le_refl _⟩ (Q1 := fun r M' => WP k LAY m_X12_paging 111 [(1, vI ((14 * (gi I34 74 40)) + (gi I34 77 (gi I34 74 40).toNat))), (0, vR (some 74))] (r.toList ++ []) M' Q) (WPm.of k_X12_lex.1 (Nat.le_of_ble_eq_true rfl) (B_X12_lex_0 (by omega) ?_)) (fun r M' q => q)
      refine ⟨fun c => ?_, fun c => ?_⟩
      · replace h := h.1 c
        change WP _ LAY m_X12_paging 111 [(1, vI ((14 * (gi I34 74 40)) + (gi I34 77 (gi I34 74 40).toNat))), (0, vR (some 74))] [] (mem (P, some 5, some 22) (si (si (si I52 79 (((14 * (gi I34 74 40)) + (gi I34 77 (gi I34 74 40).toNat)) : Int).toNat v51) 80 (((14 * (gi I34 74 40)) + (gi I34 77 (gi I34 74 40).toNat)) : Int).toNat 0) 81 (((14 * (gi I34 74 40)) + (gi I34 77 (gi I34 74 40).toNat)) : Int).toNat 0) J53) Q
        refine st_aload_n (pc' := 112) dX12_paging_111 rfl rfl (j := 1) rfl ?_
        refine G_X12_36_74 dX12_paging_112 (pc' := 115) rfl rfl ?_
        rw [show gi (si (si (si I52 79 (((14 * (gi I34 74 40)) + (gi I34 77 (gi I34 74 40).toNat)) : Int).toNat v51) 80 (((14 * (gi I34 74 40)) + (gi I34 77 (gi I34 74 40).toNat)) : Int).toNat 0) 81 (((14 * (gi I34 74 40)) + (gi I34 77 (gi I34 74 40).toNat)) : Int).toNat 0) 74 8 = (gi I52 74 8) from ((gi_cell _ _ _ _ (by decide)).trans ((gi_cell _ _ _ _ (by decide)).trans (gi_cell _ _ _ _ (by decide))))]
        refine st_if_le (tg := 119) (pc' := 118) dX12_paging_115 (by decide) rfl (gi_in _ _ _) (fun c => ?_) (fun c => ?_)
        · replace h := h.1 c
          refine st_aload_n (pc' := 120) dX12_paging_119 rfl rfl (j := 1) rfl ?_
          refine st_ldc2 (pc' := 123) (z := 6449511) dX12_paging_120 rfl q_X12_319 (by decide) ?_
          refine st_callV (pc' := 126) (kc := k - 1) (E' := LAY) (cal := m_X12_isWord) (n := 1) (as := [vL 6449511]) (S := []) dX12_paging_123 rfl l_X12_385 k_X12_isWord rfl L_74 c_X12 rfl rfl (Nat.le_of_ble_eq_true rfl) (by omega) ⟨Nat.le_refl _, Nat.le_refl _, Nat.le_refl _, Nat.le_refl _⟩ (Q1 := fun r M' => WP k LAY m_X12_paging 126 [(1, vI ((14 * (gi I34 74 40)) + (gi I34 77 (gi I34 74 40).toNat))), (0, vR (some 74))] (r.toList ++ []) M' Q) (S_X12_isWord (by omega) (by decide) ?_) (fun r M' q => q)
          change WP _ LAY m_X12_paging 126 [(1, vI ((14 * (gi I34 74 40)) + (gi I34 77 (gi I34 74 40).toNat))), (0, vR (some 74))] [vI (b2i (gi (si (si (si I52 79 (((14 * (gi I34 74 40)) + (gi I34 77 (gi I34 74 40).toNat)) : Int).toNat v51) 80 (((14 * (gi I34 74 40)) + (gi I34 77 (gi I34 74 40).toNat)) : Int).toNat 0) 81 (((14 * (gi I34 74 40)) + (gi I34 77 (gi I34 74 40).toNat)) : Int).toNat 0) 74 3 = 1 ∧ gl J53 74 7 = 6449511))] (mem (P, some 5, some 22) (si (si (si I52 79 (((14 * (gi I34 74 40)) + (gi I34 77 (gi I34 74 40).toNat)) : Int).toNat v51) 80 (((14 * (gi I34 74 40)) + (gi I34 77 (gi I34 74 40).toNat)) : Int).toNat 0) 81 (((14 * (gi I34 74 40)) + (gi I34 77 (gi I34 74 40).toNat)) : Int).toNat 0) J53) Q
          refine st_if_eq (tg := 140) (pc' := 129) dX12_paging_126 (by decide) rfl (b2i_in _) (fun c => ?_) (fun c => ?_)
          · replace h := h.1 (b2i_f.mp c)
            refine st_aload_n (pc' := 141) dX12_paging_140 rfl rfl (j := 1) rfl ?_
            refine G_X12_57_74 dX12_paging_141 (pc' := 144) rfl rfl ?_
            refine st_aload_n (pc' := 145) dX12_paging_144 rfl rfl (j := 1) rfl ?_
            refine G_X12_133_74 dX12_paging_145 (pc' := 148) rfl rfl ?_
            rw [show gi (si (si (si I52 79 (((14 * (gi I34 74 40)) + (gi I34 77 (gi I34 74 40).toNat)) : Int).toNat v51) 80 (((14 * (gi I34 74 40)) + (gi I34 77 (gi I34 74 40).toNat)) : Int).toNat 0) 81 (((14 * (gi I34 74 40)) + (gi I34 77 (gi I34 74 40).toNat)) : Int).toNat 0) 74 40 = (gi I52 74 40) from ((gi_cell _ _ _ _ (by decide)).trans ((gi_cell _ _ _ _ (by decide)).trans (gi_cell _ _ _ _ (by decide))))]
            refine st_dup2 (pc' := 149) dX12_paging_148 rfl rfl rfl ?_
            obtain ⟨e54, h⟩ := h
            refine st_iaload (pc' := 150) (v := (gi I52 77 (gi I52 74 40).toNat)) dX12_paging_149 rfl L_77 (by decide) e54 (show gi (si (si (si I52 79 (((14 * (gi I34 74 40)) + (gi I34 77 (gi I34 74 40).toNat)) : Int).toNat v51) 80 (((14 * (gi I34 74 40)) + (gi I34 77 (gi I34 74 40).toNat)) : Int).toNat 0) 81 (((14 * (gi I34 74 40)) + (gi I34 77 (gi I34 74 40).toNat)) : Int).toNat 0) 77 (gi I52 74 40).toNat = (gi I52 77 (gi I52 74 40).toNat) from ((gi_cell _ _ _ _ (by decide)).trans ((gi_cell _ _ _ _ (by decide)).trans (gi_cell _ _ _ _ (by decide))))) ?_
            refine st_iconst (pc' := 151) dX12_paging_150 rfl ?_
            refine st_iadd (pc' := 152) dX12_paging_151 rfl ?_
            refine st_iastore (pc' := 153) (M' := (mem (P, some 5, some 22) (si (si (si (si I52 79 (((14 * (gi I34 74 40)) + (gi I34 77 (gi I34 74 40).toNat)) : Int).toNat v51) 80 (((14 * (gi I34 74 40)) + (gi I34 77 (gi I34 74 40).toNat)) : Int).toNat 0) 81 (((14 * (gi I34 74 40)) + (gi I34 77 (gi I34 74 40).toNat)) : Int).toNat 0) 77 (gi I52 74 40).toNat ((gi I52 77 (gi I52 74 40).toNat) + 1)) J53)) dX12_paging_152 rfl L_77 (by decide) e54 rfl ?_
            exact st_vret dX12_paging_153 rfl rfl h
          · replace h := h.2 (b2i_t.mp c)
            refine st_aload_n (pc' := 130) dX12_paging_129 rfl rfl (j := 1) rfl ?_
            refine G_X12_66_74 dX12_paging_130 (pc' := 133) rfl rfl ?_
            refine st_iload_n (pc' := 134) dX12_paging_133 rfl rfl (j := 0) rfl ?_
            refine st_iconst (pc' := 135) dX12_paging_134 rfl ?_
            refine st_iastore (pc' := 136) (M' := (mem (P, some 5, some 22) (si (si (si (si I52 79 (((14 * (gi I34 74 40)) + (gi I34 77 (gi I34 74 40).toNat)) : Int).toNat v51) 80 (((14 * (gi I34 74 40)) + (gi I34 77 (gi I34 74 40).toNat)) : Int).toNat 0) 81 (((14 * (gi I34 74 40)) + (gi I34 77 (gi I34 74 40).toNat)) : Int).toNat 0) 80 (((14 * (gi I34 74 40)) + (gi I34 77 (gi I34 74 40).toNat)) : Int).toNat 1) J53)) dX12_paging_135 rfl L_80 (by decide) e41 rfl ?_
            refine st_aload_n (pc' := 137) dX12_paging_136 rfl rfl (j := 1) rfl ?_
            refine st_callV (pc' := 140) (kc := k - 1) (E' := LAY) (cal := m_X12_ahead) (n := 0) (as := []) (S := []) dX12_paging_137 rfl l_X12_308 k_X12_ahead rfl L_74 c_X12 rfl rfl (Nat.le_of_ble_eq_true rfl) (by omega) ⟨Nat.le_refl _, Nat.le_refl _, Nat.le_refl _, Nat.le_refl _⟩ h (fun r M' q => ?_)
            obtain ⟨I56, J57, rfl, rfl, h⟩ := q
            change WP _ LAY m_X12_paging 140 [(1, vI ((14 * (gi I34 74 40)) + (gi I34 77 (gi I34 74 40).toNat))), (0, vR (some 74))] [] (mem (P, some 5, some 22) I56 J57) Q
            refine st_aload_n (pc' := 141) dX12_paging_140 rfl rfl (j := 1) rfl ?_
            refine G_X12_57_74 dX12_paging_141 (pc' := 144) rfl rfl ?_
            refine st_aload_n (pc' := 145) dX12_paging_144 rfl rfl (j := 1) rfl ?_
            refine G_X12_133_74 dX12_paging_145 (pc' := 148) rfl rfl ?_
            refine st_dup2 (pc' := 149) dX12_paging_148 rfl rfl rfl ?_
            obtain ⟨e58, h⟩ := h
            refine st_iaload (pc' := 150) (v := (gi I56 77 (gi I56 74 40).toNat)) dX12_paging_149 rfl L_77 (by decide) e58 (show gi I56 77 (gi I56 74 40).toNat = (gi I56 77 (gi I56 74 40).toNat) from rfl) ?_
            refine st_iconst (pc' := 151) dX12_paging_150 rfl ?_
            refine st_iadd (pc' := 152) dX12_paging_151 rfl ?_
            refine st_iastore (pc' := 153) (M' := (mem (P, some 5, some 22) (si I56 77 (gi I56 74 40).toNat ((gi I56 77 (gi I56 74 40).toNat) + 1)) J57)) dX12_paging_152 rfl L_77 (by decide) e58 rfl ?_
            exact st_vret dX12_paging_153 rfl rfl h
        · replace h := h.2 c
          exact st_vret dX12_paging_118 rfl rfl h
      · replace h := h.2 c
        refine ⟨fun c => ?_, fun c => ?_⟩
        · replace h := h.1 c
          change WP _ LAY m_X12_paging 111 [(1, vI ((14 * (gi I34 74 40)) + (gi I34 77 (gi I34 74 40).toNat))), (0, vR (some 74))] [] (mem (P, some 5, some 22) (si (si (si (si (si I52 79 (((14 * (gi I34 74 40)) + (gi I34 77 (gi I34 74 40).toNat)) : Int).toNat v51) 80 (((14 * (gi I34 74 40)) + (gi I34 77 (gi I34 74 40).toNat)) : Int).toNat 0) 81 (((14 * (gi I34 74 40)) + (gi I34 77 (gi I34 74 40).toNat)) : Int).toNat 0) 74 8 1) 74 9 (gi (si (si (si I52 79 (((14 * (gi I34 74 40)) + (gi I34 77 (gi I34 74 40).toNat)) : Int).toNat v51) 80 (((14 * (gi I34 74 40)) + (gi I34 77 (gi I34 74 40).toNat)) : Int).toNat 0) 81 (((14 * (gi I34 74 40)) + (gi I34 77 (gi I34 74 40).toNat)) : Int).toNat 0) 74 12)) J53) Q
          refine st_aload_n (pc' := 112) dX12_paging_111 rfl rfl (j := 1) rfl ?_
          refine G_X12_36_74 dX12_paging_112 (pc' := 115) rfl rfl ?_
          rw [show gi (si (si (si (si (si I52 79 (((14 * (gi I34 74 40)) + (gi I34 77 (gi I34 74 40).toNat)) : Int).toNat v51) 80 (((14 * (gi I34 74 40)) + (gi I34 77 (gi I34 74 40).toNat)) : Int).toNat 0) 81 (((14 * (gi I34 74 40)) + (gi I34 77 (gi I34 74 40).toNat)) : Int).toNat 0) 74 8 1) 74 9 (gi (si (si (si I52 79 (((14 * (gi I34 74 40)) + (gi I34 77 (gi I34 74 40).toNat)) : Int).toNat v51) 80 (((14 * (gi I34 74 40)) + (gi I34 77 (gi I34 74 40).toNat)) : Int).toNat 0) 81 (((14 * (gi I34 74 40)) + (gi I34 77 (gi I34 74 40).toNat)) : Int).toNat 0) 74 12)) 74 8 = 1 from ((gi_idx _ _ _ (by decide)).trans (gi_same _ _ _ (by decide)))]
          refine st_if_le (tg := 119) (pc' := 118) dX12_paging_115 (by decide) rfl (by decide) (fun c => ?_) (fun c => ?_)
          · exact absurd c (by decide)
          · exact st_vret dX12_paging_118 rfl rfl h
        · replace h := h.2 c
          change WP _ LAY m_X12_paging 111 [(1, vI ((14 * (gi I34 74 40)) + (gi I34 77 (gi I34 74 40).toNat))), (0, vR (some 74))] [] (mem (P, some 5, some 22) (si (si (si I52 79 (((14 * (gi I34 74 40)) + (gi I34 77 (gi I34 74 40).toNat)) : Int).toNat v51) 80 (((14 * (gi I34 74 40)) + (gi I34 77 (gi I34 74 40).toNat)) : Int).toNat 0) 81 (((14 * (gi I34 74 40)) + (gi I34 77 (gi I34 74 40).toNat)) : Int).toNat 0) J53) Q
          refine st_aload_n (pc' := 112) dX12_paging_111 rfl rfl (j := 1) rfl ?_
          refine G_X12_36_74 dX12_paging_112 (pc' := 115) rfl rfl ?_
          rw [show gi (si (si (si I52 79 (((14 * (gi I34 74 40)) + (gi I34 77 (gi I34 74 40).toNat)) : Int).toNat v51) 80 (((14 * (gi I34 74 40)) + (gi I34 77 (gi I34 74 40).toNat)) : Int).toNat 0) 81 (((14 * (gi I34 74 40)) + (gi I34 77 (gi I34 74 40).toNat)) : Int).toNat 0) 74 8 = (gi I52 74 8) from ((gi_cell _ _ _ _ (by decide)).trans ((gi_cell _ _ _ _ (by decide)).trans (gi_cell _ _ _ _ (by decide))))]
          refine st_if_le (tg := 119) (pc' := 118) dX12_paging_115 (by decide) rfl (gi_in _ _ _) (fun c => ?_) (fun c => ?_)
          · replace h := h.1 c
            refine st_aload_n (pc' := 120) dX12_paging_119 rfl rfl (j := 1) rfl ?_
            refine st_ldc2 (pc' := 123) (z := 6449511) dX12_paging_120 rfl q_X12_319 (by decide) ?_
            refine st_callV (pc' := 126) (kc := k - 1) (E' := LAY) (cal := m_X12_isWord) (n := 1) (as := [vL 6449511]) (S := []) dX12_paging_123 rfl l_X12_385 k_X12_isWord rfl L_74 c_X12 rfl rfl (Nat.le_of_ble_eq_true rfl) (by omega) ⟨Nat.le_refl _, Nat.le_refl _, Nat.le_refl _, Nat.le_refl _⟩ (Q1 := fun r M' => WP k LAY m_X12_paging 126 [(1, vI ((14 * (gi I34 74 40)) + (gi I34 77 (gi I34 74 40).toNat))), (0, vR (some 74))] (r.toList ++ []) M' Q) (S_X12_isWord (by omega) (by decide) ?_) (fun r M' q => q)
            change WP _ LAY m_X12_paging 126 [(1, vI ((14 * (gi I34 74 40)) + (gi I34 77 (gi I34 74 40).toNat))), (0, vR (some 74))] [vI (b2i (gi (si (si (si I52 79 (((14 * (gi I34 74 40)) + (gi I34 77 (gi I34 74 40).toNat)) : Int).toNat v51) 80 (((14 * (gi I34 74 40)) + (gi I34 77 (gi I34 74 40).toNat)) : Int).toNat 0) 81 (((14 * (gi I34 74 40)) + (gi I34 77 (gi I34 74 40).toNat)) : Int).toNat 0) 74 3 = 1 ∧ gl J53 74 7 = 6449511))] (mem (P, some 5, some 22) (si (si (si I52 79 (((14 * (gi I34 74 40)) + (gi I34 77 (gi I34 74 40).toNat)) : Int).toNat v51) 80 (((14 * (gi I34 74 40)) + (gi I34 77 (gi I34 74 40).toNat)) : Int).toNat 0) 81 (((14 * (gi I34 74 40)) + (gi I34 77 (gi I34 74 40).toNat)) : Int).toNat 0) J53) Q
            refine st_if_eq (tg := 140) (pc' := 129) dX12_paging_126 (by decide) rfl (b2i_in _) (fun c => ?_) (fun c => ?_)
            · replace h := h.1 (b2i_f.mp c)
              refine st_aload_n (pc' := 141) dX12_paging_140 rfl rfl (j := 1) rfl ?_
              refine G_X12_57_74 dX12_paging_141 (pc' := 144) rfl rfl ?_
              refine st_aload_n (pc' := 145) dX12_paging_144 rfl rfl (j := 1) rfl ?_
              refine G_X12_133_74 dX12_paging_145 (pc' := 148) rfl rfl ?_
              rw [show gi (si (si (si I52 79 (((14 * (gi I34 74 40)) + (gi I34 77 (gi I34 74 40).toNat)) : Int).toNat v51) 80 (((14 * (gi I34 74 40)) + (gi I34 77 (gi I34 74 40).toNat)) : Int).toNat 0) 81 (((14 * (gi I34 74 40)) + (gi I34 77 (gi I34 74 40).toNat)) : Int).toNat 0) 74 40 = (gi I52 74 40) from ((gi_cell _ _ _ _ (by decide)).trans ((gi_cell _ _ _ _ (by decide)).trans (gi_cell _ _ _ _ (by decide))))]
              refine st_dup2 (pc' := 149) dX12_paging_148 rfl rfl rfl ?_
              obtain ⟨e59, h⟩ := h
              refine st_iaload (pc' := 150) (v := (gi I52 77 (gi I52 74 40).toNat)) dX12_paging_149 rfl L_77 (by decide) e59 (show gi (si (si (si I52 79 (((14 * (gi I34 74 40)) + (gi I34 77 (gi I34 74 40).toNat)) : Int).toNat v51) 80 (((14 * (gi I34 74 40)) + (gi I34 77 (gi I34 74 40).toNat)) : Int).toNat 0) 81 (((14 * (gi I34 74 40)) + (gi I34 77 (gi I34 74 40).toNat)) : Int).toNat 0) 77 (gi I52 74 40).toNat = (gi I52 77 (gi I52 74 40).toNat) from ((gi_cell _ _ _ _ (by decide)).trans ((gi_cell _ _ _ _ (by decide)).trans (gi_cell _ _ _ _ (by decide))))) ?_
              refine st_iconst (pc' := 151) dX12_paging_150 rfl ?_
              refine st_iadd (pc' := 152) dX12_paging_151 rfl ?_
              refine st_iastore (pc' := 153) (M' := (mem (P, some 5, some 22) (si (si (si (si I52 79 (((14 * (gi I34 74 40)) + (gi I34 77 (gi I34 74 40).toNat)) : Int).toNat v51) 80 (((14 * (gi I34 74 40)) + (gi I34 77 (gi I34 74 40).toNat)) : Int).toNat 0) 81 (((14 * (gi I34 74 40)) + (gi I34 77 (gi I34 74 40).toNat)) : Int).toNat 0) 77 (gi I52 74 40).toNat ((gi I52 77 (gi I52 74 40).toNat) + 1)) J53)) dX12_paging_152 rfl L_77 (by decide) e59 rfl ?_
              exact st_vret dX12_paging_153 rfl rfl h
            · replace h := h.2 (b2i_t.mp c)
              refine st_aload_n (pc' := 130) dX12_paging_129 rfl rfl (j := 1) rfl ?_
              refine G_X12_66_74 dX12_paging_130 (pc' := 133) rfl rfl ?_
              refine st_iload_n (pc' := 134) dX12_paging_133 rfl rfl (j := 0) rfl ?_
              refine st_iconst (pc' := 135) dX12_paging_134 rfl ?_
              refine st_iastore (pc' := 136) (M' := (mem (P, some 5, some 22) (si (si (si (si I52 79 (((14 * (gi I34 74 40)) + (gi I34 77 (gi I34 74 40).toNat)) : Int).toNat v51) 80 (((14 * (gi I34 74 40)) + (gi I34 77 (gi I34 74 40).toNat)) : Int).toNat 0) 81 (((14 * (gi I34 74 40)) + (gi I34 77 (gi I34 74 40).toNat)) : Int).toNat 0) 80 (((14 * (gi I34 74 40)) + (gi I34 77 (gi I34 74 40).toNat)) : Int).toNat 1) J53)) dX12_paging_135 rfl L_80 (by decide) e41 rfl ?_
              refine st_aload_n (pc' := 137) dX12_paging_136 rfl rfl (j := 1) rfl ?_
              refine st_callV (pc' := 140) (kc := k - 1) (E' := LAY) (cal := m_X12_ahead) (n := 0) (as := []) (S := []) dX12_paging_137 rfl l_X12_308 k_X12_ahead rfl L_74 c_X12 rfl rfl (Nat.le_of_ble_eq_true rfl) (by omega) ⟨Nat.le_refl _, Nat.le_refl _, Nat.le_refl _, Nat.le_refl _⟩ h (fun r M' q => ?_)
              obtain ⟨I61, J62, rfl, rfl, h⟩ := q
              change WP _ LAY m_X12_paging 140 [(1, vI ((14 * (gi I34 74 40)) + (gi I34 77 (gi I34 74 40).toNat))), (0, vR (some 74))] [] (mem (P, some 5, some 22) I61 J62) Q
              refine st_aload_n (pc' := 141) dX12_paging_140 rfl rfl (j := 1) rfl ?_
              refine G_X12_57_74 dX12_paging_141 (pc' := 144) rfl rfl ?_
              refine st_aload_n (pc' := 145) dX12_paging_144 rfl rfl (j := 1) rfl ?_
              refine G_X12_133_74 dX12_paging_145 (pc' := 148) rfl rfl ?_
              refine st_dup2 (pc' := 149) dX12_paging_148 rfl rfl rfl ?_
              obtain ⟨e63, h⟩ := h
              refine st_iaload (pc' := 150) (v := (gi I61 77 (gi I61 74 40).toNat)) dX12_paging_149 rfl L_77 (by decide) e63 (show gi I61 77 (gi I61 74 40).toNat = (gi I61 77 (gi I61 74 40).toNat) from rfl) ?_
              refine st_iconst (pc' := 151) dX12_paging_150 rfl ?_
              refine st_iadd (pc' := 152) dX12_paging_151 rfl ?_
              refine st_iastore (pc' := 153) (M' := (mem (P, some 5, some 22) (si I61 77 (gi I61 74 40).toNat ((gi I61 77 (gi I61 74 40).toNat) + 1)) J62)) dX12_paging_152 rfl L_77 (by decide) e63 rfl ?_
              exact st_vret dX12_paging_153 rfl rfl h
          · replace h := h.2 c
            exact st_vret dX12_paging_118 rfl rfl h
    · replace h := h.2 c
      exact st_vret dX12_paging_26 rfl rfl h
set_option maxRecDepth 20000 in
set_option maxHeartbeats 4000000 in
theorem B_X12_needing_0 {k : Nat} {P : Option Nat} {I : Nat → Nat → Int32} {J : Nat → Nat → Int64}  {Q : Option AV → Mem → Prop} (hk : 1 ≤ k) (h : (0 ≤ (gi I 74 40) ∧ (gi I 74 40) < 2) ∧ ((¬ (gi I 82 (gi I 74 40).toNat) = 20 → (WPm (k - 1) LAY m_X12_counts [vR (some 74), vI 0] (mem (P, some 5, some 22) I J) (retI (fun v2 I3 J4 => inR v2 ∧ ((¬ v2 = 0 → (WPm (k - 1) LAY m_X12_asked [vR (some 74), vI 1] (mem (P, some 5, some 22) I3 J4) (retI (fun v6 I7 J8 => WPm (k - 1) LAY m_X12_looked [vR (some 74), vI 1] (mem (P, some 5, some 22) I7 J8) (retI (fun v9 I10 J11 => (¬ (gi I10 74 8) = 0 → (((gi I10 74 8) ≤ 0 → (WPm (k - 1) LAY m_X12_ahead [vR (some 74)] (mem (P, some 5, some 22) I10 J11) (retV (fun I13 J14 => (0 ≤ ((14 * (gi I13 74 40)) + v6) ∧ ((14 * (gi I13 74 40)) + v6) < 28) ∧ ((0 ≤ (gi I13 74 40) ∧ (gi I13 74 40) < 2) ∧ (Q none (mem (P, some 5, some 22) (si (si I13 81 (((14 * (gi I13 74 40)) + v6) : Int).toNat (or32 (gi I13 81 (((14 * (gi I13 74 40)) + v6) : Int).toNat) (shl32 1 v9))) 82 (gi I13 74 40).toNat ((gi I13 82 (gi I13 74 40).toNat) + 1)) J14)))) (P, some 5, some 22)))) ∧ (¬ (gi I10 74 8) ≤ 0 → (Q none (mem (P, some 5, some 22) I10 J11))))) ∧ ((gi I10 74 8) = 0 → (inR v9 ∧ (inR v6 ∧ ((v6 ≤ v9 → (((gi I10 74 8) ≤ 0 → (Q none (mem (P, some 5, some 22) (si (si I10 74 8 3) 74 9 (gi I10 74 4)) J11))) ∧ (¬ (gi I10 74 8) ≤ 0 → (((gi I10 74 8) ≤ 0 → (WPm (k - 1) LAY m_X12_ahead [vR (some 74)] (mem (P, some 5, some 22) I10 J11) (retV (fun I20 J21 => (0 ≤ ((14 * (gi I20 74 40)) + v6) ∧ ((14 * (gi I20 74 40)) + v6) < 28) ∧ ((0 ≤ (gi I20 74 40) ∧ (gi I20 74 40) < 2) ∧ (Q none (mem (P, some 5, some 22) (si (si I20 81 (((14 * (gi I20 74 40)) + v6) : Int).toNat (or32 (gi I20 81 (((14 * (gi I20 74 40)) + v6) : Int).toNat) (shl32 1 v9))) 82 (gi I20 74 40).toNat ((gi I20 82 (gi I20 74 40).toNat) + 1)) J21)))) (P, some 5, some 22)))) ∧ (¬ (gi I10 74 8) ≤ 0 → (Q none (mem (P, some 5, some 22) I10 J11))))))) ∧ (¬ v6 ≤ v9 → ((0 ≤ ((14 * (gi I10 74 40)) + v6) ∧ ((14 * (gi I10 74 40)) + v6) < 28) ∧ ((¬ (and32 (shr32 (gi I10 81 (((14 * (gi I10 74 40)) + v6) : Int).toNat) v9) 1) = 1 → (((gi I10 74 8) ≤ 0 → (WPm (k - 1) LAY m_X12_ahead [vR (some 74)] (mem (P, some 5, some 22) I10 J11) (retV (fun I26 J27 => (0 ≤ ((14 * (gi I26 74 40)) + v6) ∧ ((14 * (gi I26 74 40)) + v6) < 28) ∧ ((0 ≤ (gi I26 74 40) ∧ (gi I26 74 40) < 2) ∧ (Q none (mem (P, some 5, some 22) (si (si I26 81 (((14 * (gi I26 74 40)) + v6) : Int).toNat (or32 (gi I26 81 (((14 * (gi I26 74 40)) + v6) : Int).toNat) (shl32 1 v9))) 82 (gi I26 74 40).toNat ((gi I26 82 (gi I26 74 40).toNat) + 1)) J27)))) (P, some 5, some 22)))) ∧ (¬ (gi I10 74 8) ≤ 0 → (Q none (mem (P, some 5, some 22) I10 J11))))) ∧ ((and32 (shr32 (gi I10 81 (((14 * (gi I10 74 40)) + v6) : Int).toNat) v9) 1) = 1 → (((gi I10 74 8) ≤ 0 → (Q none (mem (P, some 5, some 22) (si (si I10 74 8 3) 74 9 (gi I10 74 4)) J11))) ∧ (¬ (gi I10 74 8) ≤ 0 → (((gi I10 74 8) ≤ 0 → (WPm (k - 1) LAY m_X12_ahead [vR (some 74)] (mem (P, some 5, some 22) I10 J11) (retV (fun I31 J32 => (0 ≤ ((14 * (gi I31 74 40)) + v6) ∧ ((14 * (gi I31 74 40)) + v6) < 28) ∧ ((0 ≤ (gi I31 74 40) ∧ (gi I31 74 40) < 2) ∧ (Q none (mem (P, some 5, some 22) (si (si I31 81 (((14 * (gi I31 74 40)) + v6) : Int).toNat (or32 (gi I31 81 (((14 * (gi I31 74 40)) + v6) : Int).toNat) (shl32 1 v9))) 82 (gi I31 74 40).toNat ((gi I31 82 (gi I31 74 40).toNat) + 1)) J32)))) (P, some 5, some 22)))) ∧ (¬ (gi I10 74 8) ≤ 0 → (Q none (mem (P, some 5, some 22) I10 J11))))))))))))))) (P, some 5, some 22))) (P, some 5, some 22)))) ∧ (v2 = 0 → (Q none (mem (P, some 5, some 22) I3 J4))))) (P, some 5, some 22)))) ∧ ((gi I 82 (gi I 74 40).toNat) = 20 → (WPm (k - 1) LAY m_X12_counts [vR (some 74), vI 1] (mem (P, some 5, some 22) I J) (retI (fun v35 I36 J37 => inR v35 ∧ ((¬ v35 = 0 → (WPm (k - 1) LAY m_X12_asked [vR (some 74), vI 1] (mem (P, some 5, some 22) I36 J37) (retI (fun v39 I40 J41 => WPm (k - 1) LAY m_X12_looked [vR (some 74), vI 1] (mem (P, some 5, some 22) I40 J41) (retI (fun v42 I43 J44 => (¬ (gi I43 74 8) = 0 → (((gi I43 74 8) ≤ 0 → (WPm (k - 1) LAY m_X12_ahead [vR (some 74)] (mem (P, some 5, some 22) I43 J44) (retV (fun I46 J47 => (0 ≤ ((14 * (gi I46 74 40)) + v39) ∧ ((14 * (gi I46 74 40)) + v39) < 28) ∧ ((0 ≤ (gi I46 74 40) ∧ (gi I46 74 40) < 2) ∧ (Q none (mem (P, some 5, some 22) (si (si I46 81 (((14 * (gi I46 74 40)) + v39) : Int).toNat (or32 (gi I46 81 (((14 * (gi I46 74 40)) + v39) : Int).toNat) (shl32 1 v42))) 82 (gi I46 74 40).toNat ((gi I46 82 (gi I46 74 40).toNat) + 1)) J47)))) (P, some 5, some 22)))) ∧ (¬ (gi I43 74 8) ≤ 0 → (Q none (mem (P, some 5, some 22) I43 J44))))) ∧ ((gi I43 74 8) = 0 → (inR v42 ∧ (inR v39 ∧ ((v39 ≤ v42 → (((gi I43 74 8) ≤ 0 → (Q none (mem (P, some 5, some 22) (si (si I43 74 8 3) 74 9 (gi I43 74 4)) J44))) ∧ (¬ (gi I43 74 8) ≤ 0 → (((gi I43 74 8) ≤ 0 → (WPm (k - 1) LAY m_X12_ahead [vR (some 74)] (mem (P, some 5, some 22) I43 J44) (retV (fun I53 J54 => (0 ≤ ((14 * (gi I53 74 40)) + v39) ∧ ((14 * (gi I53 74 40)) + v39) < 28) ∧ ((0 ≤ (gi I53 74 40) ∧ (gi I53 74 40) < 2) ∧ (Q none (mem (P, some 5, some 22) (si (si I53 81 (((14 * (gi I53 74 40)) + v39) : Int).toNat (or32 (gi I53 81 (((14 * (gi I53 74 40)) + v39) : Int).toNat) (shl32 1 v42))) 82 (gi I53 74 40).toNat ((gi I53 82 (gi I53 74 40).toNat) + 1)) J54)))) (P, some 5, some 22)))) ∧ (¬ (gi I43 74 8) ≤ 0 → (Q none (mem (P, some 5, some 22) I43 J44))))))) ∧ (¬ v39 ≤ v42 → ((0 ≤ ((14 * (gi I43 74 40)) + v39) ∧ ((14 * (gi I43 74 40)) + v39) < 28) ∧ ((¬ (and32 (shr32 (gi I43 81 (((14 * (gi I43 74 40)) + v39) : Int).toNat) v42) 1) = 1 → (((gi I43 74 8) ≤ 0 → (WPm (k - 1) LAY m_X12_ahead [vR (some 74)] (mem (P, some 5, some 22) I43 J44) (retV (fun I59 J60 => (0 ≤ ((14 * (gi I59 74 40)) + v39) ∧ ((14 * (gi I59 74 40)) + v39) < 28) ∧ ((0 ≤ (gi I59 74 40) ∧ (gi I59 74 40) < 2) ∧ (Q none (mem (P, some 5, some 22) (si (si I59 81 (((14 * (gi I59 74 40)) + v39) : Int).toNat (or32 (gi I59 81 (((14 * (gi I59 74 40)) + v39) : Int).toNat) (shl32 1 v42))) 82 (gi I59 74 40).toNat ((gi I59 82 (gi I59 74 40).toNat) + 1)) J60)))) (P, some 5, some 22)))) ∧ (¬ (gi I43 74 8) ≤ 0 → (Q none (mem (P, some 5, some 22) I43 J44))))) ∧ ((and32 (shr32 (gi I43 81 (((14 * (gi I43 74 40)) + v39) : Int).toNat) v42) 1) = 1 → (((gi I43 74 8) ≤ 0 → (Q none (mem (P, some 5, some 22) (si (si I43 74 8 3) 74 9 (gi I43 74 4)) J44))) ∧ (¬ (gi I43 74 8) ≤ 0 → (((gi I43 74 8) ≤ 0 → (WPm (k - 1) LAY m_X12_ahead [vR (some 74)] (mem (P, some 5, some 22) I43 J44) (retV (fun I64 J65 => (0 ≤ ((14 * (gi I64 74 40)) + v39) ∧ ((14 * (gi I64 74 40)) + v39) < 28) ∧ ((0 ≤ (gi I64 74 40) ∧ (gi I64 74 40) < 2) ∧ (Q none (mem (P, some 5, some 22) (si (si I64 81 (((14 * (gi I64 74 40)) + v39) : Int).toNat (or32 (gi I64 81 (((14 * (gi I64 74 40)) + v39) : Int).toNat) (shl32 1 v42))) 82 (gi I64 74 40).toNat ((gi I64 82 (gi I64 74 40).toNat) + 1)) J65)))) (P, some 5, some 22)))) ∧ (¬ (gi I43 74 8) ≤ 0 → (Q none (mem (P, some 5, some 22) I43 J44))))))))))))))) (P, some 5, some 22))) (P, some 5, some 22)))) ∧ (v35 = 0 → (Q none (mem (P, some 5, some 22) I36 J37))))) (P, some 5, some 22)))))) : WP k LAY m_X12_needing 0 [(0, vR (some 74))] [] (mem (P, some 5, some 22) I J) Q := by
  refine st_aload_n (pc' := 1) dX12_needing_0 rfl rfl (j := 0) rfl ?_
  refine st_aload_n (pc' := 2) dX12_needing_1 rfl rfl (j := 0) rfl ?_
  refine G_X12_72_74 dX12_needing_2 (pc' := 5) rfl rfl ?_
  refine st_aload_n (pc' := 6) dX12_needing_5 rfl rfl (j := 0) rfl ?_
  refine G_X12_133_74 dX12_needing_6 (pc' := 9) rfl rfl ?_
  obtain ⟨e1, h⟩ := h
  refine st_iaload (pc' := 10) (v := (gi I 82 (gi I 74 40).toNat)) dX12_needing_9 rfl L_82 (by decide) e1 (show gi I 82 (gi I 74 40).toNat = (gi I 82 (gi I 74 40).toNat) from rfl) ?_
  refine st_bipush (pc' := 12) dX12_needing_10 rfl (by decide) ?_
  refine st_icmp_ne (tg := 19) (pc' := 15) dX12_needing_12 (by decide) rfl (gi_in _ _ _) (by decide) (fun c => ?_) (fun c => ?_)
  · replace h := h.1 c
    refine st_iconst (pc' := 20) dX12_needing_19 rfl ?_
    refine st_callV (pc' := 23) (kc := k - 1) (E' := LAY) (cal := m_X12_counts) (n := 1) (as := [vI 0]) (S := []) dX12_needing_20 rfl l_X12_410 k_X12_counts rfl L_74 c_X12 rfl rfl (Nat.le_of_ble_eq_true rfl) (by omega) ⟨Nat.le_refl _, Nat.le_refl _, Nat.le_refl _, Nat.le_refl _⟩ h (fun r M' q => ?_)
    obtain ⟨v2, I3, J4, rfl, rfl, h⟩ := q
    change WP _ LAY m_X12_needing 23 [(0, vR (some 74))] [vI v2] (mem (P, some 5, some 22) I3 J4) Q
    obtain ⟨e5, h⟩ := h
    refine st_if_ne (tg := 27) (pc' := 26) dX12_needing_23 (by decide) rfl e5 (fun c => ?_) (fun c => ?_)
    · replace h := h.1 c
      refine st_aload_n (pc' := 28) dX12_needing_27 rfl rfl (j := 0) rfl ?_
      refine st_iconst (pc' := 29) dX12_needing_28 rfl ?_
      refine st_callV (pc' := 32) (kc := k - 1) (E' := LAY) (cal := m_X12_asked) (n := 1) (as := [vI 1]) (S := []) dX12_needing_29 rfl l_X12_422 k_X12_asked rfl L_74 c_X12 rfl rfl (Nat.le_of_ble_eq_true rfl) (by omega) ⟨Nat.le_refl _, Nat.le_refl _, Nat.le_refl _, Nat.le_refl _⟩ h (fun r M' q => ?_)
      obtain ⟨v6, I7, J8, rfl, rfl, h⟩ := q
      change WP _ LAY m_X12_needing 32 [(0, vR (some 74))] [vI v6] (mem (P, some 5, some 22) I7 J8) Q
      refine st_istore_n (pc' := 33) (L' := [(1, vI v6), (0, vR (some 74))]) dX12_needing_32 rfl rfl (by decide) rfl ?_
      refine st_aload_n (pc' := 34) dX12_needing_33 rfl rfl (j := 1) rfl ?_
      refine st_iconst (pc' := 35) dX12_needing_34 rfl ?_
      refine st_callV (pc' := 38) (kc := k - 1) (E' := LAY) (cal := m_X12_looked) (n := 1) (as := [vI 1]) (S := []) dX12_needing_35 rfl l_X12_407 k_X12_looked rfl L_74 c_X12 rfl rfl (Nat.le_of_ble_eq_true rfl) (by omega) ⟨Nat.le_refl _, Nat.le_refl _, Nat.le_refl _, Nat.le_refl _⟩ h (fun r M' q => ?_)
      obtain ⟨v9, I10, J11, rfl, rfl, h⟩ := q
      change WP _ LAY m_X12_needing 38 [(1, vI v6), (0, vR (some 74))] [vI v9] (mem (P, some 5, some 22) I10 J11) Q
      refine st_istore_n (pc' := 39) (L' := [(2, vI v9), (1, vI v6), (0, vR (some 74))]) dX12_needing_38 rfl rfl (by decide) rfl ?_
      refine st_aload_n (pc' := 40) dX12_needing_39 rfl rfl (j := 2) rfl ?_
      refine G_X12_36_74 dX12_needing_40 (pc' := 43) rfl rfl ?_
      refine st_if_ne (tg := 82) (pc' := 46) dX12_needing_43 (by decide) rfl (gi_in _ _ _) (fun c => ?_) (fun c => ?_)
      · replace h := h.1 c
        refine st_aload_n (pc' := 83) dX12_needing_82 rfl rfl (j := 2) rfl ?_
        refine G_X12_36_74 dX12_needing_83 (pc' := 86) rfl rfl ?_
        refine st_if_le (tg := 90) (pc' := 89) dX12_needing_86 (by decide) rfl (gi_in _ _ _) (fun c => ?_) (fun c => ?_)
        · replace h := h.1 c
          refine st_aload_n (pc' := 91) dX12_needing_90 rfl rfl (j := 2) rfl ?_
          refine st_callV (pc' := 94) (kc := k - 1) (E' := LAY) (cal := m_X12_ahead) (n := 0) (as := []) (S := []) dX12_needing_91 rfl l_X12_308 k_X12_ahead rfl L_74 c_X12 rfl rfl (Nat.le_of_ble_eq_true rfl) (by omega) ⟨Nat.le_refl _, Nat.le_refl _, Nat.le_refl _, Nat.le_refl _⟩ h (fun r M' q => ?_)
          obtain ⟨I13, J14, rfl, rfl, h⟩ := q
          change WP _ LAY m_X12_needing 94 [(2, vI v9), (1, vI v6), (0, vR (some 74))] [] (mem (P, some 5, some 22) I13 J14) Q
          refine st_aload_n (pc' := 95) dX12_needing_94 rfl rfl (j := 2) rfl ?_
          refine G_X12_69_74 dX12_needing_95 (pc' := 98) rfl rfl ?_
          refine st_bipush (pc' := 100) dX12_needing_98 rfl (by decide) ?_
          refine st_aload_n (pc' := 101) dX12_needing_100 rfl rfl (j := 2) rfl ?_
          refine G_X12_133_74 dX12_needing_101 (pc' := 104) rfl rfl ?_
          refine st_imul (pc' := 105) dX12_needing_104 rfl ?_
          refine st_iload_n (pc' := 106) dX12_needing_105 rfl rfl (j := 1) rfl ?_
          refine st_iadd (pc' := 107) dX12_needing_106 rfl ?_
          refine st_dup2 (pc' := 108) dX12_needing_107 rfl rfl rfl ?_
          obtain ⟨e15, h⟩ := h
          refine st_iaload (pc' := 109) (v := (gi I13 81 (((14 * (gi I13 74 40)) + v6) : Int).toNat)) dX12_needing_108 rfl L_81 (by decide) e15 (show gi I13 81 (((14 * (gi I13 74 40)) + v6) : Int).toNat = (gi I13 81 (((14 * (gi I13 74 40)) + v6) : Int).toNat) from rfl) ?_
          refine st_iconst (pc' := 110) dX12_needing_109 rfl ?_
          refine st_iload_n (pc' := 111) dX12_needing_110 rfl rfl (j := 0) rfl ?_
          refine st_ishl (pc' := 112) (z := (shl32 1 v9)) dX12_needing_111 rfl rfl ?_
          refine st_ior (pc' := 113) (z := (or32 (gi I13 81 (((14 * (gi I13 74 40)) + v6) : Int).toNat) (shl32 1 v9))) dX12_needing_112 rfl rfl ?_
          refine st_iastore (pc' := 114) (M' := (mem (P, some 5, some 22) (si I13 81 (((14 * (gi I13 74 40)) + v6) : Int).toNat (or32 (gi I13 81 (((14 * (gi I13 74 40)) + v6) : Int).toNat) (shl32 1 v9))) J14)) dX12_needing_113 rfl L_81 (by decide) e15 rfl ?_
          refine st_aload_n (pc' := 115) dX12_needing_114 rfl rfl (j := 2) rfl ?_
          refine G_X12_72_74 dX12_needing_115 (pc' := 118) rfl rfl ?_
          refine st_aload_n (pc' := 119) dX12_needing_118 rfl rfl (j := 2) rfl ?_
          refine G_X12_133_74 dX12_needing_119 (pc' := 122) rfl rfl ?_
          rw [show gi (si I13 81 (((14 * (gi I13 74 40)) + v6) : Int).toNat (or32 (gi I13 81 (((14 * (gi I13 74 40)) + v6) : Int).toNat) (shl32 1 v9))) 74 40 = (gi I13 74 40) from (gi_cell _ _ _ _ (by decide))]
          refine st_dup2 (pc' := 123) dX12_needing_122 rfl rfl rfl ?_
          obtain ⟨e16, h⟩ := h
          refine st_iaload (pc' := 124) (v := (gi I13 82 (gi I13 74 40).toNat)) dX12_needing_123 rfl L_82 (by decide) e16 (show gi (si I13 81 (((14 * (gi I13 74 40)) + v6) : Int).toNat (or32 (gi I13 81 (((14 * (gi I13 74 40)) + v6) : Int).toNat) (shl32 1 v9))) 82 (gi I13 74 40).toNat = (gi I13 82 (gi I13 74 40).toNat) from (gi_cell _ _ _ _ (by decide))) ?_
          refine st_iconst (pc' := 125) dX12_needing_124 rfl ?_
          refine st_iadd (pc' := 126) dX12_needing_125 rfl ?_
          refine st_iastore (pc' := 127) (M' := (mem (P, some 5, some 22) (si (si I13 81 (((14 * (gi I13 74 40)) + v6) : Int).toNat (or32 (gi I13 81 (((14 * (gi I13 74 40)) + v6) : Int).toNat) (shl32 1 v9))) 82 (gi I13 74 40).toNat ((gi I13 82 (gi I13 74 40).toNat) + 1)) J14)) dX12_needing_126 rfl L_82 (by decide) e16 rfl ?_
          exact st_vret dX12_needing_127 rfl rfl h
        · replace h := h.2 c
          exact st_vret dX12_needing_89 rfl rfl h
      · replace h := h.2 c
        refine st_iload_n (pc' := 47) dX12_needing_46 rfl rfl (j := 0) rfl ?_
        refine st_iload_n (pc' := 48) dX12_needing_47 rfl rfl (j := 1) rfl ?_
        obtain ⟨e17, h⟩ := h
        obtain ⟨e18, h⟩ := h
        refine st_icmp_ge (tg := 73) (pc' := 51) dX12_needing_48 (by decide) rfl e17 e18 (fun c => ?_) (fun c => ?_)
        · replace h := h.1 c
          refine st_aload_n (pc' := 74) dX12_needing_73 rfl rfl (j := 2) rfl ?_
          refine st_iconst (pc' := 75) dX12_needing_74 rfl ?_
          refine st_aload_n (pc' := 76) dX12_needing_75 rfl rfl (j := 2) rfl ?_
          refine G_X12_23_74 dX12_needing_76 (pc' := 79) rfl rfl ?_
          refine st_callV (pc' := 82) (kc := k - 1) (E' := LAY) (cal := m_X12_blame) (n := 2) (as := [vI 3, vI (gi I10 74 4)]) (S := []) dX12_needing_79 rfl l_X12_287 k_X12_blame rfl L_74 c_X12 rfl rfl (Nat.le_of_ble_eq_true rfl) (by omega) ⟨Nat.le_refl _, Nat.le_refl _, Nat.le_refl _, Nat.le_refl _⟩ (Q1 := fun r M' => WP k LAY m_X12_needing 82 [(2, vI v9), (1, vI v6), (0, vR (some 74))] (r.toList ++ []) M' Q) (WPm.of k_X12_blame.1 (Nat.le_of_ble_eq_true rfl) (B_X12_blame_0 (by omega) ?_)) (fun r M' q => q)
          refine ⟨fun c => ?_, fun c => ?_⟩
          · replace h := h.1 c
            change WP _ LAY m_X12_needing 82 [(2, vI v9), (1, vI v6), (0, vR (some 74))] [] (mem (P, some 5, some 22) (si (si I10 74 8 3) 74 9 (gi I10 74 4)) J11) Q
            refine st_aload_n (pc' := 83) dX12_needing_82 rfl rfl (j := 2) rfl ?_
            refine G_X12_36_74 dX12_needing_83 (pc' := 86) rfl rfl ?_
            rw [show gi (si (si I10 74 8 3) 74 9 (gi I10 74 4)) 74 8 = 3 from ((gi_idx _ _ _ (by decide)).trans (gi_same _ _ _ (by decide)))]
            refine st_if_le (tg := 90) (pc' := 89) dX12_needing_86 (by decide) rfl (by decide) (fun c => ?_) (fun c => ?_)
            · exact absurd c (by decide)
            · exact st_vret dX12_needing_89 rfl rfl h
          · replace h := h.2 c
            change WP _ LAY m_X12_needing 82 [(2, vI v9), (1, vI v6), (0, vR (some 74))] [] (mem (P, some 5, some 22) I10 J11) Q
            refine st_aload_n (pc' := 83) dX12_needing_82 rfl rfl (j := 2) rfl ?_
            refine G_X12_36_74 dX12_needing_83 (pc' := 86) rfl rfl ?_
            refine st_if_le (tg := 90) (pc' := 89) dX12_needing_86 (by decide) rfl (gi_in _ _ _) (fun c => ?_) (fun c => ?_)
            · replace h := h.1 c
              refine st_aload_n (pc' := 91) dX12_needing_90 rfl rfl (j := 2) rfl ?_
              refine st_callV (pc' := 94) (kc := k - 1) (E' := LAY) (cal := m_X12_ahead) (n := 0) (as := []) (S := []) dX12_needing_91 rfl l_X12_308 k_X12_ahead rfl L_74 c_X12 rfl rfl (Nat.le_of_ble_eq_true rfl) (by omega) ⟨Nat.le_refl _, Nat.le_refl _, Nat.le_refl _, Nat.le_refl _⟩ h (fun r M' q => ?_)
              obtain ⟨I20, J21, rfl, rfl, h⟩ := q
              change WP _ LAY m_X12_needing 94 [(2, vI v9), (1, vI v6), (0, vR (some 74))] [] (mem (P, some 5, some 22) I20 J21) Q
              refine st_aload_n (pc' := 95) dX12_needing_94 rfl rfl (j := 2) rfl ?_
              refine G_X12_69_74 dX12_needing_95 (pc' := 98) rfl rfl ?_
              refine st_bipush (pc' := 100) dX12_needing_98 rfl (by decide) ?_
              refine st_aload_n (pc' := 101) dX12_needing_100 rfl rfl (j := 2) rfl ?_
              refine G_X12_133_74 dX12_needing_101 (pc' := 104) rfl rfl ?_
              refine st_imul (pc' := 105) dX12_needing_104 rfl ?_
              refine st_iload_n (pc' := 106) dX12_needing_105 rfl rfl (j := 1) rfl ?_
              refine st_iadd (pc' := 107) dX12_needing_106 rfl ?_
              refine st_dup2 (pc' := 108) dX12_needing_107 rfl rfl rfl ?_
              obtain ⟨e22, h⟩ := h
              refine st_iaload (pc' := 109) (v := (gi I20 81 (((14 * (gi I20 74 40)) + v6) : Int).toNat)) dX12_needing_108 rfl L_81 (by decide) e22 (show gi I20 81 (((14 * (gi I20 74 40)) + v6) : Int).toNat = (gi I20 81 (((14 * (gi I20 74 40)) + v6) : Int).toNat) from rfl) ?_
              refine st_iconst (pc' := 110) dX12_needing_109 rfl ?_
              refine st_iload_n (pc' := 111) dX12_needing_110 rfl rfl (j := 0) rfl ?_
              refine st_ishl (pc' := 112) (z := (shl32 1 v9)) dX12_needing_111 rfl rfl ?_
              refine st_ior (pc' := 113) (z := (or32 (gi I20 81 (((14 * (gi I20 74 40)) + v6) : Int).toNat) (shl32 1 v9))) dX12_needing_112 rfl rfl ?_
              refine st_iastore (pc' := 114) (M' := (mem (P, some 5, some 22) (si I20 81 (((14 * (gi I20 74 40)) + v6) : Int).toNat (or32 (gi I20 81 (((14 * (gi I20 74 40)) + v6) : Int).toNat) (shl32 1 v9))) J21)) dX12_needing_113 rfl L_81 (by decide) e22 rfl ?_
              refine st_aload_n (pc' := 115) dX12_needing_114 rfl rfl (j := 2) rfl ?_
              refine G_X12_72_74 dX12_needing_115 (pc' := 118) rfl rfl ?_
              refine st_aload_n (pc' := 119) dX12_needing_118 rfl rfl (j := 2) rfl ?_
              refine G_X12_133_74 dX12_needing_119 (pc' := 122) rfl rfl ?_
              rw [show gi (si I20 81 (((14 * (gi I20 74 40)) + v6) : Int).toNat (or32 (gi I20 81 (((14 * (gi I20 74 40)) + v6) : Int).toNat) (shl32 1 v9))) 74 40 = (gi I20 74 40) from (gi_cell _ _ _ _ (by decide))]
              refine st_dup2 (pc' := 123) dX12_needing_122 rfl rfl rfl ?_
              obtain ⟨e23, h⟩ := h
              refine st_iaload (pc' := 124) (v := (gi I20 82 (gi I20 74 40).toNat)) dX12_needing_123 rfl L_82 (by decide) e23 (show gi (si I20 81 (((14 * (gi I20 74 40)) + v6) : Int).toNat (or32 (gi I20 81 (((14 * (gi I20 74 40)) + v6) : Int).toNat) (shl32 1 v9))) 82 (gi I20 74 40).toNat = (gi I20 82 (gi I20 74 40).toNat) from (gi_cell _ _ _ _ (by decide))) ?_
              refine st_iconst (pc' := 125) dX12_needing_124 rfl ?_
              refine st_iadd (pc' := 126) dX12_needing_125 rfl ?_
              refine st_iastore (pc' := 127) (M' := (mem (P, some 5, some 22) (si (si I20 81 (((14 * (gi I20 74 40)) + v6) : Int).toNat (or32 (gi I20 81 (((14 * (gi I20 74 40)) + v6) : Int).toNat) (shl32 1 v9))) 82 (gi I20 74 40).toNat ((gi I20 82 (gi I20 74 40).toNat) + 1)) J21)) dX12_needing_126 rfl L_82 (by decide) e23 rfl ?_
              exact st_vret dX12_needing_127 rfl rfl h
            · replace h := h.2 c
              exact st_vret dX12_needing_89 rfl rfl h
        · replace h := h.2 c
          refine st_aload_n (pc' := 52) dX12_needing_51 rfl rfl (j := 2) rfl ?_
          refine G_X12_69_74 dX12_needing_52 (pc' := 55) rfl rfl ?_
          refine st_bipush (pc' := 57) dX12_needing_55 rfl (by decide) ?_
          refine st_aload_n (pc' := 58) dX12_needing_57 rfl rfl (j := 2) rfl ?_
          refine G_X12_133_74 dX12_needing_58 (pc' := 61) rfl rfl ?_
          refine st_imul (pc' := 62) dX12_needing_61 rfl ?_
          refine st_iload_n (pc' := 63) dX12_needing_62 rfl rfl (j := 1) rfl ?_
          refine st_iadd (pc' := 64) dX12_needing_63 rfl ?_
          obtain ⟨e24, h⟩ := h
          refine st_iaload (pc' := 65) (v := (gi I10 81 (((14 * (gi I10 74 40)) + v6) : Int).toNat)) dX12_needing_64 rfl L_81 (by decide) e24 (show gi I10 81 (((14 * (gi I10 74 40)) + v6) : Int).toNat = (gi I10 81 (((14 * (gi I10 74 40)) + v6) : Int).toNat) from rfl) ?_
          refine st_iload_n (pc' := 66) dX12_needing_65 rfl rfl (j := 0) rfl ?_
          refine st_ishr (pc' := 67) (z := (shr32 (gi I10 81 (((14 * (gi I10 74 40)) + v6) : Int).toNat) v9)) dX12_needing_66 rfl rfl ?_
          refine st_iconst (pc' := 68) dX12_needing_67 rfl ?_
          refine st_iand (pc' := 69) (z := (and32 (shr32 (gi I10 81 (((14 * (gi I10 74 40)) + v6) : Int).toNat) v9) 1)) dX12_needing_68 rfl rfl ?_
          refine st_iconst (pc' := 70) dX12_needing_69 rfl ?_
          refine st_icmp_ne (tg := 82) (pc' := 73) dX12_needing_70 (by decide) rfl (and32_in _ _) (by decide) (fun c => ?_) (fun c => ?_)
          · replace h := h.1 c
            refine st_aload_n (pc' := 83) dX12_needing_82 rfl rfl (j := 2) rfl ?_
            refine G_X12_36_74 dX12_needing_83 (pc' := 86) rfl rfl ?_
            refine st_if_le (tg := 90) (pc' := 89) dX12_needing_86 (by decide) rfl (gi_in _ _ _) (fun c => ?_) (fun c => ?_)
            · replace h := h.1 c
              refine st_aload_n (pc' := 91) dX12_needing_90 rfl rfl (j := 2) rfl ?_
              refine st_callV (pc' := 94) (kc := k - 1) (E' := LAY) (cal := m_X12_ahead) (n := 0) (as := []) (S := []) dX12_needing_91 rfl l_X12_308 k_X12_ahead rfl L_74 c_X12 rfl rfl (Nat.le_of_ble_eq_true rfl) (by omega) ⟨Nat.le_refl _, Nat.le_refl _, Nat.le_refl _, Nat.le_refl _⟩ h (fun r M' q => ?_)
              obtain ⟨I26, J27, rfl, rfl, h⟩ := q
              change WP _ LAY m_X12_needing 94 [(2, vI v9), (1, vI v6), (0, vR (some 74))] [] (mem (P, some 5, some 22) I26 J27) Q
              refine st_aload_n (pc' := 95) dX12_needing_94 rfl rfl (j := 2) rfl ?_
              refine G_X12_69_74 dX12_needing_95 (pc' := 98) rfl rfl ?_
              refine st_bipush (pc' := 100) dX12_needing_98 rfl (by decide) ?_
              refine st_aload_n (pc' := 101) dX12_needing_100 rfl rfl (j := 2) rfl ?_
              refine G_X12_133_74 dX12_needing_101 (pc' := 104) rfl rfl ?_
              refine st_imul (pc' := 105) dX12_needing_104 rfl ?_
              refine st_iload_n (pc' := 106) dX12_needing_105 rfl rfl (j := 1) rfl ?_
              refine st_iadd (pc' := 107) dX12_needing_106 rfl ?_
              refine st_dup2 (pc' := 108) dX12_needing_107 rfl rfl rfl ?_
              obtain ⟨e28, h⟩ := h
              refine st_iaload (pc' := 109) (v := (gi I26 81 (((14 * (gi I26 74 40)) + v6) : Int).toNat)) dX12_needing_108 rfl L_81 (by decide) e28 (show gi I26 81 (((14 * (gi I26 74 40)) + v6) : Int).toNat = (gi I26 81 (((14 * (gi I26 74 40)) + v6) : Int).toNat) from rfl) ?_
              refine st_iconst (pc' := 110) dX12_needing_109 rfl ?_
              refine st_iload_n (pc' := 111) dX12_needing_110 rfl rfl (j := 0) rfl ?_
              refine st_ishl (pc' := 112) (z := (shl32 1 v9)) dX12_needing_111 rfl rfl ?_
              refine st_ior (pc' := 113) (z := (or32 (gi I26 81 (((14 * (gi I26 74 40)) + v6) : Int).toNat) (shl32 1 v9))) dX12_needing_112 rfl rfl ?_
              refine st_iastore (pc' := 114) (M' := (mem (P, some 5, some 22) (si I26 81 (((14 * (gi I26 74 40)) + v6) : Int).toNat (or32 (gi I26 81 (((14 * (gi I26 74 40)) + v6) : Int).toNat) (shl32 1 v9))) J27)) dX12_needing_113 rfl L_81 (by decide) e28 rfl ?_
              refine st_aload_n (pc' := 115) dX12_needing_114 rfl rfl (j := 2) rfl ?_
              refine G_X12_72_74 dX12_needing_115 (pc' := 118) rfl rfl ?_
              refine st_aload_n (pc' := 119) dX12_needing_118 rfl rfl (j := 2) rfl ?_
              refine G_X12_133_74 dX12_needing_119 (pc' := 122) rfl rfl ?_
              rw [show gi (si I26 81 (((14 * (gi I26 74 40)) + v6) : Int).toNat (or32 (gi I26 81 (((14 * (gi I26 74 40)) + v6) : Int).toNat) (shl32 1 v9))) 74 40 = (gi I26 74 40) from (gi_cell _ _ _ _ (by decide))]
              refine st_dup2 (pc' := 123) dX12_needing_122 rfl rfl rfl ?_
              obtain ⟨e29, h⟩ := h
              refine st_iaload (pc' := 124) (v := (gi I26 82 (gi I26 74 40).toNat)) dX12_needing_123 rfl L_82 (by decide) e29 (show gi (si I26 81 (((14 * (gi I26 74 40)) + v6) : Int).toNat (or32 (gi I26 81 (((14 * (gi I26 74 40)) + v6) : Int).toNat) (shl32 1 v9))) 82 (gi I26 74 40).toNat = (gi I26 82 (gi I26 74 40).toNat) from (gi_cell _ _ _ _ (by decide))) ?_
              refine st_iconst (pc' := 125) dX12_needing_124 rfl ?_
              refine st_iadd (pc' := 126) dX12_needing_125 rfl ?_
              refine st_iastore (pc' := 127) (M' := (mem (P, some 5, some 22) (si (si I26 81 (((14 * (gi I26 74 40)) + v6) : Int).toNat (or32 (gi I26 81 (((14 * (gi I26 74 40)) + v6) : Int).toNat) (shl32 1 v9))) 82 (gi I26 74 40).toNat ((gi I26 82 (gi I26 74 40).toNat) + 1)) J27)) dX12_needing_126 rfl L_82 (by decide) e29 rfl ?_
              exact st_vret dX12_needing_127 rfl rfl h
            · replace h := h.2 c
              exact st_vret dX12_needing_89 rfl rfl h
          · replace h := h.2 c
            refine st_aload_n (pc' := 74) dX12_needing_73 rfl rfl (j := 2) rfl ?_
            refine st_iconst (pc' := 75) dX12_needing_74 rfl ?_
            refine st_aload_n (pc' := 76) dX12_needing_75 rfl rfl (j := 2) rfl ?_
            refine G_X12_23_74 dX12_needing_76 (pc' := 79) rfl rfl ?_
            refine st_callV (pc' := 82) (kc := k - 1) (E' := LAY) (cal := m_X12_blame) (n := 2) (as := [vI 3, vI (gi I10 74 4)]) (S := []) dX12_needing_79 rfl l_X12_287 k_X12_blame rfl L_74 c_X12 rfl rfl (Nat.le_of_ble_eq_true rfl) (by omega) ⟨Nat.le_refl _, Nat.le_refl _, Nat.le_refl _, Nat.le_refl _⟩ (Q1 := fun r M' => WP k LAY m_X12_needing 82 [(2, vI v9), (1, vI v6), (0, vR (some 74))] (r.toList ++ []) M' Q) (WPm.of k_X12_blame.1 (Nat.le_of_ble_eq_true rfl) (B_X12_blame_0 (by omega) ?_)) (fun r M' q => q)
            refine ⟨fun c => ?_, fun c => ?_⟩
            · replace h := h.1 c
              change WP _ LAY m_X12_needing 82 [(2, vI v9), (1, vI v6), (0, vR (some 74))] [] (mem (P, some 5, some 22) (si (si I10 74 8 3) 74 9 (gi I10 74 4)) J11) Q
              refine st_aload_n (pc' := 83) dX12_needing_82 rfl rfl (j := 2) rfl ?_
              refine G_X12_36_74 dX12_needing_83 (pc' := 86) rfl rfl ?_
              rw [show gi (si (si I10 74 8 3) 74 9 (gi I10 74 4)) 74 8 = 3 from ((gi_idx _ _ _ (by decide)).trans (gi_same _ _ _ (by decide)))]
              refine st_if_le (tg := 90) (pc' := 89) dX12_needing_86 (by decide) rfl (by decide) (fun c => ?_) (fun c => ?_)
              · exact absurd c (by decide)
              · exact st_vret dX12_needing_89 rfl rfl h
            · replace h := h.2 c
              change WP _ LAY m_X12_needing 82 [(2, vI v9), (1, vI v6), (0, vR (some 74))] [] (mem (P, some 5, some 22) I10 J11) Q
              refine st_aload_n (pc' := 83) dX12_needing_82 rfl rfl (j := 2) rfl ?_
              refine G_X12_36_74 dX12_needing_83 (pc' := 86) rfl rfl ?_
              refine st_if_le (tg := 90) (pc' := 89) dX12_needing_86 (by decide) rfl (gi_in _ _ _) (fun c => ?_) (fun c => ?_)
              · replace h := h.1 c
                refine st_aload_n (pc' := 91) dX12_needing_90 rfl rfl (j := 2) rfl ?_
                refine st_callV (pc' := 94) (kc := k - 1) (E' := LAY) (cal := m_X12_ahead) (n := 0) (as := []) (S := []) dX12_needing_91 rfl l_X12_308 k_X12_ahead rfl L_74 c_X12 rfl rfl (Nat.le_of_ble_eq_true rfl) (by omega) ⟨Nat.le_refl _, Nat.le_refl _, Nat.le_refl _, Nat.le_refl _⟩ h (fun r M' q => ?_)
                obtain ⟨I31, J32, rfl, rfl, h⟩ := q
                change WP _ LAY m_X12_needing 94 [(2, vI v9), (1, vI v6), (0, vR (some 74))] [] (mem (P, some 5, some 22) I31 J32) Q
                refine st_aload_n (pc' := 95) dX12_needing_94 rfl rfl (j := 2) rfl ?_
                refine G_X12_69_74 dX12_needing_95 (pc' := 98) rfl rfl ?_
                refine st_bipush (pc' := 100) dX12_needing_98 rfl (by decide) ?_
                refine st_aload_n (pc' := 101) dX12_needing_100 rfl rfl (j := 2) rfl ?_
                refine G_X12_133_74 dX12_needing_101 (pc' := 104) rfl rfl ?_
                refine st_imul (pc' := 105) dX12_needing_104 rfl ?_
                refine st_iload_n (pc' := 106) dX12_needing_105 rfl rfl (j := 1) rfl ?_
                refine st_iadd (pc' := 107) dX12_needing_106 rfl ?_
                refine st_dup2 (pc' := 108) dX12_needing_107 rfl rfl rfl ?_
                obtain ⟨e33, h⟩ := h
                refine st_iaload (pc' := 109) (v := (gi I31 81 (((14 * (gi I31 74 40)) + v6) : Int).toNat)) dX12_needing_108 rfl L_81 (by decide) e33 (show gi I31 81 (((14 * (gi I31 74 40)) + v6) : Int).toNat = (gi I31 81 (((14 * (gi I31 74 40)) + v6) : Int).toNat) from rfl) ?_
                refine st_iconst (pc' := 110) dX12_needing_109 rfl ?_
                refine st_iload_n (pc' := 111) dX12_needing_110 rfl rfl (j := 0) rfl ?_
                refine st_ishl (pc' := 112) (z := (shl32 1 v9)) dX12_needing_111 rfl rfl ?_
                refine st_ior (pc' := 113) (z := (or32 (gi I31 81 (((14 * (gi I31 74 40)) + v6) : Int).toNat) (shl32 1 v9))) dX12_needing_112 rfl rfl ?_
                refine st_iastore (pc' := 114) (M' := (mem (P, some 5, some 22) (si I31 81 (((14 * (gi I31 74 40)) + v6) : Int).toNat (or32 (gi I31 81 (((14 * (gi I31 74 40)) + v6) : Int).toNat) (shl32 1 v9))) J32)) dX12_needing_113 rfl L_81 (by decide) e33 rfl ?_
                refine st_aload_n (pc' := 115) dX12_needing_114 rfl rfl (j := 2) rfl ?_
                refine G_X12_72_74 dX12_needing_115 (pc' := 118) rfl rfl ?_
                refine st_aload_n (pc' := 119) dX12_needing_118 rfl rfl (j := 2) rfl ?_
                refine G_X12_133_74 dX12_needing_119 (pc' := 122) rfl rfl ?_
                rw [show gi (si I31 81 (((14 * (gi I31 74 40)) + v6) : Int).toNat (or32 (gi I31 81 (((14 * (gi I31 74 40)) + v6) : Int).toNat) (shl32 1 v9))) 74 40 = (gi I31 74 40) from (gi_cell _ _ _ _ (by decide))]
                refine st_dup2 (pc' := 123) dX12_needing_122 rfl rfl rfl ?_
                obtain ⟨e34, h⟩ := h
                refine st_iaload (pc' := 124) (v := (gi I31 82 (gi I31 74 40).toNat)) dX12_needing_123 rfl L_82 (by decide) e34 (show gi (si I31 81 (((14 * (gi I31 74 40)) + v6) : Int).toNat (or32 (gi I31 81 (((14 * (gi I31 74 40)) + v6) : Int).toNat) (shl32 1 v9))) 82 (gi I31 74 40).toNat = (gi I31 82 (gi I31 74 40).toNat) from (gi_cell _ _ _ _ (by decide))) ?_
                refine st_iconst (pc' := 125) dX12_needing_124 rfl ?_
                refine st_iadd (pc' := 126) dX12_needing_125 rfl ?_
                refine st_iastore (pc' := 127) (M' := (mem (P, some 5, some 22) (si (si I31 81 (((14 * (gi I31 74 40)) + v6) : Int).toNat (or32 (gi I31 81 (((14 * (gi I31 74 40)) + v6) : Int).toNat) (shl32 1 v9))) 82 (gi I31 74 40).toNat ((gi I31 82 (gi I31 74 40).toNat) + 1)) J32)) dX12_needing_126 rfl L_82 (by decide) e34 rfl ?_
                exact st_vret dX12_needing_127 rfl rfl h
              · replace h := h.2 c
                exact st_vret dX12_needing_89 rfl rfl h
    · replace h := h.2 c
      exact st_vret dX12_needing_26 rfl rfl h
  · replace h := h.2 c
    refine st_iconst (pc' := 16) dX12_needing_15 rfl ?_
    refine st_goto (pc' := 20) dX12_needing_16 (by decide) ?_
    refine st_callV (pc' := 23) (kc := k - 1) (E' := LAY) (cal := m_X12_counts) (n := 1) (as := [vI 1]) (S := []) dX12_needing_20 rfl l_X12_410 k_X12_counts rfl L_74 c_X12 rfl rfl (Nat.le_of_ble_eq_true rfl) (by omega) ⟨Nat.le_refl _, Nat.le_refl _, Nat.le_refl _, Nat.le_refl _⟩ h (fun r M' q => ?_)
    obtain ⟨v35, I36, J37, rfl, rfl, h⟩ := q
    change WP _ LAY m_X12_needing 23 [(0, vR (some 74))] [vI v35] (mem (P, some 5, some 22) I36 J37) Q
    obtain ⟨e38, h⟩ := h
    refine st_if_ne (tg := 27) (pc' := 26) dX12_needing_23 (by decide) rfl e38 (fun c => ?_) (fun c => ?_)
    · replace h := h.1 c
      refine st_aload_n (pc' := 28) dX12_needing_27 rfl rfl (j := 0) rfl ?_
      refine st_iconst (pc' := 29) dX12_needing_28 rfl ?_
      refine st_callV (pc' := 32) (kc := k - 1) (E' := LAY) (cal := m_X12_asked) (n := 1) (as := [vI 1]) (S := []) dX12_needing_29 rfl l_X12_422 k_X12_asked rfl L_74 c_X12 rfl rfl (Nat.le_of_ble_eq_true rfl) (by omega) ⟨Nat.le_refl _, Nat.le_refl _, Nat.le_refl _, Nat.le_refl _⟩ h (fun r M' q => ?_)
      obtain ⟨v39, I40, J41, rfl, rfl, h⟩ := q
      change WP _ LAY m_X12_needing 32 [(0, vR (some 74))] [vI v39] (mem (P, some 5, some 22) I40 J41) Q
      refine st_istore_n (pc' := 33) (L' := [(1, vI v39), (0, vR (some 74))]) dX12_needing_32 rfl rfl (by decide) rfl ?_
      refine st_aload_n (pc' := 34) dX12_needing_33 rfl rfl (j := 1) rfl ?_
      refine st_iconst (pc' := 35) dX12_needing_34 rfl ?_
      refine st_callV (pc' := 38) (kc := k - 1) (E' := LAY) (cal := m_X12_looked) (n := 1) (as := [vI 1]) (S := []) dX12_needing_35 rfl l_X12_407 k_X12_looked rfl L_74 c_X12 rfl rfl (Nat.le_of_ble_eq_true rfl) (by omega) ⟨Nat.le_refl _, Nat.le_refl _, Nat.le_refl _, Nat.le_refl _⟩ h (fun r M' q => ?_)
      obtain ⟨v42, I43, J44, rfl, rfl, h⟩ := q
      change WP _ LAY m_X12_needing 38 [(1, vI v39), (0, vR (some 74))] [vI v42] (mem (P, some 5, some 22) I43 J44) Q
      refine st_istore_n (pc' := 39) (L' := [(2, vI v42), (1, vI v39), (0, vR (some 74))]) dX12_needing_38 rfl rfl (by decide) rfl ?_
      refine st_aload_n (pc' := 40) dX12_needing_39 rfl rfl (j := 2) rfl ?_
      refine G_X12_36_74 dX12_needing_40 (pc' := 43) rfl rfl ?_
      refine st_if_ne (tg := 82) (pc' := 46) dX12_needing_43 (by decide) rfl (gi_in _ _ _) (fun c => ?_) (fun c => ?_)
      · replace h := h.1 c
        refine st_aload_n (pc' := 83) dX12_needing_82 rfl rfl (j := 2) rfl ?_
        refine G_X12_36_74 dX12_needing_83 (pc' := 86) rfl rfl ?_
        refine st_if_le (tg := 90) (pc' := 89) dX12_needing_86 (by decide) rfl (gi_in _ _ _) (fun c => ?_) (fun c => ?_)
        · replace h := h.1 c
          refine st_aload_n (pc' := 91) dX12_needing_90 rfl rfl (j := 2) rfl ?_
          refine st_callV (pc' := 94) (kc := k - 1) (E' := LAY) (cal := m_X12_ahead) (n := 0) (as := []) (S := []) dX12_needing_91 rfl l_X12_308 k_X12_ahead rfl L_74 c_X12 rfl rfl (Nat.le_of_ble_eq_true rfl) (by omega) ⟨Nat.le_refl _, Nat.le_refl _, Nat.le_refl _, Nat.le_refl _⟩ h (fun r M' q => ?_)
          obtain ⟨I46, J47, rfl, rfl, h⟩ := q
          change WP _ LAY m_X12_needing 94 [(2, vI v42), (1, vI v39), (0, vR (some 74))] [] (mem (P, some 5, some 22) I46 J47) Q
          refine st_aload_n (pc' := 95) dX12_needing_94 rfl rfl (j := 2) rfl ?_
          refine G_X12_69_74 dX12_needing_95 (pc' := 98) rfl rfl ?_
          refine st_bipush (pc' := 100) dX12_needing_98 rfl (by decide) ?_
          refine st_aload_n (pc' := 101) dX12_needing_100 rfl rfl (j := 2) rfl ?_
          refine G_X12_133_74 dX12_needing_101 (pc' := 104) rfl rfl ?_
          refine st_imul (pc' := 105) dX12_needing_104 rfl ?_
          refine st_iload_n (pc' := 106) dX12_needing_105 rfl rfl (j := 1) rfl ?_
          refine st_iadd (pc' := 107) dX12_needing_106 rfl ?_
          refine st_dup2 (pc' := 108) dX12_needing_107 rfl rfl rfl ?_
          obtain ⟨e48, h⟩ := h
          refine st_iaload (pc' := 109) (v := (gi I46 81 (((14 * (gi I46 74 40)) + v39) : Int).toNat)) dX12_needing_108 rfl L_81 (by decide) e48 (show gi I46 81 (((14 * (gi I46 74 40)) + v39) : Int).toNat = (gi I46 81 (((14 * (gi I46 74 40)) + v39) : Int).toNat) from rfl) ?_
          refine st_iconst (pc' := 110) dX12_needing_109 rfl ?_
          refine st_iload_n (pc' := 111) dX12_needing_110 rfl rfl (j := 0) rfl ?_
          refine st_ishl (pc' := 112) (z := (shl32 1 v42)) dX12_needing_111 rfl rfl ?_
          refine st_ior (pc' := 113) (z := (or32 (gi I46 81 (((14 * (gi I46 74 40)) + v39) : Int).toNat) (shl32 1 v42))) dX12_needing_112 rfl rfl ?_
          refine st_iastore (pc' := 114) (M' := (mem (P, some 5, some 22) (si I46 81 (((14 * (gi I46 74 40)) + v39) : Int).toNat (or32 (gi I46 81 (((14 * (gi I46 74 40)) + v39) : Int).toNat) (shl32 1 v42))) J47)) dX12_needing_113 rfl L_81 (by decide) e48 rfl ?_
          refine st_aload_n (pc' := 115) dX12_needing_114 rfl rfl (j := 2) rfl ?_
          refine G_X12_72_74 dX12_needing_115 (pc' := 118) rfl rfl ?_
          refine st_aload_n (pc' := 119) dX12_needing_118 rfl rfl (j := 2) rfl ?_
          refine G_X12_133_74 dX12_needing_119 (pc' := 122) rfl rfl ?_
          rw [show gi (si I46 81 (((14 * (gi I46 74 40)) + v39) : Int).toNat (or32 (gi I46 81 (((14 * (gi I46 74 40)) + v39) : Int).toNat) (shl32 1 v42))) 74 40 = (gi I46 74 40) from (gi_cell _ _ _ _ (by decide))]
          refine st_dup2 (pc' := 123) dX12_needing_122 rfl rfl rfl ?_
          obtain ⟨e49, h⟩ := h
          refine st_iaload (pc' := 124) (v := (gi I46 82 (gi I46 74 40).toNat)) dX12_needing_123 rfl L_82 (by decide) e49 (show gi (si I46 81 (((14 * (gi I46 74 40)) + v39) : Int).toNat (or32 (gi I46 81 (((14 * (gi I46 74 40)) + v39) : Int).toNat) (shl32 1 v42))) 82 (gi I46 74 40).toNat = (gi I46 82 (gi I46 74 40).toNat) from (gi_cell _ _ _ _ (by decide))) ?_
          refine st_iconst (pc' := 125) dX12_needing_124 rfl ?_
          refine st_iadd (pc' := 126) dX12_needing_125 rfl ?_
          refine st_iastore (pc' := 127) (M' := (mem (P, some 5, some 22) (si (si I46 81 (((14 * (gi I46 74 40)) + v39) : Int).toNat (or32 (gi I46 81 (((14 * (gi I46 74 40)) + v39) : Int).toNat) (shl32 1 v42))) 82 (gi I46 74 40).toNat ((gi I46 82 (gi I46 74 40).toNat) + 1)) J47)) dX12_needing_126 rfl L_82 (by decide) e49 rfl ?_
          exact st_vret dX12_needing_127 rfl rfl h
        · replace h := h.2 c
          exact st_vret dX12_needing_89 rfl rfl h
      · replace h := h.2 c
        refine st_iload_n (pc' := 47) dX12_needing_46 rfl rfl (j := 0) rfl ?_
        refine st_iload_n (pc' := 48) dX12_needing_47 rfl rfl (j := 1) rfl ?_
        obtain ⟨e50, h⟩ := h
        obtain ⟨e51, h⟩ := h
        refine st_icmp_ge (tg := 73) (pc' := 51) dX12_needing_48 (by decide) rfl e50 e51 (fun c => ?_) (fun c => ?_)
        · replace h := h.1 c
          refine st_aload_n (pc' := 74) dX12_needing_73 rfl rfl (j := 2) rfl ?_
          refine st_iconst (pc' := 75) dX12_needing_74 rfl ?_
          refine st_aload_n (pc' := 76) dX12_needing_75 rfl rfl (j := 2) rfl ?_
          refine G_X12_23_74 dX12_needing_76 (pc' := 79) rfl rfl ?_
          refine st_callV (pc' := 82) (kc := k - 1) (E' := LAY) (cal := m_X12_blame) (n := 2) (as := [vI 3, vI (gi I43 74 4)]) (S := []) dX12_needing_79 rfl l_X12_287 k_X12_blame rfl L_74 c_X12 rfl rfl (Nat.le_of_ble_eq_true rfl) (by omega) ⟨Nat.le_refl _, Nat.le_refl _, Nat.le_refl _, Nat.le_refl _⟩ (Q1 := fun r M' => WP k LAY m_X12_needing 82 [(2, vI v42), (1, vI v39), (0, vR (some 74))] (r.toList ++ []) M' Q) (WPm.of k_X12_blame.1 (Nat.le_of_ble_eq_true rfl) (B_X12_blame_0 (by omega) ?_)) (fun r M' q => q)
          refine ⟨fun c => ?_, fun c => ?_⟩
          · replace h := h.1 c
            change WP _ LAY m_X12_needing 82 [(2, vI v42), (1, vI v39), (0, vR (some 74))] [] (mem (P, some 5, some 22) (si (si I43 74 8 3) 74 9 (gi I43 74 4)) J44) Q
            refine st_aload_n (pc' := 83) dX12_needing_82 rfl rfl (j := 2) rfl ?_
            refine G_X12_36_74 dX12_needing_83 (pc' := 86) rfl rfl ?_
            rw [show gi (si (si I43 74 8 3) 74 9 (gi I43 74 4)) 74 8 = 3 from ((gi_idx _ _ _ (by decide)).trans (gi_same _ _ _ (by decide)))]
            refine st_if_le (tg := 90) (pc' := 89) dX12_needing_86 (by decide) rfl (by decide) (fun c => ?_) (fun c => ?_)
            · exact absurd c (by decide)
            · exact st_vret dX12_needing_89 rfl rfl h
          · replace h := h.2 c
            change WP _ LAY m_X12_needing 82 [(2, vI v42), (1, vI v39), (0, vR (some 74))] [] (mem (P, some 5, some 22) I43 J44) Q
            refine st_aload_n (pc' := 83) dX12_needing_82 rfl rfl (j := 2) rfl ?_
            refine G_X12_36_74 dX12_needing_83 (pc' := 86) rfl rfl ?_
            refine st_if_le (tg := 90) (pc' := 89) dX12_needing_86 (by decide) rfl (gi_in _ _ _) (fun c => ?_) (fun c => ?_)
            · replace h := h.1 c
              refine st_aload_n (pc' := 91) dX12_needing_90 rfl rfl (j := 2) rfl ?_
              refine st_callV (pc' := 94) (kc := k - 1) (E' := LAY) (cal := m_X12_ahead) (n := 0) (as := []) (S := []) dX12_needing_91 rfl l_X12_308 k_X12_ahead rfl L_74 c_X12 rfl rfl (Nat.le_of_ble_eq_true rfl) (by omega) ⟨Nat.le_refl _, Nat.le_refl _, Nat.le_refl _, Nat.le_refl _⟩ h (fun r M' q => ?_)
              obtain ⟨I53, J54, rfl, rfl, h⟩ := q
              change WP _ LAY m_X12_needing 94 [(2, vI v42), (1, vI v39), (0, vR (some 74))] [] (mem (P, some 5, some 22) I53 J54) Q
              refine st_aload_n (pc' := 95) dX12_needing_94 rfl rfl (j := 2) rfl ?_
              refine G_X12_69_74 dX12_needing_95 (pc' := 98) rfl rfl ?_
              refine st_bipush (pc' := 100) dX12_needing_98 rfl (by decide) ?_
              refine st_aload_n (pc' := 101) dX12_needing_100 rfl rfl (j := 2) rfl ?_
              refine G_X12_133_74 dX12_needing_101 (pc' := 104) rfl rfl ?_
              refine st_imul (pc' := 105) dX12_needing_104 rfl ?_
              refine st_iload_n (pc' := 106) dX12_needing_105 rfl rfl (j := 1) rfl ?_
              refine st_iadd (pc' := 107) dX12_needing_106 rfl ?_
              refine st_dup2 (pc' := 108) dX12_needing_107 rfl rfl rfl ?_
              obtain ⟨e55, h⟩ := h
              refine st_iaload (pc' := 109) (v := (gi I53 81 (((14 * (gi I53 74 40)) + v39) : Int).toNat)) dX12_needing_108 rfl L_81 (by decide) e55 (show gi I53 81 (((14 * (gi I53 74 40)) + v39) : Int).toNat = (gi I53 81 (((14 * (gi I53 74 40)) + v39) : Int).toNat) from rfl) ?_
              refine st_iconst (pc' := 110) dX12_needing_109 rfl ?_
              refine st_iload_n (pc' := 111) dX12_needing_110 rfl rfl (j := 0) rfl ?_
              refine st_ishl (pc' := 112) (z := (shl32 1 v42)) dX12_needing_111 rfl rfl ?_
              refine st_ior (pc' := 113) (z := (or32 (gi I53 81 (((14 * (gi I53 74 40)) + v39) : Int).toNat) (shl32 1 v42))) dX12_needing_112 rfl rfl ?_
              refine st_iastore (pc' := 114) (M' := (mem (P, some 5, some 22) (si I53 81 (((14 * (gi I53 74 40)) + v39) : Int).toNat (or32 (gi I53 81 (((14 * (gi I53 74 40)) + v39) : Int).toNat) (shl32 1 v42))) J54)) dX12_needing_113 rfl L_81 (by decide) e55 rfl ?_
              refine st_aload_n (pc' := 115) dX12_needing_114 rfl rfl (j := 2) rfl ?_
              refine G_X12_72_74 dX12_needing_115 (pc' := 118) rfl rfl ?_
              refine st_aload_n (pc' := 119) dX12_needing_118 rfl rfl (j := 2) rfl ?_
              refine G_X12_133_74 dX12_needing_119 (pc' := 122) rfl rfl ?_
              rw [show gi (si I53 81 (((14 * (gi I53 74 40)) + v39) : Int).toNat (or32 (gi I53 81 (((14 * (gi I53 74 40)) + v39) : Int).toNat) (shl32 1 v42))) 74 40 = (gi I53 74 40) from (gi_cell _ _ _ _ (by decide))]
              refine st_dup2 (pc' := 123) dX12_needing_122 rfl rfl rfl ?_
              obtain ⟨e56, h⟩ := h
              refine st_iaload (pc' := 124) (v := (gi I53 82 (gi I53 74 40).toNat)) dX12_needing_123 rfl L_82 (by decide) e56 (show gi (si I53 81 (((14 * (gi I53 74 40)) + v39) : Int).toNat (or32 (gi I53 81 (((14 * (gi I53 74 40)) + v39) : Int).toNat) (shl32 1 v42))) 82 (gi I53 74 40).toNat = (gi I53 82 (gi I53 74 40).toNat) from (gi_cell _ _ _ _ (by decide))) ?_
              refine st_iconst (pc' := 125) dX12_needing_124 rfl ?_
              refine st_iadd (pc' := 126) dX12_needing_125 rfl ?_
              refine st_iastore (pc' := 127) (M' := (mem (P, some 5, some 22) (si (si I53 81 (((14 * (gi I53 74 40)) + v39) : Int).toNat (or32 (gi I53 81 (((14 * (gi I53 74 40)) + v39) : Int).toNat) (shl32 1 v42))) 82 (gi I53 74 40).toNat ((gi I53 82 (gi I53 74 40).toNat) + 1)) J54)) dX12_needing_126 rfl L_82 (by decide) e56 rfl ?_
              exact st_vret dX12_needing_127 rfl rfl h
            · replace h := h.2 c
              exact st_vret dX12_needing_89 rfl rfl h
        · replace h := h.2 c
          refine st_aload_n (pc' := 52) dX12_needing_51 rfl rfl (j := 2) rfl ?_
          refine G_X12_69_74 dX12_needing_52 (pc' := 55) rfl rfl ?_
          refine st_bipush (pc' := 57) dX12_needing_55 rfl (by decide) ?_
          refine st_aload_n (pc' := 58) dX12_needing_57 rfl rfl (j := 2) rfl ?_
          refine G_X12_133_74 dX12_needing_58 (pc' := 61) rfl rfl ?_
          refine st_imul (pc' := 62) dX12_needing_61 rfl ?_
          refine st_iload_n (pc' := 63) dX12_needing_62 rfl rfl (j := 1) rfl ?_
          refine st_iadd (pc' := 64) dX12_needing_63 rfl ?_
          obtain ⟨e57, h⟩ := h
          refine st_iaload (pc' := 65) (v := (gi I43 81 (((14 * (gi I43 74 40)) + v39) : Int).toNat)) dX12_needing_64 rfl L_81 (by decide) e57 (show gi I43 81 (((14 * (gi I43 74 40)) + v39) : Int).toNat = (gi I43 81 (((14 * (gi I43 74 40)) + v39) : Int).toNat) from rfl) ?_
          refine st_iload_n (pc' := 66) dX12_needing_65 rfl rfl (j := 0) rfl ?_
          refine st_ishr (pc' := 67) (z := (shr32 (gi I43 81 (((14 * (gi I43 74 40)) + v39) : Int).toNat) v42)) dX12_needing_66 rfl rfl ?_
          refine st_iconst (pc' := 68) dX12_needing_67 rfl ?_
          refine st_iand (pc' := 69) (z := (and32 (shr32 (gi I43 81 (((14 * (gi I43 74 40)) + v39) : Int).toNat) v42) 1)) dX12_needing_68 rfl rfl ?_
          refine st_iconst (pc' := 70) dX12_needing_69 rfl ?_
          refine st_icmp_ne (tg := 82) (pc' := 73) dX12_needing_70 (by decide) rfl (and32_in _ _) (by decide) (fun c => ?_) (fun c => ?_)
          · replace h := h.1 c
            refine st_aload_n (pc' := 83) dX12_needing_82 rfl rfl (j := 2) rfl ?_
            refine G_X12_36_74 dX12_needing_83 (pc' := 86) rfl rfl ?_
            refine st_if_le (tg := 90) (pc' := 89) dX12_needing_86 (by decide) rfl (gi_in _ _ _) (fun c => ?_) (fun c => ?_)
            · replace h := h.1 c
              refine st_aload_n (pc' := 91) dX12_needing_90 rfl rfl (j := 2) rfl ?_
              refine st_callV (pc' := 94) (kc := k - 1) (E' := LAY) (cal := m_X12_ahead) (n := 0) (as := []) (S := []) dX12_needing_91 rfl l_X12_308 k_X12_ahead rfl L_74 c_X12 rfl rfl (Nat.le_of_ble_eq_true rfl) (by omega) ⟨Nat.le_refl _, Nat.le_refl _, Nat.le_refl _, Nat.le_refl _⟩ h (fun r M' q => ?_)
              obtain ⟨I59, J60, rfl, rfl, h⟩ := q
              change WP _ LAY m_X12_needing 94 [(2, vI v42), (1, vI v39), (0, vR (some 74))] [] (mem (P, some 5, some 22) I59 J60) Q
              refine st_aload_n (pc' := 95) dX12_needing_94 rfl rfl (j := 2) rfl ?_
              refine G_X12_69_74 dX12_needing_95 (pc' := 98) rfl rfl ?_
              refine st_bipush (pc' := 100) dX12_needing_98 rfl (by decide) ?_
              refine st_aload_n (pc' := 101) dX12_needing_100 rfl rfl (j := 2) rfl ?_
              refine G_X12_133_74 dX12_needing_101 (pc' := 104) rfl rfl ?_
              refine st_imul (pc' := 105) dX12_needing_104 rfl ?_
              refine st_iload_n (pc' := 106) dX12_needing_105 rfl rfl (j := 1) rfl ?_
              refine st_iadd (pc' := 107) dX12_needing_106 rfl ?_
              refine st_dup2 (pc' := 108) dX12_needing_107 rfl rfl rfl ?_
              obtain ⟨e61, h⟩ := h
              refine st_iaload (pc' := 109) (v := (gi I59 81 (((14 * (gi I59 74 40)) + v39) : Int).toNat)) dX12_needing_108 rfl L_81 (by decide) e61 (show gi I59 81 (((14 * (gi I59 74 40)) + v39) : Int).toNat = (gi I59 81 (((14 * (gi I59 74 40)) + v39) : Int).toNat) from rfl) ?_
              refine st_iconst (pc' := 110) dX12_needing_109 rfl ?_
              refine st_iload_n (pc' := 111) dX12_needing_110 rfl rfl (j := 0) rfl ?_
              refine st_ishl (pc' := 112) (z := (shl32 1 v42)) dX12_needing_111 rfl rfl ?_
              refine st_ior (pc' := 113) (z := (or32 (gi I59 81 (((14 * (gi I59 74 40)) + v39) : Int).toNat) (shl32 1 v42))) dX12_needing_112 rfl rfl ?_
              refine st_iastore (pc' := 114) (M' := (mem (P, some 5, some 22) (si I59 81 (((14 * (gi I59 74 40)) + v39) : Int).toNat (or32 (gi I59 81 (((14 * (gi I59 74 40)) + v39) : Int).toNat) (shl32 1 v42))) J60)) dX12_needing_113 rfl L_81 (by decide) e61 rfl ?_
              refine st_aload_n (pc' := 115) dX12_needing_114 rfl rfl (j := 2) rfl ?_
              refine G_X12_72_74 dX12_needing_115 (pc' := 118) rfl rfl ?_
              refine st_aload_n (pc' := 119) dX12_needing_118 rfl rfl (j := 2) rfl ?_
              refine G_X12_133_74 dX12_needing_119 (pc' := 122) rfl rfl ?_
              rw [show gi (si I59 81 (((14 * (gi I59 74 40)) + v39) : Int).toNat (or32 (gi I59 81 (((14 * (gi I59 74 40)) + v39) : Int).toNat) (shl32 1 v42))) 74 40 = (gi I59 74 40) from (gi_cell _ _ _ _ (by decide))]
              refine st_dup2 (pc' := 123) dX12_needing_122 rfl rfl rfl ?_
              obtain ⟨e62, h⟩ := h
              refine st_iaload (pc' := 124) (v := (gi I59 82 (gi I59 74 40).toNat)) dX12_needing_123 rfl L_82 (by decide) e62 (show gi (si I59 81 (((14 * (gi I59 74 40)) + v39) : Int).toNat (or32 (gi I59 81 (((14 * (gi I59 74 40)) + v39) : Int).toNat) (shl32 1 v42))) 82 (gi I59 74 40).toNat = (gi I59 82 (gi I59 74 40).toNat) from (gi_cell _ _ _ _ (by decide))) ?_
              refine st_iconst (pc' := 125) dX12_needing_124 rfl ?_
              refine st_iadd (pc' := 126) dX12_needing_125 rfl ?_
              refine st_iastore (pc' := 127) (M' := (mem (P, some 5, some 22) (si (si I59 81 (((14 * (gi I59 74 40)) + v39) : Int).toNat (or32 (gi I59 81 (((14 * (gi I59 74 40)) + v39) : Int).toNat) (shl32 1 v42))) 82 (gi I59 74 40).toNat ((gi I59 82 (gi I59 74 40).toNat) + 1)) J60)) dX12_needing_126 rfl L_82 (by decide) e62 rfl ?_
              exact st_vret dX12_needing_127 rfl rfl h
            · replace h := h.2 c
              exact st_vret dX12_needing_89 rfl rfl h
          · replace h := h.2 c
            refine st_aload_n (pc' := 74) dX12_needing_73 rfl rfl (j := 2) rfl ?_
            refine st_iconst (pc' := 75) dX12_needing_74 rfl ?_
            refine st_aload_n (pc' := 76) dX12_needing_75 rfl rfl (j := 2) rfl ?_
            refine G_X12_23_74 dX12_needing_76 (pc' := 79) rfl rfl ?_
            refine st_callV (pc' := 82) (kc := k - 1) (E' := LAY) (cal := m_X12_blame) (n := 2) (as := [vI 3, vI (gi I43 74 4)]) (S := []) dX12_needing_79 rfl l_X12_287 k_X12_blame rfl L_74 c_X12 rfl rfl (Nat.le_of_ble_eq_true rfl) (by omega) ⟨Nat.le_refl _, Nat.le_refl _, Nat.le_refl _, Nat.le_refl _⟩ (Q1 := fun r M' => WP k LAY m_X12_needing 82 [(2, vI v42), (1, vI v39), (0, vR (some 74))] (r.toList ++ []) M' Q) (WPm.of k_X12_blame.1 (Nat.le_of_ble_eq_true rfl) (B_X12_blame_0 (by omega) ?_)) (fun r M' q => q)
            refine ⟨fun c => ?_, fun c => ?_⟩
            · replace h := h.1 c
              change WP _ LAY m_X12_needing 82 [(2, vI v42), (1, vI v39), (0, vR (some 74))] [] (mem (P, some 5, some 22) (si (si I43 74 8 3) 74 9 (gi I43 74 4)) J44) Q
              refine st_aload_n (pc' := 83) dX12_needing_82 rfl rfl (j := 2) rfl ?_
              refine G_X12_36_74 dX12_needing_83 (pc' := 86) rfl rfl ?_
              rw [show gi (si (si I43 74 8 3) 74 9 (gi I43 74 4)) 74 8 = 3 from ((gi_idx _ _ _ (by decide)).trans (gi_same _ _ _ (by decide)))]
              refine st_if_le (tg := 90) (pc' := 89) dX12_needing_86 (by decide) rfl (by decide) (fun c => ?_) (fun c => ?_)
              · exact absurd c (by decide)
              · exact st_vret dX12_needing_89 rfl rfl h
            · replace h := h.2 c
              change WP _ LAY m_X12_needing 82 [(2, vI v42), (1, vI v39), (0, vR (some 74))] [] (mem (P, some 5, some 22) I43 J44) Q
              refine st_aload_n (pc' := 83) dX12_needing_82 rfl rfl (j := 2) rfl ?_
              refine G_X12_36_74 dX12_needing_83 (pc' := 86) rfl rfl ?_
              refine st_if_le (tg := 90) (pc' := 89) dX12_needing_86 (by decide) rfl (gi_in _ _ _) (fun c => ?_) (fun c => ?_)
              · replace h := h.1 c
                refine st_aload_n (pc' := 91) dX12_needing_90 rfl rfl (j := 2) rfl ?_
                refine st_callV (pc' := 94) (kc := k - 1) (E' := LAY) (cal := m_X12_ahead) (n := 0) (as := []) (S := []) dX12_needing_91 rfl l_X12_308 k_X12_ahead rfl L_74 c_X12 rfl rfl (Nat.le_of_ble_eq_true rfl) (by omega) ⟨Nat.le_refl _, Nat.le_refl _, Nat.le_refl _, Nat.le_refl _⟩ h (fun r M' q => ?_)
                obtain ⟨I64, J65, rfl, rfl, h⟩ := q
                change WP _ LAY m_X12_needing 94 [(2, vI v42), (1, vI v39), (0, vR (some 74))] [] (mem (P, some 5, some 22) I64 J65) Q
                refine st_aload_n (pc' := 95) dX12_needing_94 rfl rfl (j := 2) rfl ?_
                refine G_X12_69_74 dX12_needing_95 (pc' := 98) rfl rfl ?_
                refine st_bipush (pc' := 100) dX12_needing_98 rfl (by decide) ?_
                refine st_aload_n (pc' := 101) dX12_needing_100 rfl rfl (j := 2) rfl ?_
                refine G_X12_133_74 dX12_needing_101 (pc' := 104) rfl rfl ?_
                refine st_imul (pc' := 105) dX12_needing_104 rfl ?_
                refine st_iload_n (pc' := 106) dX12_needing_105 rfl rfl (j := 1) rfl ?_
                refine st_iadd (pc' := 107) dX12_needing_106 rfl ?_
                refine st_dup2 (pc' := 108) dX12_needing_107 rfl rfl rfl ?_
                obtain ⟨e66, h⟩ := h
                refine st_iaload (pc' := 109) (v := (gi I64 81 (((14 * (gi I64 74 40)) + v39) : Int).toNat)) dX12_needing_108 rfl L_81 (by decide) e66 (show gi I64 81 (((14 * (gi I64 74 40)) + v39) : Int).toNat = (gi I64 81 (((14 * (gi I64 74 40)) + v39) : Int).toNat) from rfl) ?_
                refine st_iconst (pc' := 110) dX12_needing_109 rfl ?_
                refine st_iload_n (pc' := 111) dX12_needing_110 rfl rfl (j := 0) rfl ?_
                refine st_ishl (pc' := 112) (z := (shl32 1 v42)) dX12_needing_111 rfl rfl ?_
                refine st_ior (pc' := 113) (z := (or32 (gi I64 81 (((14 * (gi I64 74 40)) + v39) : Int).toNat) (shl32 1 v42))) dX12_needing_112 rfl rfl ?_
                refine st_iastore (pc' := 114) (M' := (mem (P, some 5, some 22) (si I64 81 (((14 * (gi I64 74 40)) + v39) : Int).toNat (or32 (gi I64 81 (((14 * (gi I64 74 40)) + v39) : Int).toNat) (shl32 1 v42))) J65)) dX12_needing_113 rfl L_81 (by decide) e66 rfl ?_
                refine st_aload_n (pc' := 115) dX12_needing_114 rfl rfl (j := 2) rfl ?_
                refine G_X12_72_74 dX12_needing_115 (pc' := 118) rfl rfl ?_
                refine st_aload_n (pc' := 119) dX12_needing_118 rfl rfl (j := 2) rfl ?_
                refine G_X12_133_74 dX12_needing_119 (pc' := 122) rfl rfl ?_
                rw [show gi (si I64 81 (((14 * (gi I64 74 40)) + v39) : Int).toNat (or32 (gi I64 81 (((14 * (gi I64 74 40)) + v39) : Int).toNat) (shl32 1 v42))) 74 40 = (gi I64 74 40) from (gi_cell _ _ _ _ (by decide))]
                refine st_dup2 (pc' := 123) dX12_needing_122 rfl rfl rfl ?_
                obtain ⟨e67, h⟩ := h
                refine st_iaload (pc' := 124) (v := (gi I64 82 (gi I64 74 40).toNat)) dX12_needing_123 rfl L_82 (by decide) e67 (show gi (si I64 81 (((14 * (gi I64 74 40)) + v39) : Int).toNat (or32 (gi I64 81 (((14 * (gi I64 74 40)) + v39) : Int).toNat) (shl32 1 v42))) 82 (gi I64 74 40).toNat = (gi I64 82 (gi I64 74 40).toNat) from (gi_cell _ _ _ _ (by decide))) ?_
                refine st_iconst (pc' := 125) dX12_needing_124 rfl ?_
                refine st_iadd (pc' := 126) dX12_needing_125 rfl ?_
                refine st_iastore (pc' := 127) (M' := (mem (P, some 5, some 22) (si (si I64 81 (((14 * (gi I64 74 40)) + v39) : Int).toNat (or32 (gi I64 81 (((14 * (gi I64 74 40)) + v39) : Int).toNat) (shl32 1 v42))) 82 (gi I64 74 40).toNat ((gi I64 82 (gi I64 74 40).toNat) + 1)) J65)) dX12_needing_126 rfl L_82 (by decide) e67 rfl ?_
                exact st_vret dX12_needing_127 rfl rfl h
              · replace h := h.2 c
                exact st_vret dX12_needing_89 rfl rfl h
    · replace h := h.2 c
      exact st_vret dX12_needing_26 rfl rfl h
set_option maxRecDepth 20000 in
set_option maxHeartbeats 4000000 in
theorem B_X12_readering_0 {k : Nat} {P : Option Nat} {I : Nat → Nat → Int32} {J : Nat → Nat → Int64}  {Q : Option AV → Mem → Prop} (hk : 1 ≤ k) (h : (0 ≤ (gi I 74 40) ∧ (gi I 74 40) < 2) ∧ ((¬ (gi I 83 (gi I 74 40).toNat) = 6 → (WPm (k - 1) LAY m_X12_counts [vR (some 74), vI 0] (mem (P, some 5, some 22) I J) (retI (fun v2 I3 J4 => inR v2 ∧ ((¬ v2 = 0 → ((0 ≤ (gi I3 74 40) ∧ (gi I3 74 40) < 2) ∧ (WPm (k - 1) LAY m_X12_fresh [vR (some 74)] (mem (P, some 5, some 22) I3 J4) (retL (fun v7 I8 J9 => (0 ≤ ((6 * (gi I3 74 40)) + (gi I3 83 (gi I3 74 40).toNat)) ∧ ((6 * (gi I3 74 40)) + (gi I3 83 (gi I3 74 40).toNat)) < 12) ∧ (WPm (k - 1) LAY m_X12_must_ [vR (some 74), vL 1885430629] (mem (P, some 5, some 22) I8 (sl J9 99 (((6 * (gi I3 74 40)) + (gi I3 83 (gi I3 74 40).toNat)) : Int).toNat v7)) (retV (fun I12 J13 => WPm (k - 1) LAY m_X12_number [vR (some 74), vI 1, vI 9] (mem (P, some 5, some 22) I12 J13) (retI (fun v14 I15 J16 => WPm (k - 1) LAY m_X12_must_ [vR (some 74), vL 1702454643] (mem (P, some 5, some 22) (si I15 84 (((6 * (gi I3 74 40)) + (gi I3 83 (gi I3 74 40).toNat)) : Int).toNat v14) J16) (retV (fun I18 J19 => WPm (k - 1) LAY m_X12_number [vR (some 74), vI 0, vI 9] (mem (P, some 5, some 22) I18 J19) (retI (fun v20 I21 J22 => (¬ (gi I21 74 8) = 0 → (Q none (mem (P, some 5, some 22) (si I21 85 (((6 * (gi I3 74 40)) + (gi I3 83 (gi I3 74 40).toNat)) : Int).toNat v20) J22))) ∧ ((gi I21 74 8) = 0 → ((0 ≤ (gi I21 74 40) ∧ (gi I21 74 40) < 2) ∧ (Q none (mem (P, some 5, some 22) (si (si I21 85 (((6 * (gi I3 74 40)) + (gi I3 83 (gi I3 74 40).toNat)) : Int).toNat v20) 83 (gi I21 74 40).toNat ((gi I21 83 (gi I21 74 40).toNat) + 1)) J22))))) (P, some 5, some 22))) (P, some 5, some 22))) (P, some 5, some 22))) (P, some 5, some 22)))) (P, some 5, some 22))))) ∧ (v2 = 0 → (Q none (mem (P, some 5, some 22) I3 J4))))) (P, some 5, some 22)))) ∧ ((gi I 83 (gi I 74 40).toNat) = 6 → (WPm (k - 1) LAY m_X12_counts [vR (some 74), vI 1] (mem (P, some 5, some 22) I J) (retI (fun v24 I25 J26 => inR v24 ∧ ((¬ v24 = 0 → ((0 ≤ (gi I25 74 40) ∧ (gi I25 74 40) < 2) ∧ (WPm (k - 1) LAY m_X12_fresh [vR (some 74)] (mem (P, some 5, some 22) I25 J26) (retL (fun v29 I30 J31 => (0 ≤ ((6 * (gi I25 74 40)) + (gi I25 83 (gi I25 74 40).toNat)) ∧ ((6 * (gi I25 74 40)) + (gi I25 83 (gi I25 74 40).toNat)) < 12) ∧ (WPm (k - 1) LAY m_X12_must_ [vR (some 74), vL 1885430629] (mem (P, some 5, some 22) I30 (sl J31 99 (((6 * (gi I25 74 40)) + (gi I25 83 (gi I25 74 40).toNat)) : Int).toNat v29)) (retV (fun I34 J35 => WPm (k - 1) LAY m_X12_number [vR (some 74), vI 1, vI 9] (mem (P, some 5, some 22) I34 J35) (retI (fun v36 I37 J38 => WPm (k - 1) LAY m_X12_must_ [vR (some 74), vL 1702454643] (mem (P, some 5, some 22) (si I37 84 (((6 * (gi I25 74 40)) + (gi I25 83 (gi I25 74 40).toNat)) : Int).toNat v36) J38) (retV (fun I40 J41 => WPm (k - 1) LAY m_X12_number [vR (some 74), vI 0, vI 9] (mem (P, some 5, some 22) I40 J41) (retI (fun v42 I43 J44 => (¬ (gi I43 74 8) = 0 → (Q none (mem (P, some 5, some 22) (si I43 85 (((6 * (gi I25 74 40)) + (gi I25 83 (gi I25 74 40).toNat)) : Int).toNat v42) J44))) ∧ ((gi I43 74 8) = 0 → ((0 ≤ (gi I43 74 40) ∧ (gi I43 74 40) < 2) ∧ (Q none (mem (P, some 5, some 22) (si (si I43 85 (((6 * (gi I25 74 40)) + (gi I25 83 (gi I25 74 40).toNat)) : Int).toNat v42) 83 (gi I43 74 40).toNat ((gi I43 83 (gi I43 74 40).toNat) + 1)) J44))))) (P, some 5, some 22))) (P, some 5, some 22))) (P, some 5, some 22))) (P, some 5, some 22)))) (P, some 5, some 22))))) ∧ (v24 = 0 → (Q none (mem (P, some 5, some 22) I25 J26))))) (P, some 5, some 22)))))) : WP k LAY m_X12_readering 0 [(0, vR (some 74))] [] (mem (P, some 5, some 22) I J) Q := by
  refine st_aload_n (pc' := 1) dX12_readering_0 rfl rfl (j := 0) rfl ?_
  refine st_aload_n (pc' := 2) dX12_readering_1 rfl rfl (j := 0) rfl ?_
  refine G_X12_75_74 dX12_readering_2 (pc' := 5) rfl rfl ?_
  refine st_aload_n (pc' := 6) dX12_readering_5 rfl rfl (j := 0) rfl ?_
  refine G_X12_133_74 dX12_readering_6 (pc' := 9) rfl rfl ?_
  obtain ⟨e1, h⟩ := h
  refine st_iaload (pc' := 10) (v := (gi I 83 (gi I 74 40).toNat)) dX12_readering_9 rfl L_83 (by decide) e1 (show gi I 83 (gi I 74 40).toNat = (gi I 83 (gi I 74 40).toNat) from rfl) ?_
  refine st_bipush (pc' := 12) dX12_readering_10 rfl (by decide) ?_
  refine st_icmp_ne (tg := 19) (pc' := 15) dX12_readering_12 (by decide) rfl (gi_in _ _ _) (by decide) (fun c => ?_) (fun c => ?_)
  · replace h := h.1 c
    refine st_iconst (pc' := 20) dX12_readering_19 rfl ?_
    refine st_callV (pc' := 23) (kc := k - 1) (E' := LAY) (cal := m_X12_counts) (n := 1) (as := [vI 0]) (S := []) dX12_readering_20 rfl l_X12_410 k_X12_counts rfl L_74 c_X12 rfl rfl (Nat.le_of_ble_eq_true rfl) (by omega) ⟨Nat.le_refl _, Nat.le_refl _, Nat.le_refl _, Nat.le_refl _⟩ h (fun r M' q => ?_)
    obtain ⟨v2, I3, J4, rfl, rfl, h⟩ := q
    change WP _ LAY m_X12_readering 23 [(0, vR (some 74))] [vI v2] (mem (P, some 5, some 22) I3 J4) Q
    obtain ⟨e5, h⟩ := h
    refine st_if_ne (tg := 27) (pc' := 26) dX12_readering_23 (by decide) rfl e5 (fun c => ?_) (fun c => ?_)
    · replace h := h.1 c
      refine st_bipush (pc' := 29) dX12_readering_27 rfl (by decide) ?_
      refine st_aload_n (pc' := 30) dX12_readering_29 rfl rfl (j := 0) rfl ?_
      refine G_X12_133_74 dX12_readering_30 (pc' := 33) rfl rfl ?_
      refine st_imul (pc' := 34) dX12_readering_33 rfl ?_
      refine st_aload_n (pc' := 35) dX12_readering_34 rfl rfl (j := 0) rfl ?_
      refine G_X12_75_74 dX12_readering_35 (pc' := 38) rfl rfl ?_
      refine st_aload_n (pc' := 39) dX12_readering_38 rfl rfl (j := 0) rfl ?_
      refine G_X12_133_74 dX12_readering_39 (pc' := 42) rfl rfl ?_
      obtain ⟨e6, h⟩ := h
      refine st_iaload (pc' := 43) (v := (gi I3 83 (gi I3 74 40).toNat)) dX12_readering_42 rfl L_83 (by decide) e6 (show gi I3 83 (gi I3 74 40).toNat = (gi I3 83 (gi I3 74 40).toNat) from rfl) ?_
      refine st_iadd (pc' := 44) dX12_readering_43 rfl ?_
      refine st_istore_n (pc' := 45) (L' := [(1, vI ((6 * (gi I3 74 40)) + (gi I3 83 (gi I3 74 40).toNat))), (0, vR (some 74))]) dX12_readering_44 rfl rfl (by decide) rfl ?_
      refine st_aload_n (pc' := 46) dX12_readering_45 rfl rfl (j := 1) rfl ?_
      refine G_X12_124_74 dX12_readering_46 (pc' := 49) rfl rfl ?_
      refine st_iload_n (pc' := 50) dX12_readering_49 rfl rfl (j := 0) rfl ?_
      refine st_aload_n (pc' := 51) dX12_readering_50 rfl rfl (j := 1) rfl ?_
      refine st_callV (pc' := 54) (kc := k - 1) (E' := LAY) (cal := m_X12_fresh) (n := 0) (as := []) (S := [vI ((6 * (gi I3 74 40)) + (gi I3 83 (gi I3 74 40).toNat)), vR (some 99)]) dX12_readering_51 rfl l_X12_414 k_X12_fresh rfl L_74 c_X12 rfl rfl (Nat.le_of_ble_eq_true rfl) (by omega) ⟨Nat.le_refl _, Nat.le_refl _, Nat.le_refl _, Nat.le_refl _⟩ h (fun r M' q => ?_)
      obtain ⟨v7, I8, J9, rfl, rfl, h⟩ := q
      change WP _ LAY m_X12_readering 54 [(1, vI ((6 * (gi I3 74 40)) + (gi I3 83 (gi I3 74 40).toNat))), (0, vR (some 74))] [vL v7, vI ((6 * (gi I3 74 40)) + (gi I3 83 (gi I3 74 40).toNat)), vR (some 99)] (mem (P, some 5, some 22) I8 J9) Q
      obtain ⟨e10, h⟩ := h
      refine st_lastore (pc' := 55) (M' := (mem (P, some 5, some 22) I8 (sl J9 99 (((6 * (gi I3 74 40)) + (gi I3 83 (gi I3 74 40).toNat)) : Int).toNat v7))) dX12_readering_54 rfl L_99 (by decide) e10 rfl ?_
      refine st_aload_n (pc' := 56) dX12_readering_55 rfl rfl (j := 1) rfl ?_
      refine st_ldc2 (pc' := 59) (z := 1885430629) dX12_readering_56 rfl q_X12_325 (by decide) ?_
      refine st_callV (pc' := 62) (kc := k - 1) (E' := LAY) (cal := m_X12_must_) (n := 1) (as := [vL 1885430629]) (S := []) dX12_readering_59 rfl l_X12_418 k_X12_must_ rfl L_74 c_X12 rfl rfl (Nat.le_of_ble_eq_true rfl) (by omega) ⟨Nat.le_refl _, Nat.le_refl _, Nat.le_refl _, Nat.le_refl _⟩ h (fun r M' q => ?_)
      obtain ⟨I12, J13, rfl, rfl, h⟩ := q
      change WP _ LAY m_X12_readering 62 [(1, vI ((6 * (gi I3 74 40)) + (gi I3 83 (gi I3 74 40).toNat))), (0, vR (some 74))] [] (mem (P, some 5, some 22) I12 J13) Q
      refine st_aload_n (pc' := 63) dX12_readering_62 rfl rfl (j := 1) rfl ?_
      refine G_X12_78_74 dX12_readering_63 (pc' := 66) rfl rfl ?_
      refine st_iload_n (pc' := 67) dX12_readering_66 rfl rfl (j := 0) rfl ?_
      refine st_aload_n (pc' := 68) dX12_readering_67 rfl rfl (j := 1) rfl ?_
      refine st_iconst (pc' := 69) dX12_readering_68 rfl ?_
      refine st_bipush (pc' := 71) dX12_readering_69 rfl (by decide) ?_
      refine st_callV (pc' := 74) (kc := k - 1) (E' := LAY) (cal := m_X12_number) (n := 2) (as := [vI 1, vI 9]) (S := [vI ((6 * (gi I3 74 40)) + (gi I3 83 (gi I3 74 40).toNat)), vR (some 84)]) dX12_readering_71 rfl l_X12_425 k_X12_number rfl L_74 c_X12 rfl rfl (Nat.le_of_ble_eq_true rfl) (by omega) ⟨Nat.le_refl _, Nat.le_refl _, Nat.le_refl _, Nat.le_refl _⟩ h (fun r M' q => ?_)
      obtain ⟨v14, I15, J16, rfl, rfl, h⟩ := q
      change WP _ LAY m_X12_readering 74 [(1, vI ((6 * (gi I3 74 40)) + (gi I3 83 (gi I3 74 40).toNat))), (0, vR (some 74))] [vI v14, vI ((6 * (gi I3 74 40)) + (gi I3 83 (gi I3 74 40).toNat)), vR (some 84)] (mem (P, some 5, some 22) I15 J16) Q
      refine st_iastore (pc' := 75) (M' := (mem (P, some 5, some 22) (si I15 84 (((6 * (gi I3 74 40)) + (gi I3 83 (gi I3 74 40).toNat)) : Int).toNat v14) J16)) dX12_readering_74 rfl L_84 (by decide) e10 rfl ?_
      refine st_aload_n (pc' := 76) dX12_readering_75 rfl rfl (j := 1) rfl ?_
      refine st_ldc2 (pc' := 79) (z := 1702454643) dX12_readering_76 rfl q_X12_327 (by decide) ?_
      refine st_callV (pc' := 82) (kc := k - 1) (E' := LAY) (cal := m_X12_must_) (n := 1) (as := [vL 1702454643]) (S := []) dX12_readering_79 rfl l_X12_418 k_X12_must_ rfl L_74 c_X12 rfl rfl (Nat.le_of_ble_eq_true rfl) (by omega) ⟨Nat.le_refl _, Nat.le_refl _, Nat.le_refl _, Nat.le_refl _⟩ h (fun r M' q => ?_)
      obtain ⟨I18, J19, rfl, rfl, h⟩ := q
      change WP _ LAY m_X12_readering 82 [(1, vI ((6 * (gi I3 74 40)) + (gi I3 83 (gi I3 74 40).toNat))), (0, vR (some 74))] [] (mem (P, some 5, some 22) I18 J19) Q
      refine st_aload_n (pc' := 83) dX12_readering_82 rfl rfl (j := 1) rfl ?_
      refine G_X12_81_74 dX12_readering_83 (pc' := 86) rfl rfl ?_
      refine st_iload_n (pc' := 87) dX12_readering_86 rfl rfl (j := 0) rfl ?_
      refine st_aload_n (pc' := 88) dX12_readering_87 rfl rfl (j := 1) rfl ?_
      refine st_iconst (pc' := 89) dX12_readering_88 rfl ?_
      refine st_bipush (pc' := 91) dX12_readering_89 rfl (by decide) ?_
      refine st_callV (pc' := 94) (kc := k - 1) (E' := LAY) (cal := m_X12_number) (n := 2) (as := [vI 0, vI 9]) (S := [vI ((6 * (gi I3 74 40)) + (gi I3 83 (gi I3 74 40).toNat)), vR (some 85)]) dX12_readering_91 rfl l_X12_425 k_X12_number rfl L_74 c_X12 rfl rfl (Nat.le_of_ble_eq_true rfl) (by omega) ⟨Nat.le_refl _, Nat.le_refl _, Nat.le_refl _, Nat.le_refl _⟩ h (fun r M' q => ?_)
      obtain ⟨v20, I21, J22, rfl, rfl, h⟩ := q
      change WP _ LAY m_X12_readering 94 [(1, vI ((6 * (gi I3 74 40)) + (gi I3 83 (gi I3 74 40).toNat))), (0, vR (some 74))] [vI v20, vI ((6 * (gi I3 74 40)) + (gi I3 83 (gi I3 74 40).toNat)), vR (some 85)] (mem (P, some 5, some 22) I21 J22) Q
      refine st_iastore (pc' := 95) (M' := (mem (P, some 5, some 22) (si I21 85 (((6 * (gi I3 74 40)) + (gi I3 83 (gi I3 74 40).toNat)) : Int).toNat v20) J22)) dX12_readering_94 rfl L_85 (by decide) e10 rfl ?_
      refine st_aload_n (pc' := 96) dX12_readering_95 rfl rfl (j := 1) rfl ?_
      refine G_X12_36_74 dX12_readering_96 (pc' := 99) rfl rfl ?_
      rw [show gi (si I21 85 (((6 * (gi I3 74 40)) + (gi I3 83 (gi I3 74 40).toNat)) : Int).toNat v20) 74 8 = (gi I21 74 8) from (gi_cell _ _ _ _ (by decide))]
      refine st_if_ne (tg := 115) (pc' := 102) dX12_readering_99 (by decide) rfl (gi_in _ _ _) (fun c => ?_) (fun c => ?_)
      · replace h := h.1 c
        exact st_vret dX12_readering_115 rfl rfl h
      · replace h := h.2 c
        refine st_aload_n (pc' := 103) dX12_readering_102 rfl rfl (j := 1) rfl ?_
        refine G_X12_75_74 dX12_readering_103 (pc' := 106) rfl rfl ?_
        refine st_aload_n (pc' := 107) dX12_readering_106 rfl rfl (j := 1) rfl ?_
        refine G_X12_133_74 dX12_readering_107 (pc' := 110) rfl rfl ?_
        rw [show gi (si I21 85 (((6 * (gi I3 74 40)) + (gi I3 83 (gi I3 74 40).toNat)) : Int).toNat v20) 74 40 = (gi I21 74 40) from (gi_cell _ _ _ _ (by decide))]
        refine st_dup2 (pc' := 111) dX12_readering_110 rfl rfl rfl ?_
        obtain ⟨e23, h⟩ := h
        refine st_iaload (pc' := 112) (v := (gi I21 83 (gi I21 74 40).toNat)) dX12_readering_111 rfl L_83 (by decide) e23 (show gi (si I21 85 (((6 * (gi I3 74 40)) + (gi I3 83 (gi I3 74 40).toNat)) : Int).toNat v20) 83 (gi I21 74 40).toNat = (gi I21 83 (gi I21 74 40).toNat) from (gi_cell _ _ _ _ (by decide))) ?_
        refine st_iconst (pc' := 113) dX12_readering_112 rfl ?_
        refine st_iadd (pc' := 114) dX12_readering_113 rfl ?_
        refine st_iastore (pc' := 115) (M' := (mem (P, some 5, some 22) (si (si I21 85 (((6 * (gi I3 74 40)) + (gi I3 83 (gi I3 74 40).toNat)) : Int).toNat v20) 83 (gi I21 74 40).toNat ((gi I21 83 (gi I21 74 40).toNat) + 1)) J22)) dX12_readering_114 rfl L_83 (by decide) e23 rfl ?_
        exact st_vret dX12_readering_115 rfl rfl h
    · replace h := h.2 c
      exact st_vret dX12_readering_26 rfl rfl h
  · replace h := h.2 c
    refine st_iconst (pc' := 16) dX12_readering_15 rfl ?_
    refine st_goto (pc' := 20) dX12_readering_16 (by decide) ?_
    refine st_callV (pc' := 23) (kc := k - 1) (E' := LAY) (cal := m_X12_counts) (n := 1) (as := [vI 1]) (S := []) dX12_readering_20 rfl l_X12_410 k_X12_counts rfl L_74 c_X12 rfl rfl (Nat.le_of_ble_eq_true rfl) (by omega) ⟨Nat.le_refl _, Nat.le_refl _, Nat.le_refl _, Nat.le_refl _⟩ h (fun r M' q => ?_)
    obtain ⟨v24, I25, J26, rfl, rfl, h⟩ := q
    change WP _ LAY m_X12_readering 23 [(0, vR (some 74))] [vI v24] (mem (P, some 5, some 22) I25 J26) Q
    obtain ⟨e27, h⟩ := h
    refine st_if_ne (tg := 27) (pc' := 26) dX12_readering_23 (by decide) rfl e27 (fun c => ?_) (fun c => ?_)
    · replace h := h.1 c
      refine st_bipush (pc' := 29) dX12_readering_27 rfl (by decide) ?_
      refine st_aload_n (pc' := 30) dX12_readering_29 rfl rfl (j := 0) rfl ?_
      refine G_X12_133_74 dX12_readering_30 (pc' := 33) rfl rfl ?_
      refine st_imul (pc' := 34) dX12_readering_33 rfl ?_
      refine st_aload_n (pc' := 35) dX12_readering_34 rfl rfl (j := 0) rfl ?_
      refine G_X12_75_74 dX12_readering_35 (pc' := 38) rfl rfl ?_
      refine st_aload_n (pc' := 39) dX12_readering_38 rfl rfl (j := 0) rfl ?_
      refine G_X12_133_74 dX12_readering_39 (pc' := 42) rfl rfl ?_
      obtain ⟨e28, h⟩ := h
      refine st_iaload (pc' := 43) (v := (gi I25 83 (gi I25 74 40).toNat)) dX12_readering_42 rfl L_83 (by decide) e28 (show gi I25 83 (gi I25 74 40).toNat = (gi I25 83 (gi I25 74 40).toNat) from rfl) ?_
      refine st_iadd (pc' := 44) dX12_readering_43 rfl ?_
      refine st_istore_n (pc' := 45) (L' := [(1, vI ((6 * (gi I25 74 40)) + (gi I25 83 (gi I25 74 40).toNat))), (0, vR (some 74))]) dX12_readering_44 rfl rfl (by decide) rfl ?_
      refine st_aload_n (pc' := 46) dX12_readering_45 rfl rfl (j := 1) rfl ?_
      refine G_X12_124_74 dX12_readering_46 (pc' := 49) rfl rfl ?_
      refine st_iload_n (pc' := 50) dX12_readering_49 rfl rfl (j := 0) rfl ?_
      refine st_aload_n (pc' := 51) dX12_readering_50 rfl rfl (j := 1) rfl ?_
      refine st_callV (pc' := 54) (kc := k - 1) (E' := LAY) (cal := m_X12_fresh) (n := 0) (as := []) (S := [vI ((6 * (gi I25 74 40)) + (gi I25 83 (gi I25 74 40).toNat)), vR (some 99)]) dX12_readering_51 rfl l_X12_414 k_X12_fresh rfl L_74 c_X12 rfl rfl (Nat.le_of_ble_eq_true rfl) (by omega) ⟨Nat.le_refl _, Nat.le_refl _, Nat.le_refl _, Nat.le_refl _⟩ h (fun r M' q => ?_)
      obtain ⟨v29, I30, J31, rfl, rfl, h⟩ := q
      change WP _ LAY m_X12_readering 54 [(1, vI ((6 * (gi I25 74 40)) + (gi I25 83 (gi I25 74 40).toNat))), (0, vR (some 74))] [vL v29, vI ((6 * (gi I25 74 40)) + (gi I25 83 (gi I25 74 40).toNat)), vR (some 99)] (mem (P, some 5, some 22) I30 J31) Q
      obtain ⟨e32, h⟩ := h
      refine st_lastore (pc' := 55) (M' := (mem (P, some 5, some 22) I30 (sl J31 99 (((6 * (gi I25 74 40)) + (gi I25 83 (gi I25 74 40).toNat)) : Int).toNat v29))) dX12_readering_54 rfl L_99 (by decide) e32 rfl ?_
      refine st_aload_n (pc' := 56) dX12_readering_55 rfl rfl (j := 1) rfl ?_
      refine st_ldc2 (pc' := 59) (z := 1885430629) dX12_readering_56 rfl q_X12_325 (by decide) ?_
      refine st_callV (pc' := 62) (kc := k - 1) (E' := LAY) (cal := m_X12_must_) (n := 1) (as := [vL 1885430629]) (S := []) dX12_readering_59 rfl l_X12_418 k_X12_must_ rfl L_74 c_X12 rfl rfl (Nat.le_of_ble_eq_true rfl) (by omega) ⟨Nat.le_refl _, Nat.le_refl _, Nat.le_refl _, Nat.le_refl _⟩ h (fun r M' q => ?_)
      obtain ⟨I34, J35, rfl, rfl, h⟩ := q
      change WP _ LAY m_X12_readering 62 [(1, vI ((6 * (gi I25 74 40)) + (gi I25 83 (gi I25 74 40).toNat))), (0, vR (some 74))] [] (mem (P, some 5, some 22) I34 J35) Q
      refine st_aload_n (pc' := 63) dX12_readering_62 rfl rfl (j := 1) rfl ?_
      refine G_X12_78_74 dX12_readering_63 (pc' := 66) rfl rfl ?_
      refine st_iload_n (pc' := 67) dX12_readering_66 rfl rfl (j := 0) rfl ?_
      refine st_aload_n (pc' := 68) dX12_readering_67 rfl rfl (j := 1) rfl ?_
      refine st_iconst (pc' := 69) dX12_readering_68 rfl ?_
      refine st_bipush (pc' := 71) dX12_readering_69 rfl (by decide) ?_
      refine st_callV (pc' := 74) (kc := k - 1) (E' := LAY) (cal := m_X12_number) (n := 2) (as := [vI 1, vI 9]) (S := [vI ((6 * (gi I25 74 40)) + (gi I25 83 (gi I25 74 40).toNat)), vR (some 84)]) dX12_readering_71 rfl l_X12_425 k_X12_number rfl L_74 c_X12 rfl rfl (Nat.le_of_ble_eq_true rfl) (by omega) ⟨Nat.le_refl _, Nat.le_refl _, Nat.le_refl _, Nat.le_refl _⟩ h (fun r M' q => ?_)
      obtain ⟨v36, I37, J38, rfl, rfl, h⟩ := q
      change WP _ LAY m_X12_readering 74 [(1, vI ((6 * (gi I25 74 40)) + (gi I25 83 (gi I25 74 40).toNat))), (0, vR (some 74))] [vI v36, vI ((6 * (gi I25 74 40)) + (gi I25 83 (gi I25 74 40).toNat)), vR (some 84)] (mem (P, some 5, some 22) I37 J38) Q
      refine st_iastore (pc' := 75) (M' := (mem (P, some 5, some 22) (si I37 84 (((6 * (gi I25 74 40)) + (gi I25 83 (gi I25 74 40).toNat)) : Int).toNat v36) J38)) dX12_readering_74 rfl L_84 (by decide) e32 rfl ?_
      refine st_aload_n (pc' := 76) dX12_readering_75 rfl rfl (j := 1) rfl ?_
      refine st_ldc2 (pc' := 79) (z := 1702454643) dX12_readering_76 rfl q_X12_327 (by decide) ?_
      refine st_callV (pc' := 82) (kc := k - 1) (E' := LAY) (cal := m_X12_must_) (n := 1) (as := [vL 1702454643]) (S := []) dX12_readering_79 rfl l_X12_418 k_X12_must_ rfl L_74 c_X12 rfl rfl (Nat.le_of_ble_eq_true rfl) (by omega) ⟨Nat.le_refl _, Nat.le_refl _, Nat.le_refl _, Nat.le_refl _⟩ h (fun r M' q => ?_)
      obtain ⟨I40, J41, rfl, rfl, h⟩ := q
      change WP _ LAY m_X12_readering 82 [(1, vI ((6 * (gi I25 74 40)) + (gi I25 83 (gi I25 74 40).toNat))), (0, vR (some 74))] [] (mem (P, some 5, some 22) I40 J41) Q
      refine st_aload_n (pc' := 83) dX12_readering_82 rfl rfl (j := 1) rfl ?_
      refine G_X12_81_74 dX12_readering_83 (pc' := 86) rfl rfl ?_
      refine st_iload_n (pc' := 87) dX12_readering_86 rfl rfl (j := 0) rfl ?_
      refine st_aload_n (pc' := 88) dX12_readering_87 rfl rfl (j := 1) rfl ?_
      refine st_iconst (pc' := 89) dX12_readering_88 rfl ?_
      refine st_bipush (pc' := 91) dX12_readering_89 rfl (by decide) ?_
      refine st_callV (pc' := 94) (kc := k - 1) (E' := LAY) (cal := m_X12_number) (n := 2) (as := [vI 0, vI 9]) (S := [vI ((6 * (gi I25 74 40)) + (gi I25 83 (gi I25 74 40).toNat)), vR (some 85)]) dX12_readering_91 rfl l_X12_425 k_X12_number rfl L_74 c_X12 rfl rfl (Nat.le_of_ble_eq_true rfl) (by omega) ⟨Nat.le_refl _, Nat.le_refl _, Nat.le_refl _, Nat.le_refl _⟩ h (fun r M' q => ?_)
      obtain ⟨v42, I43, J44, rfl, rfl, h⟩ := q
      change WP _ LAY m_X12_readering 94 [(1, vI ((6 * (gi I25 74 40)) + (gi I25 83 (gi I25 74 40).toNat))), (0, vR (some 74))] [vI v42, vI ((6 * (gi I25 74 40)) + (gi I25 83 (gi I25 74 40).toNat)), vR (some 85)] (mem (P, some 5, some 22) I43 J44) Q
      refine st_iastore (pc' := 95) (M' := (mem (P, some 5, some 22) (si I43 85 (((6 * (gi I25 74 40)) + (gi I25 83 (gi I25 74 40).toNat)) : Int).toNat v42) J44)) dX12_readering_94 rfl L_85 (by decide) e32 rfl ?_
      refine st_aload_n (pc' := 96) dX12_readering_95 rfl rfl (j := 1) rfl ?_
      refine G_X12_36_74 dX12_readering_96 (pc' := 99) rfl rfl ?_
      rw [show gi (si I43 85 (((6 * (gi I25 74 40)) + (gi I25 83 (gi I25 74 40).toNat)) : Int).toNat v42) 74 8 = (gi I43 74 8) from (gi_cell _ _ _ _ (by decide))]
      refine st_if_ne (tg := 115) (pc' := 102) dX12_readering_99 (by decide) rfl (gi_in _ _ _) (fun c => ?_) (fun c => ?_)
      · replace h := h.1 c
        exact st_vret dX12_readering_115 rfl rfl h
      · replace h := h.2 c
        refine st_aload_n (pc' := 103) dX12_readering_102 rfl rfl (j := 1) rfl ?_
        refine G_X12_75_74 dX12_readering_103 (pc' := 106) rfl rfl ?_
        refine st_aload_n (pc' := 107) dX12_readering_106 rfl rfl (j := 1) rfl ?_
        refine G_X12_133_74 dX12_readering_107 (pc' := 110) rfl rfl ?_
        rw [show gi (si I43 85 (((6 * (gi I25 74 40)) + (gi I25 83 (gi I25 74 40).toNat)) : Int).toNat v42) 74 40 = (gi I43 74 40) from (gi_cell _ _ _ _ (by decide))]
        refine st_dup2 (pc' := 111) dX12_readering_110 rfl rfl rfl ?_
        obtain ⟨e45, h⟩ := h
        refine st_iaload (pc' := 112) (v := (gi I43 83 (gi I43 74 40).toNat)) dX12_readering_111 rfl L_83 (by decide) e45 (show gi (si I43 85 (((6 * (gi I25 74 40)) + (gi I25 83 (gi I25 74 40).toNat)) : Int).toNat v42) 83 (gi I43 74 40).toNat = (gi I43 83 (gi I43 74 40).toNat) from (gi_cell _ _ _ _ (by decide))) ?_
        refine st_iconst (pc' := 113) dX12_readering_112 rfl ?_
        refine st_iadd (pc' := 114) dX12_readering_113 rfl ?_
        refine st_iastore (pc' := 115) (M' := (mem (P, some 5, some 22) (si (si I43 85 (((6 * (gi I25 74 40)) + (gi I25 83 (gi I25 74 40).toNat)) : Int).toNat v42) 83 (gi I43 74 40).toNat ((gi I43 83 (gi I43 74 40).toNat) + 1)) J44)) dX12_readering_114 rfl L_83 (by decide) e45 rfl ?_
        exact st_vret dX12_readering_115 rfl rfl h
    · replace h := h.2 c
      exact st_vret dX12_readering_26 rfl rfl h
set_option maxRecDepth 20000 in
set_option maxHeartbeats 4000000 in
theorem B_X12_tabling_0 {k : Nat} {P : Option Nat} {I : Nat → Nat → Int32} {J : Nat → Nat → Int64}  {Q : Option AV → Mem → Prop} (hk : 1 ≤ k) (h : (0 ≤ (gi I 74 40) ∧ (gi I 74 40) < 2) ∧ ((¬ (gi I 86 (gi I 74 40).toNat) = 5 → (WPm (k - 1) LAY m_X12_counts [vR (some 74), vI 0] (mem (P, some 5, some 22) I J) (retI (fun v2 I3 J4 => inR v2 ∧ ((¬ v2 = 0 → ((0 ≤ (gi I3 74 40) ∧ (gi I3 74 40) < 2) ∧ (WPm (k - 1) LAY m_X12_fresh [vR (some 74)] (mem (P, some 5, some 22) I3 J4) (retL (fun v7 I8 J9 => (0 ≤ ((5 * (gi I3 74 40)) + (gi I3 86 (gi I3 74 40).toNat)) ∧ ((5 * (gi I3 74 40)) + (gi I3 86 (gi I3 74 40).toNat)) < 10) ∧ (WPm (k - 1) LAY m_X12_must_ [vR (some 74), vL 431415715444] (mem (P, some 5, some 22) I8 (sl J9 100 (((5 * (gi I3 74 40)) + (gi I3 86 (gi I3 74 40).toNat)) : Int).toNat v7)) (retV (fun I12 J13 => WPm (k - 1) LAY m_X12_number [vR (some 74), vI 0, vI 9] (mem (P, some 5, some 22) I12 J13) (retI (fun v14 I15 J16 => (¬ (gi I15 74 8) = 0 → (Q none (mem (P, some 5, some 22) (si I15 87 (((5 * (gi I3 74 40)) + (gi I3 86 (gi I3 74 40).toNat)) : Int).toNat v14) J16))) ∧ ((gi I15 74 8) = 0 → ((0 ≤ (gi I15 74 40) ∧ (gi I15 74 40) < 2) ∧ (Q none (mem (P, some 5, some 22) (si (si I15 87 (((5 * (gi I3 74 40)) + (gi I3 86 (gi I3 74 40).toNat)) : Int).toNat v14) 86 (gi I15 74 40).toNat ((gi I15 86 (gi I15 74 40).toNat) + 1)) J16))))) (P, some 5, some 22))) (P, some 5, some 22)))) (P, some 5, some 22))))) ∧ (v2 = 0 → (Q none (mem (P, some 5, some 22) I3 J4))))) (P, some 5, some 22)))) ∧ ((gi I 86 (gi I 74 40).toNat) = 5 → (WPm (k - 1) LAY m_X12_counts [vR (some 74), vI 1] (mem (P, some 5, some 22) I J) (retI (fun v18 I19 J20 => inR v18 ∧ ((¬ v18 = 0 → ((0 ≤ (gi I19 74 40) ∧ (gi I19 74 40) < 2) ∧ (WPm (k - 1) LAY m_X12_fresh [vR (some 74)] (mem (P, some 5, some 22) I19 J20) (retL (fun v23 I24 J25 => (0 ≤ ((5 * (gi I19 74 40)) + (gi I19 86 (gi I19 74 40).toNat)) ∧ ((5 * (gi I19 74 40)) + (gi I19 86 (gi I19 74 40).toNat)) < 10) ∧ (WPm (k - 1) LAY m_X12_must_ [vR (some 74), vL 431415715444] (mem (P, some 5, some 22) I24 (sl J25 100 (((5 * (gi I19 74 40)) + (gi I19 86 (gi I19 74 40).toNat)) : Int).toNat v23)) (retV (fun I28 J29 => WPm (k - 1) LAY m_X12_number [vR (some 74), vI 0, vI 9] (mem (P, some 5, some 22) I28 J29) (retI (fun v30 I31 J32 => (¬ (gi I31 74 8) = 0 → (Q none (mem (P, some 5, some 22) (si I31 87 (((5 * (gi I19 74 40)) + (gi I19 86 (gi I19 74 40).toNat)) : Int).toNat v30) J32))) ∧ ((gi I31 74 8) = 0 → ((0 ≤ (gi I31 74 40) ∧ (gi I31 74 40) < 2) ∧ (Q none (mem (P, some 5, some 22) (si (si I31 87 (((5 * (gi I19 74 40)) + (gi I19 86 (gi I19 74 40).toNat)) : Int).toNat v30) 86 (gi I31 74 40).toNat ((gi I31 86 (gi I31 74 40).toNat) + 1)) J32))))) (P, some 5, some 22))) (P, some 5, some 22)))) (P, some 5, some 22))))) ∧ (v18 = 0 → (Q none (mem (P, some 5, some 22) I19 J20))))) (P, some 5, some 22)))))) : WP k LAY m_X12_tabling 0 [(0, vR (some 74))] [] (mem (P, some 5, some 22) I J) Q := by
  refine st_aload_n (pc' := 1) dX12_tabling_0 rfl rfl (j := 0) rfl ?_
  refine st_aload_n (pc' := 2) dX12_tabling_1 rfl rfl (j := 0) rfl ?_
  refine G_X12_84_74 dX12_tabling_2 (pc' := 5) rfl rfl ?_
  refine st_aload_n (pc' := 6) dX12_tabling_5 rfl rfl (j := 0) rfl ?_
  refine G_X12_133_74 dX12_tabling_6 (pc' := 9) rfl rfl ?_
  obtain ⟨e1, h⟩ := h
  refine st_iaload (pc' := 10) (v := (gi I 86 (gi I 74 40).toNat)) dX12_tabling_9 rfl L_86 (by decide) e1 (show gi I 86 (gi I 74 40).toNat = (gi I 86 (gi I 74 40).toNat) from rfl) ?_
  refine st_iconst (pc' := 11) dX12_tabling_10 rfl ?_
  refine st_icmp_ne (tg := 18) (pc' := 14) dX12_tabling_11 (by decide) rfl (gi_in _ _ _) (by decide) (fun c => ?_) (fun c => ?_)
  · replace h := h.1 c
    refine st_iconst (pc' := 19) dX12_tabling_18 rfl ?_
    refine st_callV (pc' := 22) (kc := k - 1) (E' := LAY) (cal := m_X12_counts) (n := 1) (as := [vI 0]) (S := []) dX12_tabling_19 rfl l_X12_410 k_X12_counts rfl L_74 c_X12 rfl rfl (Nat.le_of_ble_eq_true rfl) (by omega) ⟨Nat.le_refl _, Nat.le_refl _, Nat.le_refl _, Nat.le_refl _⟩ h (fun r M' q => ?_)
    obtain ⟨v2, I3, J4, rfl, rfl, h⟩ := q
    change WP _ LAY m_X12_tabling 22 [(0, vR (some 74))] [vI v2] (mem (P, some 5, some 22) I3 J4) Q
    obtain ⟨e5, h⟩ := h
    refine st_if_ne (tg := 26) (pc' := 25) dX12_tabling_22 (by decide) rfl e5 (fun c => ?_) (fun c => ?_)
    · replace h := h.1 c
      refine st_iconst (pc' := 27) dX12_tabling_26 rfl ?_
      refine st_aload_n (pc' := 28) dX12_tabling_27 rfl rfl (j := 0) rfl ?_
      refine G_X12_133_74 dX12_tabling_28 (pc' := 31) rfl rfl ?_
      refine st_imul (pc' := 32) dX12_tabling_31 rfl ?_
      refine st_aload_n (pc' := 33) dX12_tabling_32 rfl rfl (j := 0) rfl ?_
      refine G_X12_84_74 dX12_tabling_33 (pc' := 36) rfl rfl ?_
      refine st_aload_n (pc' := 37) dX12_tabling_36 rfl rfl (j := 0) rfl ?_
      refine G_X12_133_74 dX12_tabling_37 (pc' := 40) rfl rfl ?_
      obtain ⟨e6, h⟩ := h
      refine st_iaload (pc' := 41) (v := (gi I3 86 (gi I3 74 40).toNat)) dX12_tabling_40 rfl L_86 (by decide) e6 (show gi I3 86 (gi I3 74 40).toNat = (gi I3 86 (gi I3 74 40).toNat) from rfl) ?_
      refine st_iadd (pc' := 42) dX12_tabling_41 rfl ?_
      refine st_istore_n (pc' := 43) (L' := [(1, vI ((5 * (gi I3 74 40)) + (gi I3 86 (gi I3 74 40).toNat))), (0, vR (some 74))]) dX12_tabling_42 rfl rfl (by decide) rfl ?_
      refine st_aload_n (pc' := 44) dX12_tabling_43 rfl rfl (j := 1) rfl ?_
      refine G_X12_127_74 dX12_tabling_44 (pc' := 47) rfl rfl ?_
      refine st_iload_n (pc' := 48) dX12_tabling_47 rfl rfl (j := 0) rfl ?_
      refine st_aload_n (pc' := 49) dX12_tabling_48 rfl rfl (j := 1) rfl ?_
      refine st_callV (pc' := 52) (kc := k - 1) (E' := LAY) (cal := m_X12_fresh) (n := 0) (as := []) (S := [vI ((5 * (gi I3 74 40)) + (gi I3 86 (gi I3 74 40).toNat)), vR (some 100)]) dX12_tabling_49 rfl l_X12_414 k_X12_fresh rfl L_74 c_X12 rfl rfl (Nat.le_of_ble_eq_true rfl) (by omega) ⟨Nat.le_refl _, Nat.le_refl _, Nat.le_refl _, Nat.le_refl _⟩ h (fun r M' q => ?_)
      obtain ⟨v7, I8, J9, rfl, rfl, h⟩ := q
      change WP _ LAY m_X12_tabling 52 [(1, vI ((5 * (gi I3 74 40)) + (gi I3 86 (gi I3 74 40).toNat))), (0, vR (some 74))] [vL v7, vI ((5 * (gi I3 74 40)) + (gi I3 86 (gi I3 74 40).toNat)), vR (some 100)] (mem (P, some 5, some 22) I8 J9) Q
      obtain ⟨e10, h⟩ := h
      refine st_lastore (pc' := 53) (M' := (mem (P, some 5, some 22) I8 (sl J9 100 (((5 * (gi I3 74 40)) + (gi I3 86 (gi I3 74 40).toNat)) : Int).toNat v7))) dX12_tabling_52 rfl L_100 (by decide) e10 rfl ?_
      refine st_aload_n (pc' := 54) dX12_tabling_53 rfl rfl (j := 1) rfl ?_
      refine st_ldc2 (pc' := 57) (z := 431415715444) dX12_tabling_54 rfl q_X12_331 (by decide) ?_
      refine st_callV (pc' := 60) (kc := k - 1) (E' := LAY) (cal := m_X12_must_) (n := 1) (as := [vL 431415715444]) (S := []) dX12_tabling_57 rfl l_X12_418 k_X12_must_ rfl L_74 c_X12 rfl rfl (Nat.le_of_ble_eq_true rfl) (by omega) ⟨Nat.le_refl _, Nat.le_refl _, Nat.le_refl _, Nat.le_refl _⟩ h (fun r M' q => ?_)
      obtain ⟨I12, J13, rfl, rfl, h⟩ := q
      change WP _ LAY m_X12_tabling 60 [(1, vI ((5 * (gi I3 74 40)) + (gi I3 86 (gi I3 74 40).toNat))), (0, vR (some 74))] [] (mem (P, some 5, some 22) I12 J13) Q
      refine st_aload_n (pc' := 61) dX12_tabling_60 rfl rfl (j := 1) rfl ?_
      refine G_X12_87_74 dX12_tabling_61 (pc' := 64) rfl rfl ?_
      refine st_iload_n (pc' := 65) dX12_tabling_64 rfl rfl (j := 0) rfl ?_
      refine st_aload_n (pc' := 66) dX12_tabling_65 rfl rfl (j := 1) rfl ?_
      refine st_iconst (pc' := 67) dX12_tabling_66 rfl ?_
      refine st_bipush (pc' := 69) dX12_tabling_67 rfl (by decide) ?_
      refine st_callV (pc' := 72) (kc := k - 1) (E' := LAY) (cal := m_X12_number) (n := 2) (as := [vI 0, vI 9]) (S := [vI ((5 * (gi I3 74 40)) + (gi I3 86 (gi I3 74 40).toNat)), vR (some 87)]) dX12_tabling_69 rfl l_X12_425 k_X12_number rfl L_74 c_X12 rfl rfl (Nat.le_of_ble_eq_true rfl) (by omega) ⟨Nat.le_refl _, Nat.le_refl _, Nat.le_refl _, Nat.le_refl _⟩ h (fun r M' q => ?_)
      obtain ⟨v14, I15, J16, rfl, rfl, h⟩ := q
      change WP _ LAY m_X12_tabling 72 [(1, vI ((5 * (gi I3 74 40)) + (gi I3 86 (gi I3 74 40).toNat))), (0, vR (some 74))] [vI v14, vI ((5 * (gi I3 74 40)) + (gi I3 86 (gi I3 74 40).toNat)), vR (some 87)] (mem (P, some 5, some 22) I15 J16) Q
      refine st_iastore (pc' := 73) (M' := (mem (P, some 5, some 22) (si I15 87 (((5 * (gi I3 74 40)) + (gi I3 86 (gi I3 74 40).toNat)) : Int).toNat v14) J16)) dX12_tabling_72 rfl L_87 (by decide) e10 rfl ?_
      refine st_aload_n (pc' := 74) dX12_tabling_73 rfl rfl (j := 1) rfl ?_
      refine G_X12_36_74 dX12_tabling_74 (pc' := 77) rfl rfl ?_
      rw [show gi (si I15 87 (((5 * (gi I3 74 40)) + (gi I3 86 (gi I3 74 40).toNat)) : Int).toNat v14) 74 8 = (gi I15 74 8) from (gi_cell _ _ _ _ (by decide))]
      refine st_if_ne (tg := 93) (pc' := 80) dX12_tabling_77 (by decide) rfl (gi_in _ _ _) (fun c => ?_) (fun c => ?_)
      · replace h := h.1 c
        exact st_vret dX12_tabling_93 rfl rfl h
      · replace h := h.2 c
        refine st_aload_n (pc' := 81) dX12_tabling_80 rfl rfl (j := 1) rfl ?_
        refine G_X12_84_74 dX12_tabling_81 (pc' := 84) rfl rfl ?_
        refine st_aload_n (pc' := 85) dX12_tabling_84 rfl rfl (j := 1) rfl ?_
        refine G_X12_133_74 dX12_tabling_85 (pc' := 88) rfl rfl ?_
        rw [show gi (si I15 87 (((5 * (gi I3 74 40)) + (gi I3 86 (gi I3 74 40).toNat)) : Int).toNat v14) 74 40 = (gi I15 74 40) from (gi_cell _ _ _ _ (by decide))]
        refine st_dup2 (pc' := 89) dX12_tabling_88 rfl rfl rfl ?_
        obtain ⟨e17, h⟩ := h
        refine st_iaload (pc' := 90) (v := (gi I15 86 (gi I15 74 40).toNat)) dX12_tabling_89 rfl L_86 (by decide) e17 (show gi (si I15 87 (((5 * (gi I3 74 40)) + (gi I3 86 (gi I3 74 40).toNat)) : Int).toNat v14) 86 (gi I15 74 40).toNat = (gi I15 86 (gi I15 74 40).toNat) from (gi_cell _ _ _ _ (by decide))) ?_
        refine st_iconst (pc' := 91) dX12_tabling_90 rfl ?_
        refine st_iadd (pc' := 92) dX12_tabling_91 rfl ?_
        refine st_iastore (pc' := 93) (M' := (mem (P, some 5, some 22) (si (si I15 87 (((5 * (gi I3 74 40)) + (gi I3 86 (gi I3 74 40).toNat)) : Int).toNat v14) 86 (gi I15 74 40).toNat ((gi I15 86 (gi I15 74 40).toNat) + 1)) J16)) dX12_tabling_92 rfl L_86 (by decide) e17 rfl ?_
        exact st_vret dX12_tabling_93 rfl rfl h
    · replace h := h.2 c
      exact st_vret dX12_tabling_25 rfl rfl h
  · replace h := h.2 c
    refine st_iconst (pc' := 15) dX12_tabling_14 rfl ?_
    refine st_goto (pc' := 19) dX12_tabling_15 (by decide) ?_
    refine st_callV (pc' := 22) (kc := k - 1) (E' := LAY) (cal := m_X12_counts) (n := 1) (as := [vI 1]) (S := []) dX12_tabling_19 rfl l_X12_410 k_X12_counts rfl L_74 c_X12 rfl rfl (Nat.le_of_ble_eq_true rfl) (by omega) ⟨Nat.le_refl _, Nat.le_refl _, Nat.le_refl _, Nat.le_refl _⟩ h (fun r M' q => ?_)
    obtain ⟨v18, I19, J20, rfl, rfl, h⟩ := q
    change WP _ LAY m_X12_tabling 22 [(0, vR (some 74))] [vI v18] (mem (P, some 5, some 22) I19 J20) Q
    obtain ⟨e21, h⟩ := h
    refine st_if_ne (tg := 26) (pc' := 25) dX12_tabling_22 (by decide) rfl e21 (fun c => ?_) (fun c => ?_)
    · replace h := h.1 c
      refine st_iconst (pc' := 27) dX12_tabling_26 rfl ?_
      refine st_aload_n (pc' := 28) dX12_tabling_27 rfl rfl (j := 0) rfl ?_
      refine G_X12_133_74 dX12_tabling_28 (pc' := 31) rfl rfl ?_
      refine st_imul (pc' := 32) dX12_tabling_31 rfl ?_
      refine st_aload_n (pc' := 33) dX12_tabling_32 rfl rfl (j := 0) rfl ?_
      refine G_X12_84_74 dX12_tabling_33 (pc' := 36) rfl rfl ?_
      refine st_aload_n (pc' := 37) dX12_tabling_36 rfl rfl (j := 0) rfl ?_
      refine G_X12_133_74 dX12_tabling_37 (pc' := 40) rfl rfl ?_
      obtain ⟨e22, h⟩ := h
      refine st_iaload (pc' := 41) (v := (gi I19 86 (gi I19 74 40).toNat)) dX12_tabling_40 rfl L_86 (by decide) e22 (show gi I19 86 (gi I19 74 40).toNat = (gi I19 86 (gi I19 74 40).toNat) from rfl) ?_
      refine st_iadd (pc' := 42) dX12_tabling_41 rfl ?_
      refine st_istore_n (pc' := 43) (L' := [(1, vI ((5 * (gi I19 74 40)) + (gi I19 86 (gi I19 74 40).toNat))), (0, vR (some 74))]) dX12_tabling_42 rfl rfl (by decide) rfl ?_
      refine st_aload_n (pc' := 44) dX12_tabling_43 rfl rfl (j := 1) rfl ?_
      refine G_X12_127_74 dX12_tabling_44 (pc' := 47) rfl rfl ?_
      refine st_iload_n (pc' := 48) dX12_tabling_47 rfl rfl (j := 0) rfl ?_
      refine st_aload_n (pc' := 49) dX12_tabling_48 rfl rfl (j := 1) rfl ?_
      refine st_callV (pc' := 52) (kc := k - 1) (E' := LAY) (cal := m_X12_fresh) (n := 0) (as := []) (S := [vI ((5 * (gi I19 74 40)) + (gi I19 86 (gi I19 74 40).toNat)), vR (some 100)]) dX12_tabling_49 rfl l_X12_414 k_X12_fresh rfl L_74 c_X12 rfl rfl (Nat.le_of_ble_eq_true rfl) (by omega) ⟨Nat.le_refl _, Nat.le_refl _, Nat.le_refl _, Nat.le_refl _⟩ h (fun r M' q => ?_)
      obtain ⟨v23, I24, J25, rfl, rfl, h⟩ := q
      change WP _ LAY m_X12_tabling 52 [(1, vI ((5 * (gi I19 74 40)) + (gi I19 86 (gi I19 74 40).toNat))), (0, vR (some 74))] [vL v23, vI ((5 * (gi I19 74 40)) + (gi I19 86 (gi I19 74 40).toNat)), vR (some 100)] (mem (P, some 5, some 22) I24 J25) Q
      obtain ⟨e26, h⟩ := h
      refine st_lastore (pc' := 53) (M' := (mem (P, some 5, some 22) I24 (sl J25 100 (((5 * (gi I19 74 40)) + (gi I19 86 (gi I19 74 40).toNat)) : Int).toNat v23))) dX12_tabling_52 rfl L_100 (by decide) e26 rfl ?_
      refine st_aload_n (pc' := 54) dX12_tabling_53 rfl rfl (j := 1) rfl ?_
      refine st_ldc2 (pc' := 57) (z := 431415715444) dX12_tabling_54 rfl q_X12_331 (by decide) ?_
      refine st_callV (pc' := 60) (kc := k - 1) (E' := LAY) (cal := m_X12_must_) (n := 1) (as := [vL 431415715444]) (S := []) dX12_tabling_57 rfl l_X12_418 k_X12_must_ rfl L_74 c_X12 rfl rfl (Nat.le_of_ble_eq_true rfl) (by omega) ⟨Nat.le_refl _, Nat.le_refl _, Nat.le_refl _, Nat.le_refl _⟩ h (fun r M' q => ?_)
      obtain ⟨I28, J29, rfl, rfl, h⟩ := q
      change WP _ LAY m_X12_tabling 60 [(1, vI ((5 * (gi I19 74 40)) + (gi I19 86 (gi I19 74 40).toNat))), (0, vR (some 74))] [] (mem (P, some 5, some 22) I28 J29) Q
      refine st_aload_n (pc' := 61) dX12_tabling_60 rfl rfl (j := 1) rfl ?_
      refine G_X12_87_74 dX12_tabling_61 (pc' := 64) rfl rfl ?_
      refine st_iload_n (pc' := 65) dX12_tabling_64 rfl rfl (j := 0) rfl ?_
      refine st_aload_n (pc' := 66) dX12_tabling_65 rfl rfl (j := 1) rfl ?_
      refine st_iconst (pc' := 67) dX12_tabling_66 rfl ?_
      refine st_bipush (pc' := 69) dX12_tabling_67 rfl (by decide) ?_
      refine st_callV (pc' := 72) (kc := k - 1) (E' := LAY) (cal := m_X12_number) (n := 2) (as := [vI 0, vI 9]) (S := [vI ((5 * (gi I19 74 40)) + (gi I19 86 (gi I19 74 40).toNat)), vR (some 87)]) dX12_tabling_69 rfl l_X12_425 k_X12_number rfl L_74 c_X12 rfl rfl (Nat.le_of_ble_eq_true rfl) (by omega) ⟨Nat.le_refl _, Nat.le_refl _, Nat.le_refl _, Nat.le_refl _⟩ h (fun r M' q => ?_)
      obtain ⟨v30, I31, J32, rfl, rfl, h⟩ := q
      change WP _ LAY m_X12_tabling 72 [(1, vI ((5 * (gi I19 74 40)) + (gi I19 86 (gi I19 74 40).toNat))), (0, vR (some 74))] [vI v30, vI ((5 * (gi I19 74 40)) + (gi I19 86 (gi I19 74 40).toNat)), vR (some 87)] (mem (P, some 5, some 22) I31 J32) Q
      refine st_iastore (pc' := 73) (M' := (mem (P, some 5, some 22) (si I31 87 (((5 * (gi I19 74 40)) + (gi I19 86 (gi I19 74 40).toNat)) : Int).toNat v30) J32)) dX12_tabling_72 rfl L_87 (by decide) e26 rfl ?_
      refine st_aload_n (pc' := 74) dX12_tabling_73 rfl rfl (j := 1) rfl ?_
      refine G_X12_36_74 dX12_tabling_74 (pc' := 77) rfl rfl ?_
      rw [show gi (si I31 87 (((5 * (gi I19 74 40)) + (gi I19 86 (gi I19 74 40).toNat)) : Int).toNat v30) 74 8 = (gi I31 74 8) from (gi_cell _ _ _ _ (by decide))]
      refine st_if_ne (tg := 93) (pc' := 80) dX12_tabling_77 (by decide) rfl (gi_in _ _ _) (fun c => ?_) (fun c => ?_)
      · replace h := h.1 c
        exact st_vret dX12_tabling_93 rfl rfl h
      · replace h := h.2 c
        refine st_aload_n (pc' := 81) dX12_tabling_80 rfl rfl (j := 1) rfl ?_
        refine G_X12_84_74 dX12_tabling_81 (pc' := 84) rfl rfl ?_
        refine st_aload_n (pc' := 85) dX12_tabling_84 rfl rfl (j := 1) rfl ?_
        refine G_X12_133_74 dX12_tabling_85 (pc' := 88) rfl rfl ?_
        rw [show gi (si I31 87 (((5 * (gi I19 74 40)) + (gi I19 86 (gi I19 74 40).toNat)) : Int).toNat v30) 74 40 = (gi I31 74 40) from (gi_cell _ _ _ _ (by decide))]
        refine st_dup2 (pc' := 89) dX12_tabling_88 rfl rfl rfl ?_
        obtain ⟨e33, h⟩ := h
        refine st_iaload (pc' := 90) (v := (gi I31 86 (gi I31 74 40).toNat)) dX12_tabling_89 rfl L_86 (by decide) e33 (show gi (si I31 87 (((5 * (gi I19 74 40)) + (gi I19 86 (gi I19 74 40).toNat)) : Int).toNat v30) 86 (gi I31 74 40).toNat = (gi I31 86 (gi I31 74 40).toNat) from (gi_cell _ _ _ _ (by decide))) ?_
        refine st_iconst (pc' := 91) dX12_tabling_90 rfl ?_
        refine st_iadd (pc' := 92) dX12_tabling_91 rfl ?_
        refine st_iastore (pc' := 93) (M' := (mem (P, some 5, some 22) (si (si I31 87 (((5 * (gi I19 74 40)) + (gi I19 86 (gi I19 74 40).toNat)) : Int).toNat v30) 86 (gi I31 74 40).toNat ((gi I31 86 (gi I31 74 40).toNat) + 1)) J32)) dX12_tabling_92 rfl L_86 (by decide) e33 rfl ?_
        exact st_vret dX12_tabling_93 rfl rfl h
    · replace h := h.2 c
      exact st_vret dX12_tabling_25 rfl rfl h
set_option maxRecDepth 20000 in
set_option maxHeartbeats 4000000 in
theorem B_X12_taking_0 {k : Nat} {P : Option Nat} {I : Nat → Nat → Int32} {J : Nat → Nat → Int64}  {Q : Option AV → Mem → Prop} (hk : 1 ≤ k) (h : (0 ≤ (gi I 74 40) ∧ (gi I 74 40) < 2) ∧ (((gi I 91 (gi I 74 40).toNat) = (-1) → (WPm (k - 1) LAY m_X12_counts [vR (some 74), vI 0] (mem (P, some 5, some 22) I J) (retI (fun v2 I3 J4 => inR v2 ∧ ((¬ v2 = 0 → ((0 ≤ (gi I3 74 40) ∧ (gi I3 74 40) < 2) ∧ (WPm (k - 1) LAY m_X12_reads [vR (some 74), vI 0] (mem (P, some 5, some 22) (si I3 91 (gi I3 74 40).toNat (gi I3 74 39)) J4) (retV (fun I8 J9 => (0 ≤ (gi I8 74 40) ∧ (gi I8 74 40) < 2) ∧ (Q none (mem (P, some 5, some 22) (si I8 92 (gi I8 74 40).toNat (gi I8 74 39)) J9))) (P, some 5, some 22))))) ∧ (v2 = 0 → (Q none (mem (P, some 5, some 22) I3 J4))))) (P, some 5, some 22)))) ∧ (¬ (gi I 91 (gi I 74 40).toNat) = (-1) → (WPm (k - 1) LAY m_X12_counts [vR (some 74), vI 1] (mem (P, some 5, some 22) I J) (retI (fun v11 I12 J13 => inR v11 ∧ ((¬ v11 = 0 → ((0 ≤ (gi I12 74 40) ∧ (gi I12 74 40) < 2) ∧ (WPm (k - 1) LAY m_X12_reads [vR (some 74), vI 0] (mem (P, some 5, some 22) (si I12 91 (gi I12 74 40).toNat (gi I12 74 39)) J13) (retV (fun I17 J18 => (0 ≤ (gi I17 74 40) ∧ (gi I17 74 40) < 2) ∧ (Q none (mem (P, some 5, some 22) (si I17 92 (gi I17 74 40).toNat (gi I17 74 39)) J18))) (P, some 5, some 22))))) ∧ (v11 = 0 → (Q none (mem (P, some 5, some 22) I12 J13))))) (P, some 5, some 22)))))) : WP k LAY m_X12_taking 0 [(0, vR (some 74))] [] (mem (P, some 5, some 22) I J) Q := by
  refine st_aload_n (pc' := 1) dX12_taking_0 rfl rfl (j := 0) rfl ?_
  refine st_aload_n (pc' := 2) dX12_taking_1 rfl rfl (j := 0) rfl ?_
  refine G_X12_99_74 dX12_taking_2 (pc' := 5) rfl rfl ?_
  refine st_aload_n (pc' := 6) dX12_taking_5 rfl rfl (j := 0) rfl ?_
  refine G_X12_133_74 dX12_taking_6 (pc' := 9) rfl rfl ?_
  obtain ⟨e1, h⟩ := h
  refine st_iaload (pc' := 10) (v := (gi I 91 (gi I 74 40).toNat)) dX12_taking_9 rfl L_91 (by decide) e1 (show gi I 91 (gi I 74 40).toNat = (gi I 91 (gi I 74 40).toNat) from rfl) ?_
  refine st_iconst (pc' := 11) dX12_taking_10 rfl ?_
  refine st_icmp_eq (tg := 18) (pc' := 14) dX12_taking_11 (by decide) rfl (gi_in _ _ _) (by decide) (fun c => ?_) (fun c => ?_)
  · replace h := h.1 c
    refine st_iconst (pc' := 19) dX12_taking_18 rfl ?_
    refine st_callV (pc' := 22) (kc := k - 1) (E' := LAY) (cal := m_X12_counts) (n := 1) (as := [vI 0]) (S := []) dX12_taking_19 rfl l_X12_410 k_X12_counts rfl L_74 c_X12 rfl rfl (Nat.le_of_ble_eq_true rfl) (by omega) ⟨Nat.le_refl _, Nat.le_refl _, Nat.le_refl _, Nat.le_refl _⟩ h (fun r M' q => ?_)
    obtain ⟨v2, I3, J4, rfl, rfl, h⟩ := q
    change WP _ LAY m_X12_taking 22 [(0, vR (some 74))] [vI v2] (mem (P, some 5, some 22) I3 J4) Q
    obtain ⟨e5, h⟩ := h
    refine st_if_ne (tg := 26) (pc' := 25) dX12_taking_22 (by decide) rfl e5 (fun c => ?_) (fun c => ?_)
    · replace h := h.1 c
      refine st_aload_n (pc' := 27) dX12_taking_26 rfl rfl (j := 0) rfl ?_
      refine G_X12_99_74 dX12_taking_27 (pc' := 30) rfl rfl ?_
      refine st_aload_n (pc' := 31) dX12_taking_30 rfl rfl (j := 0) rfl ?_
      refine G_X12_133_74 dX12_taking_31 (pc' := 34) rfl rfl ?_
      refine st_aload_n (pc' := 35) dX12_taking_34 rfl rfl (j := 0) rfl ?_
      refine G_X12_130_74 dX12_taking_35 (pc' := 38) rfl rfl ?_
      obtain ⟨e6, h⟩ := h
      refine st_iastore (pc' := 39) (M' := (mem (P, some 5, some 22) (si I3 91 (gi I3 74 40).toNat (gi I3 74 39)) J4)) dX12_taking_38 rfl L_91 (by decide) e6 rfl ?_
      refine st_aload_n (pc' := 40) dX12_taking_39 rfl rfl (j := 0) rfl ?_
      refine st_iconst (pc' := 41) dX12_taking_40 rfl ?_
      refine st_callV (pc' := 44) (kc := k - 1) (E' := LAY) (cal := m_X12_reads) (n := 1) (as := [vI 0]) (S := []) dX12_taking_41 rfl l_X12_428 k_X12_reads rfl L_74 c_X12 rfl rfl (Nat.le_of_ble_eq_true rfl) (by omega) ⟨Nat.le_refl _, Nat.le_refl _, Nat.le_refl _, Nat.le_refl _⟩ h (fun r M' q => ?_)
      obtain ⟨I8, J9, rfl, rfl, h⟩ := q
      change WP _ LAY m_X12_taking 44 [(0, vR (some 74))] [] (mem (P, some 5, some 22) I8 J9) Q
      refine st_aload_n (pc' := 45) dX12_taking_44 rfl rfl (j := 0) rfl ?_
      refine G_X12_102_74 dX12_taking_45 (pc' := 48) rfl rfl ?_
      refine st_aload_n (pc' := 49) dX12_taking_48 rfl rfl (j := 0) rfl ?_
      refine G_X12_133_74 dX12_taking_49 (pc' := 52) rfl rfl ?_
      refine st_aload_n (pc' := 53) dX12_taking_52 rfl rfl (j := 0) rfl ?_
      refine G_X12_130_74 dX12_taking_53 (pc' := 56) rfl rfl ?_
      obtain ⟨e10, h⟩ := h
      refine st_iastore (pc' := 57) (M' := (mem (P, some 5, some 22) (si I8 92 (gi I8 74 40).toNat (gi I8 74 39)) J9)) dX12_taking_56 rfl L_92 (by decide) e10 rfl ?_
      exact st_vret dX12_taking_57 rfl rfl h
    · replace h := h.2 c
      exact st_vret dX12_taking_25 rfl rfl h
  · replace h := h.2 c
    refine st_iconst (pc' := 15) dX12_taking_14 rfl ?_
    refine st_goto (pc' := 19) dX12_taking_15 (by decide) ?_
    refine st_callV (pc' := 22) (kc := k - 1) (E' := LAY) (cal := m_X12_counts) (n := 1) (as := [vI 1]) (S := []) dX12_taking_19 rfl l_X12_410 k_X12_counts rfl L_74 c_X12 rfl rfl (Nat.le_of_ble_eq_true rfl) (by omega) ⟨Nat.le_refl _, Nat.le_refl _, Nat.le_refl _, Nat.le_refl _⟩ h (fun r M' q => ?_)
    obtain ⟨v11, I12, J13, rfl, rfl, h⟩ := q
    change WP _ LAY m_X12_taking 22 [(0, vR (some 74))] [vI v11] (mem (P, some 5, some 22) I12 J13) Q
    obtain ⟨e14, h⟩ := h
    refine st_if_ne (tg := 26) (pc' := 25) dX12_taking_22 (by decide) rfl e14 (fun c => ?_) (fun c => ?_)
    · replace h := h.1 c
      refine st_aload_n (pc' := 27) dX12_taking_26 rfl rfl (j := 0) rfl ?_
      refine G_X12_99_74 dX12_taking_27 (pc' := 30) rfl rfl ?_
      refine st_aload_n (pc' := 31) dX12_taking_30 rfl rfl (j := 0) rfl ?_
      refine G_X12_133_74 dX12_taking_31 (pc' := 34) rfl rfl ?_
      refine st_aload_n (pc' := 35) dX12_taking_34 rfl rfl (j := 0) rfl ?_
      refine G_X12_130_74 dX12_taking_35 (pc' := 38) rfl rfl ?_
      obtain ⟨e15, h⟩ := h
      refine st_iastore (pc' := 39) (M' := (mem (P, some 5, some 22) (si I12 91 (gi I12 74 40).toNat (gi I12 74 39)) J13)) dX12_taking_38 rfl L_91 (by decide) e15 rfl ?_
      refine st_aload_n (pc' := 40) dX12_taking_39 rfl rfl (j := 0) rfl ?_
      refine st_iconst (pc' := 41) dX12_taking_40 rfl ?_
      refine st_callV (pc' := 44) (kc := k - 1) (E' := LAY) (cal := m_X12_reads) (n := 1) (as := [vI 0]) (S := []) dX12_taking_41 rfl l_X12_428 k_X12_reads rfl L_74 c_X12 rfl rfl (Nat.le_of_ble_eq_true rfl) (by omega) ⟨Nat.le_refl _, Nat.le_refl _, Nat.le_refl _, Nat.le_refl _⟩ h (fun r M' q => ?_)
      obtain ⟨I17, J18, rfl, rfl, h⟩ := q
      change WP _ LAY m_X12_taking 44 [(0, vR (some 74))] [] (mem (P, some 5, some 22) I17 J18) Q
      refine st_aload_n (pc' := 45) dX12_taking_44 rfl rfl (j := 0) rfl ?_
      refine G_X12_102_74 dX12_taking_45 (pc' := 48) rfl rfl ?_
      refine st_aload_n (pc' := 49) dX12_taking_48 rfl rfl (j := 0) rfl ?_
      refine G_X12_133_74 dX12_taking_49 (pc' := 52) rfl rfl ?_
      refine st_aload_n (pc' := 53) dX12_taking_52 rfl rfl (j := 0) rfl ?_
      refine G_X12_130_74 dX12_taking_53 (pc' := 56) rfl rfl ?_
      obtain ⟨e19, h⟩ := h
      refine st_iastore (pc' := 57) (M' := (mem (P, some 5, some 22) (si I17 92 (gi I17 74 40).toNat (gi I17 74 39)) J18)) dX12_taking_56 rfl L_92 (by decide) e19 rfl ?_
      exact st_vret dX12_taking_57 rfl rfl h
    · replace h := h.2 c
      exact st_vret dX12_taking_25 rfl rfl h
set_option maxRecDepth 20000 in
set_option maxHeartbeats 4000000 in
theorem B_X12_telling_0 {k : Nat} {P : Option Nat} {I : Nat → Nat → Int32} {J : Nat → Nat → Int64}  {Q : Option AV → Mem → Prop} (hk : 1 ≤ k) (h : (0 ≤ (gi I 74 40) ∧ (gi I 74 40) < 2) ∧ (((gi I 93 (gi I 74 40).toNat) = (-1) → (WPm (k - 1) LAY m_X12_counts [vR (some 74), vI 0] (mem (P, some 5, some 22) I J) (retI (fun v2 I3 J4 => inR v2 ∧ ((¬ v2 = 0 → ((0 ≤ (gi I3 74 40) ∧ (gi I3 74 40) < 2) ∧ (WPm (k - 1) LAY m_X12_reads [vR (some 74), vI 1] (mem (P, some 5, some 22) (si I3 93 (gi I3 74 40).toNat (gi I3 74 39)) J4) (retV (fun I8 J9 => (0 ≤ (gi I8 74 40) ∧ (gi I8 74 40) < 2) ∧ (Q none (mem (P, some 5, some 22) (si I8 94 (gi I8 74 40).toNat (gi I8 74 39)) J9))) (P, some 5, some 22))))) ∧ (v2 = 0 → (Q none (mem (P, some 5, some 22) I3 J4))))) (P, some 5, some 22)))) ∧ (¬ (gi I 93 (gi I 74 40).toNat) = (-1) → (WPm (k - 1) LAY m_X12_counts [vR (some 74), vI 1] (mem (P, some 5, some 22) I J) (retI (fun v11 I12 J13 => inR v11 ∧ ((¬ v11 = 0 → ((0 ≤ (gi I12 74 40) ∧ (gi I12 74 40) < 2) ∧ (WPm (k - 1) LAY m_X12_reads [vR (some 74), vI 1] (mem (P, some 5, some 22) (si I12 93 (gi I12 74 40).toNat (gi I12 74 39)) J13) (retV (fun I17 J18 => (0 ≤ (gi I17 74 40) ∧ (gi I17 74 40) < 2) ∧ (Q none (mem (P, some 5, some 22) (si I17 94 (gi I17 74 40).toNat (gi I17 74 39)) J18))) (P, some 5, some 22))))) ∧ (v11 = 0 → (Q none (mem (P, some 5, some 22) I12 J13))))) (P, some 5, some 22)))))) : WP k LAY m_X12_telling 0 [(0, vR (some 74))] [] (mem (P, some 5, some 22) I J) Q := by
  refine st_aload_n (pc' := 1) dX12_telling_0 rfl rfl (j := 0) rfl ?_
  refine st_aload_n (pc' := 2) dX12_telling_1 rfl rfl (j := 0) rfl ?_
  refine G_X12_105_74 dX12_telling_2 (pc' := 5) rfl rfl ?_
  refine st_aload_n (pc' := 6) dX12_telling_5 rfl rfl (j := 0) rfl ?_
  refine G_X12_133_74 dX12_telling_6 (pc' := 9) rfl rfl ?_
  obtain ⟨e1, h⟩ := h
  refine st_iaload (pc' := 10) (v := (gi I 93 (gi I 74 40).toNat)) dX12_telling_9 rfl L_93 (by decide) e1 (show gi I 93 (gi I 74 40).toNat = (gi I 93 (gi I 74 40).toNat) from rfl) ?_
  refine st_iconst (pc' := 11) dX12_telling_10 rfl ?_
  refine st_icmp_eq (tg := 18) (pc' := 14) dX12_telling_11 (by decide) rfl (gi_in _ _ _) (by decide) (fun c => ?_) (fun c => ?_)
  · replace h := h.1 c
    refine st_iconst (pc' := 19) dX12_telling_18 rfl ?_
    refine st_callV (pc' := 22) (kc := k - 1) (E' := LAY) (cal := m_X12_counts) (n := 1) (as := [vI 0]) (S := []) dX12_telling_19 rfl l_X12_410 k_X12_counts rfl L_74 c_X12 rfl rfl (Nat.le_of_ble_eq_true rfl) (by omega) ⟨Nat.le_refl _, Nat.le_refl _, Nat.le_refl _, Nat.le_refl _⟩ h (fun r M' q => ?_)
    obtain ⟨v2, I3, J4, rfl, rfl, h⟩ := q
    change WP _ LAY m_X12_telling 22 [(0, vR (some 74))] [vI v2] (mem (P, some 5, some 22) I3 J4) Q
    obtain ⟨e5, h⟩ := h
    refine st_if_ne (tg := 26) (pc' := 25) dX12_telling_22 (by decide) rfl e5 (fun c => ?_) (fun c => ?_)
    · replace h := h.1 c
      refine st_aload_n (pc' := 27) dX12_telling_26 rfl rfl (j := 0) rfl ?_
      refine G_X12_105_74 dX12_telling_27 (pc' := 30) rfl rfl ?_
      refine st_aload_n (pc' := 31) dX12_telling_30 rfl rfl (j := 0) rfl ?_
      refine G_X12_133_74 dX12_telling_31 (pc' := 34) rfl rfl ?_
      refine st_aload_n (pc' := 35) dX12_telling_34 rfl rfl (j := 0) rfl ?_
      refine G_X12_130_74 dX12_telling_35 (pc' := 38) rfl rfl ?_
      obtain ⟨e6, h⟩ := h
      refine st_iastore (pc' := 39) (M' := (mem (P, some 5, some 22) (si I3 93 (gi I3 74 40).toNat (gi I3 74 39)) J4)) dX12_telling_38 rfl L_93 (by decide) e6 rfl ?_
      refine st_aload_n (pc' := 40) dX12_telling_39 rfl rfl (j := 0) rfl ?_
      refine st_iconst (pc' := 41) dX12_telling_40 rfl ?_
      refine st_callV (pc' := 44) (kc := k - 1) (E' := LAY) (cal := m_X12_reads) (n := 1) (as := [vI 1]) (S := []) dX12_telling_41 rfl l_X12_428 k_X12_reads rfl L_74 c_X12 rfl rfl (Nat.le_of_ble_eq_true rfl) (by omega) ⟨Nat.le_refl _, Nat.le_refl _, Nat.le_refl _, Nat.le_refl _⟩ h (fun r M' q => ?_)
      obtain ⟨I8, J9, rfl, rfl, h⟩ := q
      change WP _ LAY m_X12_telling 44 [(0, vR (some 74))] [] (mem (P, some 5, some 22) I8 J9) Q
      refine st_aload_n (pc' := 45) dX12_telling_44 rfl rfl (j := 0) rfl ?_
      refine G_X12_108_74 dX12_telling_45 (pc' := 48) rfl rfl ?_
      refine st_aload_n (pc' := 49) dX12_telling_48 rfl rfl (j := 0) rfl ?_
      refine G_X12_133_74 dX12_telling_49 (pc' := 52) rfl rfl ?_
      refine st_aload_n (pc' := 53) dX12_telling_52 rfl rfl (j := 0) rfl ?_
      refine G_X12_130_74 dX12_telling_53 (pc' := 56) rfl rfl ?_
      obtain ⟨e10, h⟩ := h
      refine st_iastore (pc' := 57) (M' := (mem (P, some 5, some 22) (si I8 94 (gi I8 74 40).toNat (gi I8 74 39)) J9)) dX12_telling_56 rfl L_94 (by decide) e10 rfl ?_
      exact st_vret dX12_telling_57 rfl rfl h
    · replace h := h.2 c
      exact st_vret dX12_telling_25 rfl rfl h
  · replace h := h.2 c
    refine st_iconst (pc' := 15) dX12_telling_14 rfl ?_
    refine st_goto (pc' := 19) dX12_telling_15 (by decide) ?_
    refine st_callV (pc' := 22) (kc := k - 1) (E' := LAY) (cal := m_X12_counts) (n := 1) (as := [vI 1]) (S := []) dX12_telling_19 rfl l_X12_410 k_X12_counts rfl L_74 c_X12 rfl rfl (Nat.le_of_ble_eq_true rfl) (by omega) ⟨Nat.le_refl _, Nat.le_refl _, Nat.le_refl _, Nat.le_refl _⟩ h (fun r M' q => ?_)
    obtain ⟨v11, I12, J13, rfl, rfl, h⟩ := q
    change WP _ LAY m_X12_telling 22 [(0, vR (some 74))] [vI v11] (mem (P, some 5, some 22) I12 J13) Q
    obtain ⟨e14, h⟩ := h
    refine st_if_ne (tg := 26) (pc' := 25) dX12_telling_22 (by decide) rfl e14 (fun c => ?_) (fun c => ?_)
    · replace h := h.1 c
      refine st_aload_n (pc' := 27) dX12_telling_26 rfl rfl (j := 0) rfl ?_
      refine G_X12_105_74 dX12_telling_27 (pc' := 30) rfl rfl ?_
      refine st_aload_n (pc' := 31) dX12_telling_30 rfl rfl (j := 0) rfl ?_
      refine G_X12_133_74 dX12_telling_31 (pc' := 34) rfl rfl ?_
      refine st_aload_n (pc' := 35) dX12_telling_34 rfl rfl (j := 0) rfl ?_
      refine G_X12_130_74 dX12_telling_35 (pc' := 38) rfl rfl ?_
      obtain ⟨e15, h⟩ := h
      refine st_iastore (pc' := 39) (M' := (mem (P, some 5, some 22) (si I12 93 (gi I12 74 40).toNat (gi I12 74 39)) J13)) dX12_telling_38 rfl L_93 (by decide) e15 rfl ?_
      refine st_aload_n (pc' := 40) dX12_telling_39 rfl rfl (j := 0) rfl ?_
      refine st_iconst (pc' := 41) dX12_telling_40 rfl ?_
      refine st_callV (pc' := 44) (kc := k - 1) (E' := LAY) (cal := m_X12_reads) (n := 1) (as := [vI 1]) (S := []) dX12_telling_41 rfl l_X12_428 k_X12_reads rfl L_74 c_X12 rfl rfl (Nat.le_of_ble_eq_true rfl) (by omega) ⟨Nat.le_refl _, Nat.le_refl _, Nat.le_refl _, Nat.le_refl _⟩ h (fun r M' q => ?_)
      obtain ⟨I17, J18, rfl, rfl, h⟩ := q
      change WP _ LAY m_X12_telling 44 [(0, vR (some 74))] [] (mem (P, some 5, some 22) I17 J18) Q
      refine st_aload_n (pc' := 45) dX12_telling_44 rfl rfl (j := 0) rfl ?_
      refine G_X12_108_74 dX12_telling_45 (pc' := 48) rfl rfl ?_
      refine st_aload_n (pc' := 49) dX12_telling_48 rfl rfl (j := 0) rfl ?_
      refine G_X12_133_74 dX12_telling_49 (pc' := 52) rfl rfl ?_
      refine st_aload_n (pc' := 53) dX12_telling_52 rfl rfl (j := 0) rfl ?_
      refine G_X12_130_74 dX12_telling_53 (pc' := 56) rfl rfl ?_
      obtain ⟨e19, h⟩ := h
      refine st_iastore (pc' := 57) (M' := (mem (P, some 5, some 22) (si I17 94 (gi I17 74 40).toNat (gi I17 74 39)) J18)) dX12_telling_56 rfl L_94 (by decide) e19 rfl ?_
      exact st_vret dX12_telling_57 rfl rfl h
    · replace h := h.2 c
      exact st_vret dX12_telling_25 rfl rfl h
set_option maxRecDepth 20000 in
set_option maxHeartbeats 4000000 in
theorem B_X12_statement_0 {k : Nat} {P : Option Nat} {I : Nat → Nat → Int32} {J : Nat → Nat → Int64}  {Q : Option AV → Mem → Prop} (hk : 2 ≤ k) (h : ((gi I 74 12) = (-1) → (((gi I 74 8) ≤ 0 → ((¬ (gi I 74 3 = 1 ∧ gl J 74 7 = 1651470187) → ((¬ (gi I 74 3 = 1 ∧ gl J 74 7 = 1885431653) → ((¬ (gi I 74 3 = 1 ∧ gl J 74 7 = 474147546227) → ((¬ (gi I 74 3 = 1 ∧ gl J 74 7 = 125779751232882) → ((¬ (gi I 74 3 = 1 ∧ gl J 74 7 = 499850046565) → ((¬ (gi I 74 3 = 1 ∧ gl J 74 7 = 1768842088) → ((¬ (gi I 74 3 = 1 ∧ gl J 74 7 = 422877228659) → ((¬ (gi I 74 3 = 1 ∧ gl J 74 7 = 499850634611) → ((¬ (gi I 74 3 = 1 ∧ gl J 74 7 = 499917810803) → (((gi I 74 8) ≤ 0 → (Q none (mem (P, some 5, some 22) (si (si I 74 8 1) 74 9 (gi I 74 4)) J))) ∧ (¬ (gi I 74 8) ≤ 0 → (Q none (mem (P, some 5, some 22) I J))))) ∧ ((gi I 74 3 = 1 ∧ gl J 74 7 = 499917810803) → (WPm (k - 1) LAY m_X12_telling [vR (some 74)] (mem (P, some 5, some 22) I J) (retV (fun I2 J3 => Q none (mem (P, some 5, some 22) I2 J3)) (P, some 5, some 22)))))) ∧ ((gi I 74 3 = 1 ∧ gl J 74 7 = 499850634611) → (WPm (k - 1) LAY m_X12_taking [vR (some 74)] (mem (P, some 5, some 22) I J) (retV (fun I5 J6 => Q none (mem (P, some 5, some 22) I5 J6)) (P, some 5, some 22)))))) ∧ ((gi I 74 3 = 1 ∧ gl J 74 7 = 422877228659) → (WPm (k - 1) LAY m_X12_burning [vR (some 74)] (mem (P, some 5, some 22) I J) (retV (fun I8 J9 => Q none (mem (P, some 5, some 22) I8 J9)) (P, some 5, some 22)))))) ∧ ((gi I 74 3 = 1 ∧ gl J 74 7 = 1768842088) → (WPm (k - 1) LAY m_X12_inching [vR (some 74)] (mem (P, some 5, some 22) I J) (retV (fun I11 J12 => Q none (mem (P, some 5, some 22) I11 J12)) (P, some 5, some 22)))))) ∧ ((gi I 74 3 = 1 ∧ gl J 74 7 = 499850046565) → (WPm (k - 1) LAY m_X12_tabling [vR (some 74)] (mem (P, some 5, some 22) I J) (retV (fun I14 J15 => Q none (mem (P, some 5, some 22) I14 J15)) (P, some 5, some 22)))))) ∧ ((gi I 74 3 = 1 ∧ gl J 74 7 = 125779751232882) → (WPm (k - 1) LAY m_X12_readering [vR (some 74)] (mem (P, some 5, some 22) I J) (retV (fun I17 J18 => Q none (mem (P, some 5, some 22) I17 J18)) (P, some 5, some 22)))))) ∧ ((gi I 74 3 = 1 ∧ gl J 74 7 = 474147546227) → (WPm (k - 1) LAY m_X12_needing [vR (some 74)] (mem (P, some 5, some 22) I J) (retV (fun I20 J21 => Q none (mem (P, some 5, some 22) I20 J21)) (P, some 5, some 22)))))) ∧ ((gi I 74 3 = 1 ∧ gl J 74 7 = 1885431653) → (WPm (k - 1) LAY m_X12_paging [vR (some 74)] (mem (P, some 5, some 22) I J) (retV (fun I23 J24 => Q none (mem (P, some 5, some 22) I23 J24)) (P, some 5, some 22)))))) ∧ ((gi I 74 3 = 1 ∧ gl J 74 7 = 1651470187) → (WPm (k - 1) LAY m_X12_booking [vR (some 74)] (mem (P, some 5, some 22) I J) (retV (fun I26 J27 => Q none (mem (P, some 5, some 22) I26 J27)) (P, some 5, some 22)))))) ∧ (¬ (gi I 74 8) ≤ 0 → (Q none (mem (P, some 5, some 22) I J))))) ∧ (¬ (gi I 74 12) = (-1) → (((gi I 74 8) ≤ 0 → (Q none (mem (P, some 5, some 22) (si (si I 74 8 1) 74 9 (gi I 74 12)) J))) ∧ (¬ (gi I 74 8) ≤ 0 → (((gi I 74 8) ≤ 0 → ((¬ (gi I 74 3 = 1 ∧ gl J 74 7 = 1651470187) → ((¬ (gi I 74 3 = 1 ∧ gl J 74 7 = 1885431653) → ((¬ (gi I 74 3 = 1 ∧ gl J 74 7 = 474147546227) → ((¬ (gi I 74 3 = 1 ∧ gl J 74 7 = 125779751232882) → ((¬ (gi I 74 3 = 1 ∧ gl J 74 7 = 499850046565) → ((¬ (gi I 74 3 = 1 ∧ gl J 74 7 = 1768842088) → ((¬ (gi I 74 3 = 1 ∧ gl J 74 7 = 422877228659) → ((¬ (gi I 74 3 = 1 ∧ gl J 74 7 = 499850634611) → ((¬ (gi I 74 3 = 1 ∧ gl J 74 7 = 499917810803) → (((gi I 74 8) ≤ 0 → (Q none (mem (P, some 5, some 22) (si (si I 74 8 1) 74 9 (gi I 74 4)) J))) ∧ (¬ (gi I 74 8) ≤ 0 → (Q none (mem (P, some 5, some 22) I J))))) ∧ ((gi I 74 3 = 1 ∧ gl J 74 7 = 499917810803) → (WPm (k - 1) LAY m_X12_telling [vR (some 74)] (mem (P, some 5, some 22) I J) (retV (fun I29 J30 => Q none (mem (P, some 5, some 22) I29 J30)) (P, some 5, some 22)))))) ∧ ((gi I 74 3 = 1 ∧ gl J 74 7 = 499850634611) → (WPm (k - 1) LAY m_X12_taking [vR (some 74)] (mem (P, some 5, some 22) I J) (retV (fun I32 J33 => Q none (mem (P, some 5, some 22) I32 J33)) (P, some 5, some 22)))))) ∧ ((gi I 74 3 = 1 ∧ gl J 74 7 = 422877228659) → (WPm (k - 1) LAY m_X12_burning [vR (some 74)] (mem (P, some 5, some 22) I J) (retV (fun I35 J36 => Q none (mem (P, some 5, some 22) I35 J36)) (P, some 5, some 22)))))) ∧ ((gi I 74 3 = 1 ∧ gl J 74 7 = 1768842088) → (WPm (k - 1) LAY m_X12_inching [vR (some 74)] (mem (P, some 5, some 22) I J) (retV (fun I38 J39 => Q none (mem (P, some 5, some 22) I38 J39)) (P, some 5, some 22)))))) ∧ ((gi I 74 3 = 1 ∧ gl J 74 7 = 499850046565) → (WPm (k - 1) LAY m_X12_tabling [vR (some 74)] (mem (P, some 5, some 22) I J) (retV (fun I41 J42 => Q none (mem (P, some 5, some 22) I41 J42)) (P, some 5, some 22)))))) ∧ ((gi I 74 3 = 1 ∧ gl J 74 7 = 125779751232882) → (WPm (k - 1) LAY m_X12_readering [vR (some 74)] (mem (P, some 5, some 22) I J) (retV (fun I44 J45 => Q none (mem (P, some 5, some 22) I44 J45)) (P, some 5, some 22)))))) ∧ ((gi I 74 3 = 1 ∧ gl J 74 7 = 474147546227) → (WPm (k - 1) LAY m_X12_needing [vR (some 74)] (mem (P, some 5, some 22) I J) (retV (fun I47 J48 => Q none (mem (P, some 5, some 22) I47 J48)) (P, some 5, some 22)))))) ∧ ((gi I 74 3 = 1 ∧ gl J 74 7 = 1885431653) → (WPm (k - 1) LAY m_X12_paging [vR (some 74)] (mem (P, some 5, some 22) I J) (retV (fun I50 J51 => Q none (mem (P, some 5, some 22) I50 J51)) (P, some 5, some 22)))))) ∧ ((gi I 74 3 = 1 ∧ gl J 74 7 = 1651470187) → (WPm (k - 1) LAY m_X12_booking [vR (some 74)] (mem (P, some 5, some 22) I J) (retV (fun I53 J54 => Q none (mem (P, some 5, some 22) I53 J54)) (P, some 5, some 22)))))) ∧ (¬ (gi I 74 8) ≤ 0 → (Q none (mem (P, some 5, some 22) I J)))))))) : WP k LAY m_X12_statement 0 [(0, vR (some 74))] [] (mem (P, some 5, some 22) I J) Q := by
  refine st_aload_n (pc' := 1) dX12_statement_0 rfl rfl (j := 0) rfl ?_
  refine st_callV (pc' := 4) (kc := k - 1) (E' := LAY) (cal := m_X12_lex) (n := 0) (as := []) (S := []) dX12_statement_1 rfl l_X12_302 k_X12_lex rfl L_74 c_X12 rfl rfl (Nat.le_of_ble_eq_true rfl) (by omega) ⟨Nat.le_refl _, Nat.le_refl _, Nat.le_refl _, Nat.le_refl _⟩ (Q1 := fun r M' => WP k LAY m_X12_statement 4 [(0, vR (some 74))] (r.toList ++ []) M' Q) (WPm.of k_X12_lex.1 (Nat.le_of_ble_eq_true rfl) (B_X12_lex_0 (by omega) ?_)) (fun r M' q => q)
  refine ⟨fun c => ?_, fun c => ?_⟩
  · replace h := h.1 c
    change WP _ LAY m_X12_statement 4 [(0, vR (some 74))] [] (mem (P, some 5, some 22) I J) Q
    refine st_aload_n (pc' := 5) dX12_statement_4 rfl rfl (j := 0) rfl ?_
    refine G_X12_36_74 dX12_statement_5 (pc' := 8) rfl rfl ?_
    refine st_if_le (tg := 12) (pc' := 11) dX12_statement_8 (by decide) rfl (gi_in _ _ _) (fun c => ?_) (fun c => ?_)
    · replace h := h.1 c
      refine st_aload_n (pc' := 13) dX12_statement_12 rfl rfl (j := 0) rfl ?_
      refine st_ldc2 (pc' := 16) (z := 1651470187) dX12_statement_13 rfl q_X12_311 (by decide) ?_
      refine st_callV (pc' := 19) (kc := k - 1) (E' := LAY) (cal := m_X12_isWord) (n := 1) (as := [vL 1651470187]) (S := []) dX12_statement_16 rfl l_X12_385 k_X12_isWord rfl L_74 c_X12 rfl rfl (Nat.le_of_ble_eq_true rfl) (by omega) ⟨Nat.le_refl _, Nat.le_refl _, Nat.le_refl _, Nat.le_refl _⟩ (Q1 := fun r M' => WP k LAY m_X12_statement 19 [(0, vR (some 74))] (r.toList ++ []) M' Q) (S_X12_isWord (by omega) (by decide) ?_) (fun r M' q => q)
      change WP _ LAY m_X12_statement 19 [(0, vR (some 74))] [vI (b2i (gi I 74 3 = 1 ∧ gl J 74 7 = 1651470187))] (mem (P, some 5, some 22) I J) Q
      refine st_if_eq (tg := 29) (pc' := 22) dX12_statement_19 (by decide) rfl (b2i_in _) (fun c => ?_) (fun c => ?_)
      · replace h := h.1 (b2i_f.mp c)
        refine st_aload_n (pc' := 30) dX12_statement_29 rfl rfl (j := 0) rfl ?_
        refine st_ldc2 (pc' := 33) (z := 1885431653) dX12_statement_30 rfl q_X12_313 (by decide) ?_
        refine st_callV (pc' := 36) (kc := k - 1) (E' := LAY) (cal := m_X12_isWord) (n := 1) (as := [vL 1885431653]) (S := []) dX12_statement_33 rfl l_X12_385 k_X12_isWord rfl L_74 c_X12 rfl rfl (Nat.le_of_ble_eq_true rfl) (by omega) ⟨Nat.le_refl _, Nat.le_refl _, Nat.le_refl _, Nat.le_refl _⟩ (Q1 := fun r M' => WP k LAY m_X12_statement 36 [(0, vR (some 74))] (r.toList ++ []) M' Q) (S_X12_isWord (by omega) (by decide) ?_) (fun r M' q => q)
        change WP _ LAY m_X12_statement 36 [(0, vR (some 74))] [vI (b2i (gi I 74 3 = 1 ∧ gl J 74 7 = 1885431653))] (mem (P, some 5, some 22) I J) Q
        refine st_if_eq (tg := 46) (pc' := 39) dX12_statement_36 (by decide) rfl (b2i_in _) (fun c => ?_) (fun c => ?_)
        · replace h := h.1 (b2i_f.mp c)
          refine st_aload_n (pc' := 47) dX12_statement_46 rfl rfl (j := 0) rfl ?_
          refine st_ldc2 (pc' := 50) (z := 474147546227) dX12_statement_47 rfl q_X12_321 (by decide) ?_
          refine st_callV (pc' := 53) (kc := k - 1) (E' := LAY) (cal := m_X12_isWord) (n := 1) (as := [vL 474147546227]) (S := []) dX12_statement_50 rfl l_X12_385 k_X12_isWord rfl L_74 c_X12 rfl rfl (Nat.le_of_ble_eq_true rfl) (by omega) ⟨Nat.le_refl _, Nat.le_refl _, Nat.le_refl _, Nat.le_refl _⟩ (Q1 := fun r M' => WP k LAY m_X12_statement 53 [(0, vR (some 74))] (r.toList ++ []) M' Q) (S_X12_isWord (by omega) (by decide) ?_) (fun r M' q => q)
          change WP _ LAY m_X12_statement 53 [(0, vR (some 74))] [vI (b2i (gi I 74 3 = 1 ∧ gl J 74 7 = 474147546227))] (mem (P, some 5, some 22) I J) Q
          refine st_if_eq (tg := 63) (pc' := 56) dX12_statement_53 (by decide) rfl (b2i_in _) (fun c => ?_) (fun c => ?_)
          · replace h := h.1 (b2i_f.mp c)
            refine st_aload_n (pc' := 64) dX12_statement_63 rfl rfl (j := 0) rfl ?_
            refine st_ldc2 (pc' := 67) (z := 125779751232882) dX12_statement_64 rfl q_X12_323 (by decide) ?_
            refine st_callV (pc' := 70) (kc := k - 1) (E' := LAY) (cal := m_X12_isWord) (n := 1) (as := [vL 125779751232882]) (S := []) dX12_statement_67 rfl l_X12_385 k_X12_isWord rfl L_74 c_X12 rfl rfl (Nat.le_of_ble_eq_true rfl) (by omega) ⟨Nat.le_refl _, Nat.le_refl _, Nat.le_refl _, Nat.le_refl _⟩ (Q1 := fun r M' => WP k LAY m_X12_statement 70 [(0, vR (some 74))] (r.toList ++ []) M' Q) (S_X12_isWord (by omega) (by decide) ?_) (fun r M' q => q)
            change WP _ LAY m_X12_statement 70 [(0, vR (some 74))] [vI (b2i (gi I 74 3 = 1 ∧ gl J 74 7 = 125779751232882))] (mem (P, some 5, some 22) I J) Q
            refine st_if_eq (tg := 80) (pc' := 73) dX12_statement_70 (by decide) rfl (b2i_in _) (fun c => ?_) (fun c => ?_)
            · replace h := h.1 (b2i_f.mp c)
              refine st_aload_n (pc' := 81) dX12_statement_80 rfl rfl (j := 0) rfl ?_
              refine st_ldc2 (pc' := 84) (z := 499850046565) dX12_statement_81 rfl q_X12_329 (by decide) ?_
              refine st_callV (pc' := 87) (kc := k - 1) (E' := LAY) (cal := m_X12_isWord) (n := 1) (as := [vL 499850046565]) (S := []) dX12_statement_84 rfl l_X12_385 k_X12_isWord rfl L_74 c_X12 rfl rfl (Nat.le_of_ble_eq_true rfl) (by omega) ⟨Nat.le_refl _, Nat.le_refl _, Nat.le_refl _, Nat.le_refl _⟩ (Q1 := fun r M' => WP k LAY m_X12_statement 87 [(0, vR (some 74))] (r.toList ++ []) M' Q) (S_X12_isWord (by omega) (by decide) ?_) (fun r M' q => q)
              change WP _ LAY m_X12_statement 87 [(0, vR (some 74))] [vI (b2i (gi I 74 3 = 1 ∧ gl J 74 7 = 499850046565))] (mem (P, some 5, some 22) I J) Q
              refine st_if_eq (tg := 97) (pc' := 90) dX12_statement_87 (by decide) rfl (b2i_in _) (fun c => ?_) (fun c => ?_)
              · replace h := h.1 (b2i_f.mp c)
                refine st_aload_n (pc' := 98) dX12_statement_97 rfl rfl (j := 0) rfl ?_
                refine st_ldc2 (pc' := 101) (z := 1768842088) dX12_statement_98 rfl q_X12_333 (by decide) ?_
                refine st_callV (pc' := 104) (kc := k - 1) (E' := LAY) (cal := m_X12_isWord) (n := 1) (as := [vL 1768842088]) (S := []) dX12_statement_101 rfl l_X12_385 k_X12_isWord rfl L_74 c_X12 rfl rfl (Nat.le_of_ble_eq_true rfl) (by omega) ⟨Nat.le_refl _, Nat.le_refl _, Nat.le_refl _, Nat.le_refl _⟩ (Q1 := fun r M' => WP k LAY m_X12_statement 104 [(0, vR (some 74))] (r.toList ++ []) M' Q) (S_X12_isWord (by omega) (by decide) ?_) (fun r M' q => q)
                change WP _ LAY m_X12_statement 104 [(0, vR (some 74))] [vI (b2i (gi I 74 3 = 1 ∧ gl J 74 7 = 1768842088))] (mem (P, some 5, some 22) I J) Q
                refine st_if_eq (tg := 114) (pc' := 107) dX12_statement_104 (by decide) rfl (b2i_in _) (fun c => ?_) (fun c => ?_)
                · replace h := h.1 (b2i_f.mp c)
                  refine st_aload_n (pc' := 115) dX12_statement_114 rfl rfl (j := 0) rfl ?_
                  refine st_ldc2 (pc' := 118) (z := 422877228659) dX12_statement_115 rfl q_X12_335 (by decide) ?_
                  refine st_callV (pc' := 121) (kc := k - 1) (E' := LAY) (cal := m_X12_isWord) (n := 1) (as := [vL 422877228659]) (S := []) dX12_statement_118 rfl l_X12_385 k_X12_isWord rfl L_74 c_X12 rfl rfl (Nat.le_of_ble_eq_true rfl) (by omega) ⟨Nat.le_refl _, Nat.le_refl _, Nat.le_refl _, Nat.le_refl _⟩ (Q1 := fun r M' => WP k LAY m_X12_statement 121 [(0, vR (some 74))] (r.toList ++ []) M' Q) (S_X12_isWord (by omega) (by decide) ?_) (fun r M' q => q)
                  change WP _ LAY m_X12_statement 121 [(0, vR (some 74))] [vI (b2i (gi I 74 3 = 1 ∧ gl J 74 7 = 422877228659))] (mem (P, some 5, some 22) I J) Q
                  refine st_if_eq (tg := 131) (pc' := 124) dX12_statement_121 (by decide) rfl (b2i_in _) (fun c => ?_) (fun c => ?_)
                  · replace h := h.1 (b2i_f.mp c)
                    refine st_aload_n (pc' := 132) dX12_statement_131 rfl rfl (j := 0) rfl ?_
                    refine st_ldc2 (pc' := 135) (z := 499850634611) dX12_statement_132 rfl q_X12_337 (by decide) ?_
                    refine st_callV (pc' := 138) (kc := k - 1) (E' := LAY) (cal := m_X12_isWord) (n := 1) (as := [vL 499850634611]) (S := []) dX12_statement_135 rfl l_X12_385 k_X12_isWord rfl L_74 c_X12 rfl rfl (Nat.le_of_ble_eq_true rfl) (by omega) ⟨Nat.le_refl _, Nat.le_refl _, Nat.le_refl _, Nat.le_refl _⟩ (Q1 := fun r M' => WP k LAY m_X12_statement 138 [(0, vR (some 74))] (r.toList ++ []) M' Q) (S_X12_isWord (by omega) (by decide) ?_) (fun r M' q => q)
                    change WP _ LAY m_X12_statement 138 [(0, vR (some 74))] [vI (b2i (gi I 74 3 = 1 ∧ gl J 74 7 = 499850634611))] (mem (P, some 5, some 22) I J) Q
                    refine st_if_eq (tg := 148) (pc' := 141) dX12_statement_138 (by decide) rfl (b2i_in _) (fun c => ?_) (fun c => ?_)
                    · replace h := h.1 (b2i_f.mp c)
                      refine st_aload_n (pc' := 149) dX12_statement_148 rfl rfl (j := 0) rfl ?_
                      refine st_ldc2 (pc' := 152) (z := 499917810803) dX12_statement_149 rfl q_X12_339 (by decide) ?_
                      refine st_callV (pc' := 155) (kc := k - 1) (E' := LAY) (cal := m_X12_isWord) (n := 1) (as := [vL 499917810803]) (S := []) dX12_statement_152 rfl l_X12_385 k_X12_isWord rfl L_74 c_X12 rfl rfl (Nat.le_of_ble_eq_true rfl) (by omega) ⟨Nat.le_refl _, Nat.le_refl _, Nat.le_refl _, Nat.le_refl _⟩ (Q1 := fun r M' => WP k LAY m_X12_statement 155 [(0, vR (some 74))] (r.toList ++ []) M' Q) (S_X12_isWord (by omega) (by decide) ?_) (fun r M' q => q)
                      change WP _ LAY m_X12_statement 155 [(0, vR (some 74))] [vI (b2i (gi I 74 3 = 1 ∧ gl J 74 7 = 499917810803))] (mem (P, some 5, some 22) I J) Q
                      refine st_if_eq (tg := 165) (pc' := 158) dX12_statement_155 (by decide) rfl (b2i_in _) (fun c => ?_) (fun c => ?_)
                      · replace h := h.1 (b2i_f.mp c)
                        refine st_aload_n (pc' := 166) dX12_statement_165 rfl rfl (j := 0) rfl ?_
                        refine st_iconst (pc' := 167) dX12_statement_166 rfl ?_
                        refine st_aload_n (pc' := 168) dX12_statement_167 rfl rfl (j := 0) rfl ?_
                        refine G_X12_23_74 dX12_statement_168 (pc' := 171) rfl rfl ?_
                        refine st_callV (pc' := 174) (kc := k - 1) (E' := LAY) (cal := m_X12_blame) (n := 2) (as := [vI 1, vI (gi I 74 4)]) (S := []) dX12_statement_171 rfl l_X12_287 k_X12_blame rfl L_74 c_X12 rfl rfl (Nat.le_of_ble_eq_true rfl) (by omega) ⟨Nat.le_refl _, Nat.le_refl _, Nat.le_refl _, Nat.le_refl _⟩ (Q1 := fun r M' => WP k LAY m_X12_statement 174 [(0, vR (some 74))] (r.toList ++ []) M' Q) (WPm.of k_X12_blame.1 (Nat.le_of_ble_eq_true rfl) (B_X12_blame_0 (by omega) ?_)) (fun r M' q => q)
                        refine ⟨fun c => ?_, fun c => ?_⟩
                        · replace h := h.1 c
                          change WP _ LAY m_X12_statement 174 [(0, vR (some 74))] [] (mem (P, some 5, some 22) (si (si I 74 8 1) 74 9 (gi I 74 4)) J) Q
                          exact st_vret dX12_statement_174 rfl rfl h
                        · replace h := h.2 c
                          change WP _ LAY m_X12_statement 174 [(0, vR (some 74))] [] (mem (P, some 5, some 22) I J) Q
                          exact st_vret dX12_statement_174 rfl rfl h
                      · replace h := h.2 (b2i_t.mp c)
                        refine st_aload_n (pc' := 159) dX12_statement_158 rfl rfl (j := 0) rfl ?_
                        refine st_callV (pc' := 162) (kc := k - 1) (E' := LAY) (cal := m_X12_telling) (n := 0) (as := []) (S := []) dX12_statement_159 rfl l_X12_456 k_X12_telling rfl L_74 c_X12 rfl rfl (Nat.le_of_ble_eq_true rfl) (by omega) ⟨Nat.le_refl _, Nat.le_refl _, Nat.le_refl _, Nat.le_refl _⟩ h (fun r M' q => ?_)
                        obtain ⟨I2, J3, rfl, rfl, h⟩ := q
                        change WP _ LAY m_X12_statement 162 [(0, vR (some 74))] [] (mem (P, some 5, some 22) I2 J3) Q
                        refine st_goto (pc' := 174) dX12_statement_162 (by decide) ?_
                        exact st_vret dX12_statement_174 rfl rfl h
                    · replace h := h.2 (b2i_t.mp c)
                      refine st_aload_n (pc' := 142) dX12_statement_141 rfl rfl (j := 0) rfl ?_
                      refine st_callV (pc' := 145) (kc := k - 1) (E' := LAY) (cal := m_X12_taking) (n := 0) (as := []) (S := []) dX12_statement_142 rfl l_X12_453 k_X12_taking rfl L_74 c_X12 rfl rfl (Nat.le_of_ble_eq_true rfl) (by omega) ⟨Nat.le_refl _, Nat.le_refl _, Nat.le_refl _, Nat.le_refl _⟩ h (fun r M' q => ?_)
                      obtain ⟨I5, J6, rfl, rfl, h⟩ := q
                      change WP _ LAY m_X12_statement 145 [(0, vR (some 74))] [] (mem (P, some 5, some 22) I5 J6) Q
                      refine st_goto (pc' := 174) dX12_statement_145 (by decide) ?_
                      exact st_vret dX12_statement_174 rfl rfl h
                  · replace h := h.2 (b2i_t.mp c)
                    refine st_aload_n (pc' := 125) dX12_statement_124 rfl rfl (j := 0) rfl ?_
                    refine st_callV (pc' := 128) (kc := k - 1) (E' := LAY) (cal := m_X12_burning) (n := 0) (as := []) (S := []) dX12_statement_125 rfl l_X12_450 k_X12_burning rfl L_74 c_X12 rfl rfl (Nat.le_of_ble_eq_true rfl) (by omega) ⟨Nat.le_refl _, Nat.le_refl _, Nat.le_refl _, Nat.le_refl _⟩ h (fun r M' q => ?_)
                    obtain ⟨I8, J9, rfl, rfl, h⟩ := q
                    change WP _ LAY m_X12_statement 128 [(0, vR (some 74))] [] (mem (P, some 5, some 22) I8 J9) Q
                    refine st_goto (pc' := 174) dX12_statement_128 (by decide) ?_
                    exact st_vret dX12_statement_174 rfl rfl h
                · replace h := h.2 (b2i_t.mp c)
                  refine st_aload_n (pc' := 108) dX12_statement_107 rfl rfl (j := 0) rfl ?_
                  refine st_callV (pc' := 111) (kc := k - 1) (E' := LAY) (cal := m_X12_inching) (n := 0) (as := []) (S := []) dX12_statement_108 rfl l_X12_447 k_X12_inching rfl L_74 c_X12 rfl rfl (Nat.le_of_ble_eq_true rfl) (by omega) ⟨Nat.le_refl _, Nat.le_refl _, Nat.le_refl _, Nat.le_refl _⟩ h (fun r M' q => ?_)
                  obtain ⟨I11, J12, rfl, rfl, h⟩ := q
                  change WP _ LAY m_X12_statement 111 [(0, vR (some 74))] [] (mem (P, some 5, some 22) I11 J12) Q
                  refine st_goto (pc' := 174) dX12_statement_111 (by decide) ?_
                  exact st_vret dX12_statement_174 rfl rfl h
              · replace h := h.2 (b2i_t.mp c)
                refine st_aload_n (pc' := 91) dX12_statement_90 rfl rfl (j := 0) rfl ?_
                refine st_callV (pc' := 94) (kc := k - 1) (E' := LAY) (cal := m_X12_tabling) (n := 0) (as := []) (S := []) dX12_statement_91 rfl l_X12_444 k_X12_tabling rfl L_74 c_X12 rfl rfl (Nat.le_of_ble_eq_true rfl) (by omega) ⟨Nat.le_refl _, Nat.le_refl _, Nat.le_refl _, Nat.le_refl _⟩ h (fun r M' q => ?_)
                obtain ⟨I14, J15, rfl, rfl, h⟩ := q
                change WP _ LAY m_X12_statement 94 [(0, vR (some 74))] [] (mem (P, some 5, some 22) I14 J15) Q
                refine st_goto (pc' := 174) dX12_statement_94 (by decide) ?_
                exact st_vret dX12_statement_174 rfl rfl h
            · replace h := h.2 (b2i_t.mp c)
              refine st_aload_n (pc' := 74) dX12_statement_73 rfl rfl (j := 0) rfl ?_
              refine st_callV (pc' := 77) (kc := k - 1) (E' := LAY) (cal := m_X12_readering) (n := 0) (as := []) (S := []) dX12_statement_74 rfl l_X12_441 k_X12_readering rfl L_74 c_X12 rfl rfl (Nat.le_of_ble_eq_true rfl) (by omega) ⟨Nat.le_refl _, Nat.le_refl _, Nat.le_refl _, Nat.le_refl _⟩ h (fun r M' q => ?_)
              obtain ⟨I17, J18, rfl, rfl, h⟩ := q
              change WP _ LAY m_X12_statement 77 [(0, vR (some 74))] [] (mem (P, some 5, some 22) I17 J18) Q
              refine st_goto (pc' := 174) dX12_statement_77 (by decide) ?_
              exact st_vret dX12_statement_174 rfl rfl h
          · replace h := h.2 (b2i_t.mp c)
            refine st_aload_n (pc' := 57) dX12_statement_56 rfl rfl (j := 0) rfl ?_
            refine st_callV (pc' := 60) (kc := k - 1) (E' := LAY) (cal := m_X12_needing) (n := 0) (as := []) (S := []) dX12_statement_57 rfl l_X12_438 k_X12_needing rfl L_74 c_X12 rfl rfl (Nat.le_of_ble_eq_true rfl) (by omega) ⟨Nat.le_refl _, Nat.le_refl _, Nat.le_refl _, Nat.le_refl _⟩ h (fun r M' q => ?_)
            obtain ⟨I20, J21, rfl, rfl, h⟩ := q
            change WP _ LAY m_X12_statement 60 [(0, vR (some 74))] [] (mem (P, some 5, some 22) I20 J21) Q
            refine st_goto (pc' := 174) dX12_statement_60 (by decide) ?_
            exact st_vret dX12_statement_174 rfl rfl h
        · replace h := h.2 (b2i_t.mp c)
          refine st_aload_n (pc' := 40) dX12_statement_39 rfl rfl (j := 0) rfl ?_
          refine st_callV (pc' := 43) (kc := k - 1) (E' := LAY) (cal := m_X12_paging) (n := 0) (as := []) (S := []) dX12_statement_40 rfl l_X12_435 k_X12_paging rfl L_74 c_X12 rfl rfl (Nat.le_of_ble_eq_true rfl) (by omega) ⟨Nat.le_refl _, Nat.le_refl _, Nat.le_refl _, Nat.le_refl _⟩ h (fun r M' q => ?_)
          obtain ⟨I23, J24, rfl, rfl, h⟩ := q
          change WP _ LAY m_X12_statement 43 [(0, vR (some 74))] [] (mem (P, some 5, some 22) I23 J24) Q
          refine st_goto (pc' := 174) dX12_statement_43 (by decide) ?_
          exact st_vret dX12_statement_174 rfl rfl h
      · replace h := h.2 (b2i_t.mp c)
        refine st_aload_n (pc' := 23) dX12_statement_22 rfl rfl (j := 0) rfl ?_
        refine st_callV (pc' := 26) (kc := k - 1) (E' := LAY) (cal := m_X12_booking) (n := 0) (as := []) (S := []) dX12_statement_23 rfl l_X12_432 k_X12_booking rfl L_74 c_X12 rfl rfl (Nat.le_of_ble_eq_true rfl) (by omega) ⟨Nat.le_refl _, Nat.le_refl _, Nat.le_refl _, Nat.le_refl _⟩ h (fun r M' q => ?_)
        obtain ⟨I26, J27, rfl, rfl, h⟩ := q
        change WP _ LAY m_X12_statement 26 [(0, vR (some 74))] [] (mem (P, some 5, some 22) I26 J27) Q
        refine st_goto (pc' := 174) dX12_statement_26 (by decide) ?_
        exact st_vret dX12_statement_174 rfl rfl h
    · replace h := h.2 c
      exact st_vret dX12_statement_11 rfl rfl h
  · replace h := h.2 c
    refine ⟨fun c => ?_, fun c => ?_⟩
    · replace h := h.1 c
      change WP _ LAY m_X12_statement 4 [(0, vR (some 74))] [] (mem (P, some 5, some 22) (si (si I 74 8 1) 74 9 (gi I 74 12)) J) Q
      refine st_aload_n (pc' := 5) dX12_statement_4 rfl rfl (j := 0) rfl ?_
      refine G_X12_36_74 dX12_statement_5 (pc' := 8) rfl rfl ?_
      rw [show gi (si (si I 74 8 1) 74 9 (gi I 74 12)) 74 8 = 1 from ((gi_idx _ _ _ (by decide)).trans (gi_same _ _ _ (by decide)))]
      refine st_if_le (tg := 12) (pc' := 11) dX12_statement_8 (by decide) rfl (by decide) (fun c => ?_) (fun c => ?_)
      · exact absurd c (by decide)
      · exact st_vret dX12_statement_11 rfl rfl h
    · replace h := h.2 c
      change WP _ LAY m_X12_statement 4 [(0, vR (some 74))] [] (mem (P, some 5, some 22) I J) Q
      refine st_aload_n (pc' := 5) dX12_statement_4 rfl rfl (j := 0) rfl ?_
      refine G_X12_36_74 dX12_statement_5 (pc' := 8) rfl rfl ?_
      refine st_if_le (tg := 12) (pc' := 11) dX12_statement_8 (by decide) rfl (gi_in _ _ _) (fun c => ?_) (fun c => ?_)
      · replace h := h.1 c
        refine st_aload_n (pc' := 13) dX12_statement_12 rfl rfl (j := 0) rfl ?_
        refine st_ldc2 (pc' := 16) (z := 1651470187) dX12_statement_13 rfl q_X12_311 (by decide) ?_
        refine st_callV (pc' := 19) (kc := k - 1) (E' := LAY) (cal := m_X12_isWord) (n := 1) (as := [vL 1651470187]) (S := []) dX12_statement_16 rfl l_X12_385 k_X12_isWord rfl L_74 c_X12 rfl rfl (Nat.le_of_ble_eq_true rfl) (by omega) ⟨Nat.le_refl _, Nat.le_refl _, Nat.le_refl _, Nat.le_refl _⟩ (Q1 := fun r M' => WP k LAY m_X12_statement 19 [(0, vR (some 74))] (r.toList ++ []) M' Q) (S_X12_isWord (by omega) (by decide) ?_) (fun r M' q => q)
        change WP _ LAY m_X12_statement 19 [(0, vR (some 74))] [vI (b2i (gi I 74 3 = 1 ∧ gl J 74 7 = 1651470187))] (mem (P, some 5, some 22) I J) Q
        refine st_if_eq (tg := 29) (pc' := 22) dX12_statement_19 (by decide) rfl (b2i_in _) (fun c => ?_) (fun c => ?_)
        · replace h := h.1 (b2i_f.mp c)
          refine st_aload_n (pc' := 30) dX12_statement_29 rfl rfl (j := 0) rfl ?_
          refine st_ldc2 (pc' := 33) (z := 1885431653) dX12_statement_30 rfl q_X12_313 (by decide) ?_
          refine st_callV (pc' := 36) (kc := k - 1) (E' := LAY) (cal := m_X12_isWord) (n := 1) (as := [vL 1885431653]) (S := []) dX12_statement_33 rfl l_X12_385 k_X12_isWord rfl L_74 c_X12 rfl rfl (Nat.le_of_ble_eq_true rfl) (by omega) ⟨Nat.le_refl _, Nat.le_refl _, Nat.le_refl _, Nat.le_refl _⟩ (Q1 := fun r M' => WP k LAY m_X12_statement 36 [(0, vR (some 74))] (r.toList ++ []) M' Q) (S_X12_isWord (by omega) (by decide) ?_) (fun r M' q => q)
          change WP _ LAY m_X12_statement 36 [(0, vR (some 74))] [vI (b2i (gi I 74 3 = 1 ∧ gl J 74 7 = 1885431653))] (mem (P, some 5, some 22) I J) Q
          refine st_if_eq (tg := 46) (pc' := 39) dX12_statement_36 (by decide) rfl (b2i_in _) (fun c => ?_) (fun c => ?_)
          · replace h := h.1 (b2i_f.mp c)
            refine st_aload_n (pc' := 47) dX12_statement_46 rfl rfl (j := 0) rfl ?_
            refine st_ldc2 (pc' := 50) (z := 474147546227) dX12_statement_47 rfl q_X12_321 (by decide) ?_
            refine st_callV (pc' := 53) (kc := k - 1) (E' := LAY) (cal := m_X12_isWord) (n := 1) (as := [vL 474147546227]) (S := []) dX12_statement_50 rfl l_X12_385 k_X12_isWord rfl L_74 c_X12 rfl rfl (Nat.le_of_ble_eq_true rfl) (by omega) ⟨Nat.le_refl _, Nat.le_refl _, Nat.le_refl _, Nat.le_refl _⟩ (Q1 := fun r M' => WP k LAY m_X12_statement 53 [(0, vR (some 74))] (r.toList ++ []) M' Q) (S_X12_isWord (by omega) (by decide) ?_) (fun r M' q => q)
            change WP _ LAY m_X12_statement 53 [(0, vR (some 74))] [vI (b2i (gi I 74 3 = 1 ∧ gl J 74 7 = 474147546227))] (mem (P, some 5, some 22) I J) Q
            refine st_if_eq (tg := 63) (pc' := 56) dX12_statement_53 (by decide) rfl (b2i_in _) (fun c => ?_) (fun c => ?_)
            · replace h := h.1 (b2i_f.mp c)
              refine st_aload_n (pc' := 64) dX12_statement_63 rfl rfl (j := 0) rfl ?_
              refine st_ldc2 (pc' := 67) (z := 125779751232882) dX12_statement_64 rfl q_X12_323 (by decide) ?_
              refine st_callV (pc' := 70) (kc := k - 1) (E' := LAY) (cal := m_X12_isWord) (n := 1) (as := [vL 125779751232882]) (S := []) dX12_statement_67 rfl l_X12_385 k_X12_isWord rfl L_74 c_X12 rfl rfl (Nat.le_of_ble_eq_true rfl) (by omega) ⟨Nat.le_refl _, Nat.le_refl _, Nat.le_refl _, Nat.le_refl _⟩ (Q1 := fun r M' => WP k LAY m_X12_statement 70 [(0, vR (some 74))] (r.toList ++ []) M' Q) (S_X12_isWord (by omega) (by decide) ?_) (fun r M' q => q)
              change WP _ LAY m_X12_statement 70 [(0, vR (some 74))] [vI (b2i (gi I 74 3 = 1 ∧ gl J 74 7 = 125779751232882))] (mem (P, some 5, some 22) I J) Q
              refine st_if_eq (tg := 80) (pc' := 73) dX12_statement_70 (by decide) rfl (b2i_in _) (fun c => ?_) (fun c => ?_)
              · replace h := h.1 (b2i_f.mp c)
                refine st_aload_n (pc' := 81) dX12_statement_80 rfl rfl (j := 0) rfl ?_
                refine st_ldc2 (pc' := 84) (z := 499850046565) dX12_statement_81 rfl q_X12_329 (by decide) ?_
                refine st_callV (pc' := 87) (kc := k - 1) (E' := LAY) (cal := m_X12_isWord) (n := 1) (as := [vL 499850046565]) (S := []) dX12_statement_84 rfl l_X12_385 k_X12_isWord rfl L_74 c_X12 rfl rfl (Nat.le_of_ble_eq_true rfl) (by omega) ⟨Nat.le_refl _, Nat.le_refl _, Nat.le_refl _, Nat.le_refl _⟩ (Q1 := fun r M' => WP k LAY m_X12_statement 87 [(0, vR (some 74))] (r.toList ++ []) M' Q) (S_X12_isWord (by omega) (by decide) ?_) (fun r M' q => q)
                change WP _ LAY m_X12_statement 87 [(0, vR (some 74))] [vI (b2i (gi I 74 3 = 1 ∧ gl J 74 7 = 499850046565))] (mem (P, some 5, some 22) I J) Q
                refine st_if_eq (tg := 97) (pc' := 90) dX12_statement_87 (by decide) rfl (b2i_in _) (fun c => ?_) (fun c => ?_)
                · replace h := h.1 (b2i_f.mp c)
                  refine st_aload_n (pc' := 98) dX12_statement_97 rfl rfl (j := 0) rfl ?_
                  refine st_ldc2 (pc' := 101) (z := 1768842088) dX12_statement_98 rfl q_X12_333 (by decide) ?_
                  refine st_callV (pc' := 104) (kc := k - 1) (E' := LAY) (cal := m_X12_isWord) (n := 1) (as := [vL 1768842088]) (S := []) dX12_statement_101 rfl l_X12_385 k_X12_isWord rfl L_74 c_X12 rfl rfl (Nat.le_of_ble_eq_true rfl) (by omega) ⟨Nat.le_refl _, Nat.le_refl _, Nat.le_refl _, Nat.le_refl _⟩ (Q1 := fun r M' => WP k LAY m_X12_statement 104 [(0, vR (some 74))] (r.toList ++ []) M' Q) (S_X12_isWord (by omega) (by decide) ?_) (fun r M' q => q)
                  change WP _ LAY m_X12_statement 104 [(0, vR (some 74))] [vI (b2i (gi I 74 3 = 1 ∧ gl J 74 7 = 1768842088))] (mem (P, some 5, some 22) I J) Q
                  refine st_if_eq (tg := 114) (pc' := 107) dX12_statement_104 (by decide) rfl (b2i_in _) (fun c => ?_) (fun c => ?_)
                  · replace h := h.1 (b2i_f.mp c)
                    refine st_aload_n (pc' := 115) dX12_statement_114 rfl rfl (j := 0) rfl ?_
                    refine st_ldc2 (pc' := 118) (z := 422877228659) dX12_statement_115 rfl q_X12_335 (by decide) ?_
                    refine st_callV (pc' := 121) (kc := k - 1) (E' := LAY) (cal := m_X12_isWord) (n := 1) (as := [vL 422877228659]) (S := []) dX12_statement_118 rfl l_X12_385 k_X12_isWord rfl L_74 c_X12 rfl rfl (Nat.le_of_ble_eq_true rfl) (by omega) ⟨Nat.le_refl _, Nat.le_refl _, Nat.le_refl _, Nat.le_refl _⟩ (Q1 := fun r M' => WP k LAY m_X12_statement 121 [(0, vR (some 74))] (r.toList ++ []) M' Q) (S_X12_isWord (by omega) (by decide) ?_) (fun r M' q => q)
                    change WP _ LAY m_X12_statement 121 [(0, vR (some 74))] [vI (b2i (gi I 74 3 = 1 ∧ gl J 74 7 = 422877228659))] (mem (P, some 5, some 22) I J) Q
                    refine st_if_eq (tg := 131) (pc' := 124) dX12_statement_121 (by decide) rfl (b2i_in _) (fun c => ?_) (fun c => ?_)
                    · replace h := h.1 (b2i_f.mp c)
                      refine st_aload_n (pc' := 132) dX12_statement_131 rfl rfl (j := 0) rfl ?_
                      refine st_ldc2 (pc' := 135) (z := 499850634611) dX12_statement_132 rfl q_X12_337 (by decide) ?_
                      refine st_callV (pc' := 138) (kc := k - 1) (E' := LAY) (cal := m_X12_isWord) (n := 1) (as := [vL 499850634611]) (S := []) dX12_statement_135 rfl l_X12_385 k_X12_isWord rfl L_74 c_X12 rfl rfl (Nat.le_of_ble_eq_true rfl) (by omega) ⟨Nat.le_refl _, Nat.le_refl _, Nat.le_refl _, Nat.le_refl _⟩ (Q1 := fun r M' => WP k LAY m_X12_statement 138 [(0, vR (some 74))] (r.toList ++ []) M' Q) (S_X12_isWord (by omega) (by decide) ?_) (fun r M' q => q)
                      change WP _ LAY m_X12_statement 138 [(0, vR (some 74))] [vI (b2i (gi I 74 3 = 1 ∧ gl J 74 7 = 499850634611))] (mem (P, some 5, some 22) I J) Q
                      refine st_if_eq (tg := 148) (pc' := 141) dX12_statement_138 (by decide) rfl (b2i_in _) (fun c => ?_) (fun c => ?_)
                      · replace h := h.1 (b2i_f.mp c)
                        refine st_aload_n (pc' := 149) dX12_statement_148 rfl rfl (j := 0) rfl ?_
                        refine st_ldc2 (pc' := 152) (z := 499917810803) dX12_statement_149 rfl q_X12_339 (by decide) ?_
                        refine st_callV (pc' := 155) (kc := k - 1) (E' := LAY) (cal := m_X12_isWord) (n := 1) (as := [vL 499917810803]) (S := []) dX12_statement_152 rfl l_X12_385 k_X12_isWord rfl L_74 c_X12 rfl rfl (Nat.le_of_ble_eq_true rfl) (by omega) ⟨Nat.le_refl _, Nat.le_refl _, Nat.le_refl _, Nat.le_refl _⟩ (Q1 := fun r M' => WP k LAY m_X12_statement 155 [(0, vR (some 74))] (r.toList ++ []) M' Q) (S_X12_isWord (by omega) (by decide) ?_) (fun r M' q => q)
                        change WP _ LAY m_X12_statement 155 [(0, vR (some 74))] [vI (b2i (gi I 74 3 = 1 ∧ gl J 74 7 = 499917810803))] (mem (P, some 5, some 22) I J) Q
                        refine st_if_eq (tg := 165) (pc' := 158) dX12_statement_155 (by decide) rfl (b2i_in _) (fun c => ?_) (fun c => ?_)
                        · replace h := h.1 (b2i_f.mp c)
                          refine st_aload_n (pc' := 166) dX12_statement_165 rfl rfl (j := 0) rfl ?_
                          refine st_iconst (pc' := 167) dX12_statement_166 rfl ?_
                          refine st_aload_n (pc' := 168) dX12_statement_167 rfl rfl (j := 0) rfl ?_
                          refine G_X12_23_74 dX12_statement_168 (pc' := 171) rfl rfl ?_
                          refine st_callV (pc' := 174) (kc := k - 1) (E' := LAY) (cal := m_X12_blame) (n := 2) (as := [vI 1, vI (gi I 74 4)]) (S := []) dX12_statement_171 rfl l_X12_287 k_X12_blame rfl L_74 c_X12 rfl rfl (Nat.le_of_ble_eq_true rfl) (by omega) ⟨Nat.le_refl _, Nat.le_refl _, Nat.le_refl _, Nat.le_refl _⟩ (Q1 := fun r M' => WP k LAY m_X12_statement 174 [(0, vR (some 74))] (r.toList ++ []) M' Q) (WPm.of k_X12_blame.1 (Nat.le_of_ble_eq_true rfl) (B_X12_blame_0 (by omega) ?_)) (fun r M' q => q)
                          refine ⟨fun c => ?_, fun c => ?_⟩
                          · replace h := h.1 c
                            change WP _ LAY m_X12_statement 174 [(0, vR (some 74))] [] (mem (P, some 5, some 22) (si (si I 74 8 1) 74 9 (gi I 74 4)) J) Q
                            exact st_vret dX12_statement_174 rfl rfl h
                          · replace h := h.2 c
                            change WP _ LAY m_X12_statement 174 [(0, vR (some 74))] [] (mem (P, some 5, some 22) I J) Q
                            exact st_vret dX12_statement_174 rfl rfl h
                        · replace h := h.2 (b2i_t.mp c)
                          refine st_aload_n (pc' := 159) dX12_statement_158 rfl rfl (j := 0) rfl ?_
                          refine st_callV (pc' := 162) (kc := k - 1) (E' := LAY) (cal := m_X12_telling) (n := 0) (as := []) (S := []) dX12_statement_159 rfl l_X12_456 k_X12_telling rfl L_74 c_X12 rfl rfl (Nat.le_of_ble_eq_true rfl) (by omega) ⟨Nat.le_refl _, Nat.le_refl _, Nat.le_refl _, Nat.le_refl _⟩ h (fun r M' q => ?_)
                          obtain ⟨I29, J30, rfl, rfl, h⟩ := q
                          change WP _ LAY m_X12_statement 162 [(0, vR (some 74))] [] (mem (P, some 5, some 22) I29 J30) Q
                          refine st_goto (pc' := 174) dX12_statement_162 (by decide) ?_
                          exact st_vret dX12_statement_174 rfl rfl h
                      · replace h := h.2 (b2i_t.mp c)
                        refine st_aload_n (pc' := 142) dX12_statement_141 rfl rfl (j := 0) rfl ?_
                        refine st_callV (pc' := 145) (kc := k - 1) (E' := LAY) (cal := m_X12_taking) (n := 0) (as := []) (S := []) dX12_statement_142 rfl l_X12_453 k_X12_taking rfl L_74 c_X12 rfl rfl (Nat.le_of_ble_eq_true rfl) (by omega) ⟨Nat.le_refl _, Nat.le_refl _, Nat.le_refl _, Nat.le_refl _⟩ h (fun r M' q => ?_)
                        obtain ⟨I32, J33, rfl, rfl, h⟩ := q
                        change WP _ LAY m_X12_statement 145 [(0, vR (some 74))] [] (mem (P, some 5, some 22) I32 J33) Q
                        refine st_goto (pc' := 174) dX12_statement_145 (by decide) ?_
                        exact st_vret dX12_statement_174 rfl rfl h
                    · replace h := h.2 (b2i_t.mp c)
                      refine st_aload_n (pc' := 125) dX12_statement_124 rfl rfl (j := 0) rfl ?_
                      refine st_callV (pc' := 128) (kc := k - 1) (E' := LAY) (cal := m_X12_burning) (n := 0) (as := []) (S := []) dX12_statement_125 rfl l_X12_450 k_X12_burning rfl L_74 c_X12 rfl rfl (Nat.le_of_ble_eq_true rfl) (by omega) ⟨Nat.le_refl _, Nat.le_refl _, Nat.le_refl _, Nat.le_refl _⟩ h (fun r M' q => ?_)
                      obtain ⟨I35, J36, rfl, rfl, h⟩ := q
                      change WP _ LAY m_X12_statement 128 [(0, vR (some 74))] [] (mem (P, some 5, some 22) I35 J36) Q
                      refine st_goto (pc' := 174) dX12_statement_128 (by decide) ?_
                      exact st_vret dX12_statement_174 rfl rfl h
                  · replace h := h.2 (b2i_t.mp c)
                    refine st_aload_n (pc' := 108) dX12_statement_107 rfl rfl (j := 0) rfl ?_
                    refine st_callV (pc' := 111) (kc := k - 1) (E' := LAY) (cal := m_X12_inching) (n := 0) (as := []) (S := []) dX12_statement_108 rfl l_X12_447 k_X12_inching rfl L_74 c_X12 rfl rfl (Nat.le_of_ble_eq_true rfl) (by omega) ⟨Nat.le_refl _, Nat.le_refl _, Nat.le_refl _, Nat.le_refl _⟩ h (fun r M' q => ?_)
                    obtain ⟨I38, J39, rfl, rfl, h⟩ := q
                    change WP _ LAY m_X12_statement 111 [(0, vR (some 74))] [] (mem (P, some 5, some 22) I38 J39) Q
                    refine st_goto (pc' := 174) dX12_statement_111 (by decide) ?_
                    exact st_vret dX12_statement_174 rfl rfl h
                · replace h := h.2 (b2i_t.mp c)
                  refine st_aload_n (pc' := 91) dX12_statement_90 rfl rfl (j := 0) rfl ?_
                  refine st_callV (pc' := 94) (kc := k - 1) (E' := LAY) (cal := m_X12_tabling) (n := 0) (as := []) (S := []) dX12_statement_91 rfl l_X12_444 k_X12_tabling rfl L_74 c_X12 rfl rfl (Nat.le_of_ble_eq_true rfl) (by omega) ⟨Nat.le_refl _, Nat.le_refl _, Nat.le_refl _, Nat.le_refl _⟩ h (fun r M' q => ?_)
                  obtain ⟨I41, J42, rfl, rfl, h⟩ := q
                  change WP _ LAY m_X12_statement 94 [(0, vR (some 74))] [] (mem (P, some 5, some 22) I41 J42) Q
                  refine st_goto (pc' := 174) dX12_statement_94 (by decide) ?_
                  exact st_vret dX12_statement_174 rfl rfl h
              · replace h := h.2 (b2i_t.mp c)
                refine st_aload_n (pc' := 74) dX12_statement_73 rfl rfl (j := 0) rfl ?_
                refine st_callV (pc' := 77) (kc := k - 1) (E' := LAY) (cal := m_X12_readering) (n := 0) (as := []) (S := []) dX12_statement_74 rfl l_X12_441 k_X12_readering rfl L_74 c_X12 rfl rfl (Nat.le_of_ble_eq_true rfl) (by omega) ⟨Nat.le_refl _, Nat.le_refl _, Nat.le_refl _, Nat.le_refl _⟩ h (fun r M' q => ?_)
                obtain ⟨I44, J45, rfl, rfl, h⟩ := q
                change WP _ LAY m_X12_statement 77 [(0, vR (some 74))] [] (mem (P, some 5, some 22) I44 J45) Q
                refine st_goto (pc' := 174) dX12_statement_77 (by decide) ?_
                exact st_vret dX12_statement_174 rfl rfl h
            · replace h := h.2 (b2i_t.mp c)
              refine st_aload_n (pc' := 57) dX12_statement_56 rfl rfl (j := 0) rfl ?_
              refine st_callV (pc' := 60) (kc := k - 1) (E' := LAY) (cal := m_X12_needing) (n := 0) (as := []) (S := []) dX12_statement_57 rfl l_X12_438 k_X12_needing rfl L_74 c_X12 rfl rfl (Nat.le_of_ble_eq_true rfl) (by omega) ⟨Nat.le_refl _, Nat.le_refl _, Nat.le_refl _, Nat.le_refl _⟩ h (fun r M' q => ?_)
              obtain ⟨I47, J48, rfl, rfl, h⟩ := q
              change WP _ LAY m_X12_statement 60 [(0, vR (some 74))] [] (mem (P, some 5, some 22) I47 J48) Q
              refine st_goto (pc' := 174) dX12_statement_60 (by decide) ?_
              exact st_vret dX12_statement_174 rfl rfl h
          · replace h := h.2 (b2i_t.mp c)
            refine st_aload_n (pc' := 40) dX12_statement_39 rfl rfl (j := 0) rfl ?_
            refine st_callV (pc' := 43) (kc := k - 1) (E' := LAY) (cal := m_X12_paging) (n := 0) (as := []) (S := []) dX12_statement_40 rfl l_X12_435 k_X12_paging rfl L_74 c_X12 rfl rfl (Nat.le_of_ble_eq_true rfl) (by omega) ⟨Nat.le_refl _, Nat.le_refl _, Nat.le_refl _, Nat.le_refl _⟩ h (fun r M' q => ?_)
            obtain ⟨I50, J51, rfl, rfl, h⟩ := q
            change WP _ LAY m_X12_statement 43 [(0, vR (some 74))] [] (mem (P, some 5, some 22) I50 J51) Q
            refine st_goto (pc' := 174) dX12_statement_43 (by decide) ?_
            exact st_vret dX12_statement_174 rfl rfl h
        · replace h := h.2 (b2i_t.mp c)
          refine st_aload_n (pc' := 23) dX12_statement_22 rfl rfl (j := 0) rfl ?_
          refine st_callV (pc' := 26) (kc := k - 1) (E' := LAY) (cal := m_X12_booking) (n := 0) (as := []) (S := []) dX12_statement_23 rfl l_X12_432 k_X12_booking rfl L_74 c_X12 rfl rfl (Nat.le_of_ble_eq_true rfl) (by omega) ⟨Nat.le_refl _, Nat.le_refl _, Nat.le_refl _, Nat.le_refl _⟩ h (fun r M' q => ?_)
          obtain ⟨I53, J54, rfl, rfl, h⟩ := q
          change WP _ LAY m_X12_statement 26 [(0, vR (some 74))] [] (mem (P, some 5, some 22) I53 J54) Q
          refine st_goto (pc' := 174) dX12_statement_26 (by decide) ?_
          exact st_vret dX12_statement_174 rfl rfl h
      · replace h := h.2 c
        exact st_vret dX12_statement_11 rfl rfl h
end WM3

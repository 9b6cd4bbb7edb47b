section WX7
set_option maxRecDepth 20000 in
set_option maxHeartbeats 4000000 in
theorem B_X7_clear_5_0 {k : Nat} {P : Option Nat} {I : Nat → Nat → Int32} {J : Nat → Nat → Int64}  {Q : Option AV → Mem → Prop} (hk : 1 ≤ k) (h : Q none (mem (P, some 5, some 22) (si (si (si (flI (flI (flI (flI (flI I 6 4 0) 7 180 0) 10 14 0) 11 14 0) 18 3 0) 5 13 0) 5 14 0) 5 15 60) J)) : WP k LAY m_X7_clear 0 [(0, vR (some 5))] [] (mem (P, some 5, some 22) I J) Q := by
  refine st_aload_n (pc' := 1) dX7_clear_0 rfl rfl (j := 0) rfl ?_
  refine G_X7_9_5 dX7_clear_1 (pc' := 4) rfl rfl ?_
  refine st_iconst (pc' := 5) dX7_clear_4 rfl ?_
  refine st_callS (pc' := 8) (kc := k - 1) (E' := LAY) (cal := m_J7_fill_53178) (n := 2) (as := [vR (some 6), vI 0]) (S := []) dX7_clear_5 rfl l_X7_54 k_J7_fill_53178 rfl rfl (Nat.le_of_ble_eq_true rfl) (by omega) ⟨Nat.le_refl _, Nat.le_refl _, Nat.le_refl _, Nat.le_refl _⟩ (Q1 := fun r M' => WP k LAY m_X7_clear 8 [(0, vR (some 5))] (r.toList ++ []) M' Q) (S_J7_fill (by omega) L_6 (by decide) ?_) (fun r M' q => q)
  change WP _ LAY m_X7_clear 8 [(0, vR (some 5))] [] (mem (P, some 5, some 22) (flI I 6 4 0) J) Q
  refine st_aload_n (pc' := 9) dX7_clear_8 rfl rfl (j := 0) rfl ?_
  refine G_X7_15_5 dX7_clear_9 (pc' := 12) rfl rfl ?_
  refine st_iconst (pc' := 13) dX7_clear_12 rfl ?_
  refine st_callS (pc' := 16) (kc := k - 1) (E' := LAY) (cal := m_J7_fill_53178) (n := 2) (as := [vR (some 7), vI 0]) (S := []) dX7_clear_13 rfl l_X7_54 k_J7_fill_53178 rfl rfl (Nat.le_of_ble_eq_true rfl) (by omega) ⟨Nat.le_refl _, Nat.le_refl _, Nat.le_refl _, Nat.le_refl _⟩ (Q1 := fun r M' => WP k LAY m_X7_clear 16 [(0, vR (some 5))] (r.toList ++ []) M' Q) (S_J7_fill (by omega) L_7 (by decide) ?_) (fun r M' q => q)
  change WP _ LAY m_X7_clear 16 [(0, vR (some 5))] [] (mem (P, some 5, some 22) (flI (flI I 6 4 0) 7 180 0) J) Q
  refine st_aload_n (pc' := 17) dX7_clear_16 rfl rfl (j := 0) rfl ?_
  refine G_X7_24_5 dX7_clear_17 (pc' := 20) rfl rfl ?_
  refine st_iconst (pc' := 21) dX7_clear_20 rfl ?_
  refine st_callS (pc' := 24) (kc := k - 1) (E' := LAY) (cal := m_J7_fill_53178) (n := 2) (as := [vR (some 10), vI 0]) (S := []) dX7_clear_21 rfl l_X7_54 k_J7_fill_53178 rfl rfl (Nat.le_of_ble_eq_true rfl) (by omega) ⟨Nat.le_refl _, Nat.le_refl _, Nat.le_refl _, Nat.le_refl _⟩ (Q1 := fun r M' => WP k LAY m_X7_clear 24 [(0, vR (some 5))] (r.toList ++ []) M' Q) (S_J7_fill (by omega) L_10 (by decide) ?_) (fun r M' q => q)
  change WP _ LAY m_X7_clear 24 [(0, vR (some 5))] [] (mem (P, some 5, some 22) (flI (flI (flI I 6 4 0) 7 180 0) 10 14 0) J) Q
  refine st_aload_n (pc' := 25) dX7_clear_24 rfl rfl (j := 0) rfl ?_
  refine G_X7_27_5 dX7_clear_25 (pc' := 28) rfl rfl ?_
  refine st_iconst (pc' := 29) dX7_clear_28 rfl ?_
  refine st_callS (pc' := 32) (kc := k - 1) (E' := LAY) (cal := m_J7_fill_53178) (n := 2) (as := [vR (some 11), vI 0]) (S := []) dX7_clear_29 rfl l_X7_54 k_J7_fill_53178 rfl rfl (Nat.le_of_ble_eq_true rfl) (by omega) ⟨Nat.le_refl _, Nat.le_refl _, Nat.le_refl _, Nat.le_refl _⟩ (Q1 := fun r M' => WP k LAY m_X7_clear 32 [(0, vR (some 5))] (r.toList ++ []) M' Q) (S_J7_fill (by omega) L_11 (by decide) ?_) (fun r M' q => q)
  change WP _ LAY m_X7_clear 32 [(0, vR (some 5))] [] (mem (P, some 5, some 22) (flI (flI (flI (flI I 6 4 0) 7 180 0) 10 14 0) 11 14 0) J) Q
  refine st_aload_n (pc' := 33) dX7_clear_32 rfl rfl (j := 0) rfl ?_
  refine G_X7_48_5 dX7_clear_33 (pc' := 36) rfl rfl ?_
  refine st_iconst (pc' := 37) dX7_clear_36 rfl ?_
  refine st_callS (pc' := 40) (kc := k - 1) (E' := LAY) (cal := m_J7_fill_53178) (n := 2) (as := [vR (some 18), vI 0]) (S := []) dX7_clear_37 rfl l_X7_54 k_J7_fill_53178 rfl rfl (Nat.le_of_ble_eq_true rfl) (by omega) ⟨Nat.le_refl _, Nat.le_refl _, Nat.le_refl _, Nat.le_refl _⟩ (Q1 := fun r M' => WP k LAY m_X7_clear 40 [(0, vR (some 5))] (r.toList ++ []) M' Q) (S_J7_fill (by omega) L_18 (by decide) ?_) (fun r M' q => q)
  change WP _ LAY m_X7_clear 40 [(0, vR (some 5))] [] (mem (P, some 5, some 22) (flI (flI (flI (flI (flI I 6 4 0) 7 180 0) 10 14 0) 11 14 0) 18 3 0) J) Q
  refine st_aload_n (pc' := 41) dX7_clear_40 rfl rfl (j := 0) rfl ?_
  refine st_iconst (pc' := 42) dX7_clear_41 rfl ?_
  refine P_X7_60_5 dX7_clear_42 (pc' := 45) rfl rfl ?_
  refine st_aload_n (pc' := 46) dX7_clear_45 rfl rfl (j := 0) rfl ?_
  refine st_iconst (pc' := 47) dX7_clear_46 rfl ?_
  refine P_X7_64_5 dX7_clear_47 (pc' := 50) rfl rfl ?_
  refine st_aload_n (pc' := 51) dX7_clear_50 rfl rfl (j := 0) rfl ?_
  refine st_bipush (pc' := 53) dX7_clear_51 rfl (by decide) ?_
  refine P_X7_67_5 dX7_clear_53 (pc' := 56) rfl rfl ?_
  exact st_vret dX7_clear_56 rfl rfl h
set_option maxRecDepth 20000 in
set_option maxHeartbeats 4000000 in
theorem B_X7_clear_22_0 {k : Nat} {P : Option Nat} {I : Nat → Nat → Int32} {J : Nat → Nat → Int64}  {Q : Option AV → Mem → Prop} (hk : 1 ≤ k) (h : Q none (mem (P, some 5, some 22) (si (si (si (flI (flI (flI (flI (flI I 23 4 0) 24 180 0) 27 14 0) 28 14 0) 35 3 0) 22 13 0) 22 14 0) 22 15 60) J)) : WP k LAY m_X7_clear 0 [(0, vR (some 22))] [] (mem (P, some 5, some 22) I J) Q := by
  refine st_aload_n (pc' := 1) dX7_clear_0 rfl rfl (j := 0) rfl ?_
  refine G_X7_9_22 dX7_clear_1 (pc' := 4) rfl rfl ?_
  refine st_iconst (pc' := 5) dX7_clear_4 rfl ?_
  refine st_callS (pc' := 8) (kc := k - 1) (E' := LAY) (cal := m_J7_fill_53178) (n := 2) (as := [vR (some 23), vI 0]) (S := []) dX7_clear_5 rfl l_X7_54 k_J7_fill_53178 rfl rfl (Nat.le_of_ble_eq_true rfl) (by omega) ⟨Nat.le_refl _, Nat.le_refl _, Nat.le_refl _, Nat.le_refl _⟩ (Q1 := fun r M' => WP k LAY m_X7_clear 8 [(0, vR (some 22))] (r.toList ++ []) M' Q) (S_J7_fill (by omega) L_23 (by decide) ?_) (fun r M' q => q)
  change WP _ LAY m_X7_clear 8 [(0, vR (some 22))] [] (mem (P, some 5, some 22) (flI I 23 4 0) J) Q
  refine st_aload_n (pc' := 9) dX7_clear_8 rfl rfl (j := 0) rfl ?_
  refine G_X7_15_22 dX7_clear_9 (pc' := 12) rfl rfl ?_
  refine st_iconst (pc' := 13) dX7_clear_12 rfl ?_
  refine st_callS (pc' := 16) (kc := k - 1) (E' := LAY) (cal := m_J7_fill_53178) (n := 2) (as := [vR (some 24), vI 0]) (S := []) dX7_clear_13 rfl l_X7_54 k_J7_fill_53178 rfl rfl (Nat.le_of_ble_eq_true rfl) (by omega) ⟨Nat.le_refl _, Nat.le_refl _, Nat.le_refl _, Nat.le_refl _⟩ (Q1 := fun r M' => WP k LAY m_X7_clear 16 [(0, vR (some 22))] (r.toList ++ []) M' Q) (S_J7_fill (by omega) L_24 (by decide) ?_) (fun r M' q => q)
  change WP _ LAY m_X7_clear 16 [(0, vR (some 22))] [] (mem (P, some 5, some 22) (flI (flI I 23 4 0) 24 180 0) J) Q
  refine st_aload_n (pc' := 17) dX7_clear_16 rfl rfl (j := 0) rfl ?_
  refine G_X7_24_22 dX7_clear_17 (pc' := 20) rfl rfl ?_
  refine st_iconst (pc' := 21) dX7_clear_20 rfl ?_
  refine st_callS (pc' := 24) (kc := k - 1) (E' := LAY) (cal := m_J7_fill_53178) (n := 2) (as := [vR (some 27), vI 0]) (S := []) dX7_clear_21 rfl l_X7_54 k_J7_fill_53178 rfl rfl (Nat.le_of_ble_eq_true rfl) (by omega) ⟨Nat.le_refl _, Nat.le_refl _, Nat.le_refl _, Nat.le_refl _⟩ (Q1 := fun r M' => WP k LAY m_X7_clear 24 [(0, vR (some 22))] (r.toList ++ []) M' Q) (S_J7_fill (by omega) L_27 (by decide) ?_) (fun r M' q => q)
  change WP _ LAY m_X7_clear 24 [(0, vR (some 22))] [] (mem (P, some 5, some 22) (flI (flI (flI I 23 4 0) 24 180 0) 27 14 0) J) Q
  refine st_aload_n (pc' := 25) dX7_clear_24 rfl rfl (j := 0) rfl ?_
  refine G_X7_27_22 dX7_clear_25 (pc' := 28) rfl rfl ?_
  refine st_iconst (pc' := 29) dX7_clear_28 rfl ?_
  refine st_callS (pc' := 32) (kc := k - 1) (E' := LAY) (cal := m_J7_fill_53178) (n := 2) (as := [vR (some 28), vI 0]) (S := []) dX7_clear_29 rfl l_X7_54 k_J7_fill_53178 rfl rfl (Nat.le_of_ble_eq_true rfl) (by omega) ⟨Nat.le_refl _, Nat.le_refl _, Nat.le_refl _, Nat.le_refl _⟩ (Q1 := fun r M' => WP k LAY m_X7_clear 32 [(0, vR (some 22))] (r.toList ++ []) M' Q) (S_J7_fill (by omega) L_28 (by decide) ?_) (fun r M' q => q)
  change WP _ LAY m_X7_clear 32 [(0, vR (some 22))] [] (mem (P, some 5, some 22) (flI (flI (flI (flI I 23 4 0) 24 180 0) 27 14 0) 28 14 0) J) Q
  refine st_aload_n (pc' := 33) dX7_clear_32 rfl rfl (j := 0) rfl ?_
  refine G_X7_48_22 dX7_clear_33 (pc' := 36) rfl rfl ?_
  refine st_iconst (pc' := 37) dX7_clear_36 rfl ?_
  refine st_callS (pc' := 40) (kc := k - 1) (E' := LAY) (cal := m_J7_fill_53178) (n := 2) (as := [vR (some 35), vI 0]) (S := []) dX7_clear_37 rfl l_X7_54 k_J7_fill_53178 rfl rfl (Nat.le_of_ble_eq_true rfl) (by omega) ⟨Nat.le_refl _, Nat.le_refl _, Nat.le_refl _, Nat.le_refl _⟩ (Q1 := fun r M' => WP k LAY m_X7_clear 40 [(0, vR (some 22))] (r.toList ++ []) M' Q) (S_J7_fill (by omega) L_35 (by decide) ?_) (fun r M' q => q)
  change WP _ LAY m_X7_clear 40 [(0, vR (some 22))] [] (mem (P, some 5, some 22) (flI (flI (flI (flI (flI I 23 4 0) 24 180 0) 27 14 0) 28 14 0) 35 3 0) J) Q
  refine st_aload_n (pc' := 41) dX7_clear_40 rfl rfl (j := 0) rfl ?_
  refine st_iconst (pc' := 42) dX7_clear_41 rfl ?_
  refine P_X7_60_22 dX7_clear_42 (pc' := 45) rfl rfl ?_
  refine st_aload_n (pc' := 46) dX7_clear_45 rfl rfl (j := 0) rfl ?_
  refine st_iconst (pc' := 47) dX7_clear_46 rfl ?_
  refine P_X7_64_22 dX7_clear_47 (pc' := 50) rfl rfl ?_
  refine st_aload_n (pc' := 51) dX7_clear_50 rfl rfl (j := 0) rfl ?_
  refine st_bipush (pc' := 53) dX7_clear_51 rfl (by decide) ?_
  refine P_X7_67_22 dX7_clear_53 (pc' := 56) rfl rfl ?_
  exact st_vret dX7_clear_56 rfl rfl h
set_option maxRecDepth 20000 in
set_option maxHeartbeats 4000000 in
theorem B_X7_letterAt_0 {k : Nat} {P : Option Nat} {I : Nat → Nat → Int32} {J : Nat → Nat → Int64} {x1 : Int} {Q : Option AV → Mem → Prop} (hk : 1 ≤ k) (h : inR ((gi I 1 3) + x1) ∧ (((gi I 1 4) ≤ ((gi I 1 3) + x1) → (Q (some (vI 0)) (mem (P, some 5, some 22) I J))) ∧ (¬ (gi I 1 4) ≤ ((gi I 1 3) + x1) → (gi I 1 1 ≤ 1600 ∧ (Q (some (vI (((byt I ((gi I 1 3) + x1)) - 97) + 1))) (mem (P, some 5, some 22) I J)))))) : WP k LAY m_X7_letterAt 0 [(0, vR (some 1)), (1, vI x1)] [] (mem (P, some 5, some 22) I J) Q := by
  refine st_aload_n (pc' := 1) dX7_letterAt_0 rfl rfl (j := 0) rfl ?_
  refine G_X7_77_1 dX7_letterAt_1 (pc' := 4) rfl rfl ?_
  refine st_iload_n (pc' := 5) dX7_letterAt_4 rfl rfl (j := 1) rfl ?_
  refine st_iadd (pc' := 6) dX7_letterAt_5 rfl ?_
  refine st_aload_n (pc' := 7) dX7_letterAt_6 rfl rfl (j := 0) rfl ?_
  refine G_X7_82_1 dX7_letterAt_7 (pc' := 10) rfl rfl ?_
  obtain ⟨e1, h⟩ := h
  refine st_icmp_ge (tg := 31) (pc' := 13) dX7_letterAt_10 (by decide) rfl e1 (gi_in _ _ _) (fun c => ?_) (fun c => ?_)
  · replace h := h.1 c
    refine st_iconst (pc' := 32) dX7_letterAt_31 rfl ?_
    exact st_iret (ty := .int) dX7_letterAt_32 rfl rfl rfl h
  · replace h := h.2 c
    refine st_aload_n (pc' := 14) dX7_letterAt_13 rfl rfl (j := 0) rfl ?_
    refine st_aload_n (pc' := 15) dX7_letterAt_14 rfl rfl (j := 0) rfl ?_
    refine G_X7_77_1 dX7_letterAt_15 (pc' := 18) rfl rfl ?_
    refine st_iload_n (pc' := 19) dX7_letterAt_18 rfl rfl (j := 1) rfl ?_
    refine st_iadd (pc' := 20) dX7_letterAt_19 rfl ?_
    obtain ⟨e2, h⟩ := h
    refine st_callV (pc' := 23) (kc := k - 1) (E' := LAY) (cal := m_X10_byteAt) (n := 1) (as := [vI ((gi I 1 3) + x1)]) (S := []) dX7_letterAt_20 rfl l_X7_85 k_X10_byteAt rfl L_1 c_X10 rfl rfl (Nat.le_of_ble_eq_true rfl) (by omega) ⟨Nat.le_refl _, Nat.le_refl _, Nat.le_refl _, Nat.le_refl _⟩ (Q1 := fun r M' => WP k LAY m_X7_letterAt 23 [(0, vR (some 1)), (1, vI x1)] (r.toList ++ []) M' Q) (S_X10_byteAt (by omega) e1 e2 ?_) (fun r M' q => q)
    change WP _ LAY m_X7_letterAt 23 [(0, vR (some 1)), (1, vI x1)] [vI (byt I ((gi I 1 3) + x1))] (mem (P, some 5, some 22) I J) Q
    refine st_bipush (pc' := 25) dX7_letterAt_23 rfl (by decide) ?_
    refine st_isub (pc' := 26) dX7_letterAt_25 rfl ?_
    refine st_iconst (pc' := 27) dX7_letterAt_26 rfl ?_
    refine st_iadd (pc' := 28) dX7_letterAt_27 rfl ?_
    refine st_goto (pc' := 32) dX7_letterAt_28 (by decide) ?_
    exact st_iret (ty := .int) dX7_letterAt_32 rfl rfl rfl h
set_option maxRecDepth 20000 in
set_option maxHeartbeats 4000000 in
theorem B_X7_findName_5_0 {k : Nat} {P : Option Nat} {I : Nat → Nat → Int32} {J : Nat → Nat → Int64} {x1 : Int} {Q : Option AV → Mem → Prop} (hk : 0 ≤ k) (h : WP k LAY m_X7_findName 2 [(0, vR (some 5)), (1, vI x1), (2, vR (some 1)), (3, vI 0)] [] (mem (P, some 5, some 22) I J) Q) : WP k LAY m_X7_findName 0 [(0, vR (some 5)), (1, vI x1), (2, vR (some 1))] [] (mem (P, some 5, some 22) I J) Q := by
  refine st_iconst (pc' := 1) dX7_findName_0 rfl ?_
  refine st_istore_n (pc' := 2) (L' := [(3, vI 0), (0, vR (some 5)), (1, vI x1), (2, vR (some 1))]) dX7_findName_1 rfl rfl (by decide) rfl ?_
  refine WP_sub (L' := [(0, vR (some 5)), (1, vI x1), (2, vR (some 1)), (3, vI 0)]) [1, 2, 3, 0] rfl ?_
  exact h
set_option maxRecDepth 20000 in
set_option maxHeartbeats 4000000 in
theorem B_X7_findName_5_2 {k : Nat} {P : Option Nat} {I : Nat → Nat → Int32} {J : Nat → Nat → Int64} {x1 : Int} {x3 : Int} {Q : Option AV → Mem → Prop} (hk : 0 ≤ k) (h : (0 ≤ x1 ∧ x1 < 4) ∧ (inR x3 ∧ (((gi I 6 (x1).toNat) ≤ x3 → (Q (some (vI (-1))) (mem (P, some 5, some 22) I J))) ∧ (¬ (gi I 6 (x1).toNat) ≤ x3 → (WP k LAY m_X7_findName 27 [(0, vR (some 5)), (1, vI x1), (2, vR (some 1)), (3, vI x3), (4, vI (((firstN.getD (x1).toNat 0) + x3) * 6)), (5, vI 0)] [] (mem (P, some 5, some 22) I J) Q))))) : WP k LAY m_X7_findName 2 [(0, vR (some 5)), (1, vI x1), (2, vR (some 1)), (3, vI x3)] [] (mem (P, some 5, some 22) I J) Q := by
  refine st_iload_n (pc' := 3) dX7_findName_2 rfl rfl (j := 3) rfl ?_
  refine st_aload_n (pc' := 4) dX7_findName_3 rfl rfl (j := 0) rfl ?_
  refine G_X7_9_5 dX7_findName_4 (pc' := 7) rfl rfl ?_
  refine st_iload_n (pc' := 8) dX7_findName_7 rfl rfl (j := 1) rfl ?_
  obtain ⟨e1, h⟩ := h
  refine st_iaload (pc' := 9) (v := (gi I 6 (x1).toNat)) dX7_findName_8 rfl L_6 (by decide) e1 (show gi I 6 (x1).toNat = (gi I 6 (x1).toNat) from rfl) ?_
  obtain ⟨e2, h⟩ := h
  refine st_icmp_ge (tg := 74) (pc' := 12) dX7_findName_9 (by decide) rfl e2 (gi_in _ _ _) (fun c => ?_) (fun c => ?_)
  · replace h := h.1 c
    refine st_iconst (pc' := 75) dX7_findName_74 rfl ?_
    exact st_iret (ty := .int) dX7_findName_75 rfl rfl rfl h
  · replace h := h.2 c
    refine st_getsFN (pc' := 15) dX7_findName_12 rfl rfl ?_
    refine st_iload_n (pc' := 16) dX7_findName_15 rfl rfl (j := 1) rfl ?_
    refine st_fnld (pc' := 17) (v := (firstN.getD (x1).toNat 0)) dX7_findName_16 rfl e1 rfl ?_
    refine st_iload_n (pc' := 18) dX7_findName_17 rfl rfl (j := 3) rfl ?_
    refine st_iadd (pc' := 19) dX7_findName_18 rfl ?_
    refine st_bipush (pc' := 21) dX7_findName_19 rfl (by decide) ?_
    refine st_imul (pc' := 22) dX7_findName_21 rfl ?_
    refine st_istore (pc' := 24) (L' := [(4, vI (((firstN.getD (x1).toNat 0) + x3) * 6)), (0, vR (some 5)), (1, vI x1), (2, vR (some 1)), (3, vI x3)]) dX7_findName_22 rfl (by decide) rfl ?_
    refine st_iconst (pc' := 25) dX7_findName_24 rfl ?_
    refine st_istore (pc' := 27) (L' := [(5, vI 0), (4, vI (((firstN.getD (x1).toNat 0) + x3) * 6)), (0, vR (some 5)), (1, vI x1), (2, vR (some 1)), (3, vI x3)]) dX7_findName_25 rfl (by decide) rfl ?_
    refine WP_sub (L' := [(0, vR (some 5)), (1, vI x1), (2, vR (some 1)), (3, vI x3), (4, vI (((firstN.getD (x1).toNat 0) + x3) * 6)), (5, vI 0)]) [2, 3, 4, 5, 1, 0] rfl ?_
    exact h
set_option maxRecDepth 20000 in
set_option maxHeartbeats 4000000 in
theorem B_X7_findName_5_27 {k : Nat} {P : Option Nat} {I : Nat → Nat → Int32} {J : Nat → Nat → Int64} {x1 : Int} {x3 : Int} {x4 : Int} {x5 : Int} {Q : Option AV → Mem → Prop} (hk : 2 ≤ k) (h : inR x5 ∧ ((6 ≤ x5 → ((¬ x5 = 6 → (WP k LAY m_X7_findName 2 [(0, vR (some 5)), (1, vI x1), (2, vR (some 1)), (3, vI (x3 + 1))] [] (mem (P, some 5, some 22) I J) Q)) ∧ (x5 = 6 → (Q (some (vI x3)) (mem (P, some 5, some 22) I J))))) ∧ (¬ 6 ≤ x5 → ((0 ≤ (x4 + x5) ∧ (x4 + x5) < 180) ∧ (inR ((gi I 1 3) + x5) ∧ (((gi I 1 4) ≤ ((gi I 1 3) + x5) → ((¬ (gi I 7 (x4 + x5).toNat) = 0 → ((¬ x5 = 6 → (WP k LAY m_X7_findName 2 [(0, vR (some 5)), (1, vI x1), (2, vR (some 1)), (3, vI (x3 + 1))] [] (mem (P, some 5, some 22) I J) Q)) ∧ (x5 = 6 → (Q (some (vI x3)) (mem (P, some 5, some 22) I J))))) ∧ ((gi I 7 (x4 + x5).toNat) = 0 → (WP k LAY m_X7_findName 27 [(0, vR (some 5)), (1, vI x1), (2, vR (some 1)), (3, vI x3), (4, vI x4), (5, vI (x5 + 1))] [] (mem (P, some 5, some 22) I J) Q)))) ∧ (¬ (gi I 1 4) ≤ ((gi I 1 3) + x5) → (gi I 1 1 ≤ 1600 ∧ (inR (((byt I ((gi I 1 3) + x5)) - 97) + 1) ∧ ((¬ (gi I 7 (x4 + x5).toNat) = (((byt I ((gi I 1 3) + x5)) - 97) + 1) → ((¬ x5 = 6 → (WP k LAY m_X7_findName 2 [(0, vR (some 5)), (1, vI x1), (2, vR (some 1)), (3, vI (x3 + 1))] [] (mem (P, some 5, some 22) I J) Q)) ∧ (x5 = 6 → (Q (some (vI x3)) (mem (P, some 5, some 22) I J))))) ∧ ((gi I 7 (x4 + x5).toNat) = (((byt I ((gi I 1 3) + x5)) - 97) + 1) → (WP k LAY m_X7_findName 27 [(0, vR (some 5)), (1, vI x1), (2, vR (some 1)), (3, vI x3), (4, vI x4), (5, vI (x5 + 1))] [] (mem (P, some 5, some 22) I J) Q)))))))))))) : WP k LAY m_X7_findName 27 [(0, vR (some 5)), (1, vI x1), (2, vR (some 1)), (3, vI x3), (4, vI x4), (5, vI x5)] [] (mem (P, some 5, some 22) I J) Q := by
  refine st_iload (pc' := 29) dX7_findName_27 rfl (j := 5) rfl ?_
  refine st_bipush (pc' := 31) dX7_findName_29 rfl (by decide) ?_
  obtain ⟨e1, h⟩ := h
  refine st_icmp_ge (tg := 59) (pc' := 34) dX7_findName_31 (by decide) rfl e1 (by decide) (fun c => ?_) (fun c => ?_)
  · replace h := h.1 c
    refine st_iload (pc' := 61) dX7_findName_59 rfl (j := 5) rfl ?_
    refine st_bipush (pc' := 63) dX7_findName_61 rfl (by decide) ?_
    refine st_icmp_ne (tg := 68) (pc' := 66) dX7_findName_63 (by decide) rfl e1 (by decide) (fun c => ?_) (fun c => ?_)
    · replace h := h.1 c
      refine st_iinc (pc' := 71) (L' := [(3, vI (x3 + 1)), (0, vR (some 5)), (1, vI x1), (2, vR (some 1)), (4, vI x4), (5, vI x5)]) (j := 3) dX7_findName_68 rfl (by decide) rfl rfl ?_
      refine st_goto (pc' := 2) dX7_findName_71 (by decide) ?_
      refine WP_sub (L' := [(0, vR (some 5)), (1, vI x1), (2, vR (some 1)), (3, vI (x3 + 1))]) [1, 2, 3, 0] rfl ?_
      exact h
    · replace h := h.2 c
      refine st_iload_n (pc' := 67) dX7_findName_66 rfl rfl (j := 3) rfl ?_
      exact st_iret (ty := .int) dX7_findName_67 rfl rfl rfl h
  · replace h := h.2 c
    refine st_aload_n (pc' := 35) dX7_findName_34 rfl rfl (j := 0) rfl ?_
    refine G_X7_15_5 dX7_findName_35 (pc' := 38) rfl rfl ?_
    refine st_iload (pc' := 40) dX7_findName_38 rfl (j := 4) rfl ?_
    refine st_iload (pc' := 42) dX7_findName_40 rfl (j := 5) rfl ?_
    refine st_iadd (pc' := 43) dX7_findName_42 rfl ?_
    obtain ⟨e2, h⟩ := h
    refine st_iaload (pc' := 44) (v := (gi I 7 (x4 + x5).toNat)) dX7_findName_43 rfl L_7 (by decide) e2 (show gi I 7 (x4 + x5).toNat = (gi I 7 (x4 + x5).toNat) from rfl) ?_
    refine st_aload_n (pc' := 45) dX7_findName_44 rfl rfl (j := 2) rfl ?_
    refine st_iload (pc' := 47) dX7_findName_45 rfl (j := 5) rfl ?_
    refine st_callS (pc' := 50) (kc := k - 1) (E' := LAY) (cal := m_X7_letterAt) (n := 2) (as := [vR (some 1), vI x5]) (S := [vI (gi I 7 (x4 + x5).toNat)]) dX7_findName_47 rfl l_X7_73 k_X7_letterAt rfl rfl (Nat.le_of_ble_eq_true rfl) (by omega) ⟨Nat.le_refl _, Nat.le_refl _, Nat.le_refl _, Nat.le_refl _⟩ (Q1 := fun r M' => WP k LAY m_X7_findName 50 [(0, vR (some 5)), (1, vI x1), (2, vR (some 1)), (3, vI x3), (4, vI x4), (5, vI x5)] (r.toList ++ [vI (gi I 7 (x4 + x5).toNat)]) M' Q) (WPm.of k_X7_letterAt.1 (Nat.le_of_ble_eq_true rfl) (B_X7_letterAt_0 (by omega) ?_)) (fun r M' q => q)
    obtain ⟨e3, h⟩ := h
    refine ⟨e3, ?_⟩
    refine ⟨fun c => ?_, fun c => ?_⟩
    · replace h := h.1 c
      change WP _ LAY m_X7_findName 50 [(0, vR (some 5)), (1, vI x1), (2, vR (some 1)), (3, vI x3), (4, vI x4), (5, vI x5)] [vI 0, vI (gi I 7 (x4 + x5).toNat)] (mem (P, some 5, some 22) I J) Q
      refine st_icmp_ne (tg := 59) (pc' := 53) dX7_findName_50 (by decide) rfl (gi_in _ _ _) (by decide) (fun c => ?_) (fun c => ?_)
      · replace h := h.1 c
        refine st_iload (pc' := 61) dX7_findName_59 rfl (j := 5) rfl ?_
        refine st_bipush (pc' := 63) dX7_findName_61 rfl (by decide) ?_
        refine st_icmp_ne (tg := 68) (pc' := 66) dX7_findName_63 (by decide) rfl e1 (by decide) (fun c => ?_) (fun c => ?_)
        · replace h := h.1 c
          refine st_iinc (pc' := 71) (L' := [(3, vI (x3 + 1)), (0, vR (some 5)), (1, vI x1), (2, vR (some 1)), (4, vI x4), (5, vI x5)]) (j := 3) dX7_findName_68 rfl (by decide) rfl rfl ?_
          refine st_goto (pc' := 2) dX7_findName_71 (by decide) ?_
          refine WP_sub (L' := [(0, vR (some 5)), (1, vI x1), (2, vR (some 1)), (3, vI (x3 + 1))]) [1, 2, 3, 0] rfl ?_
          exact h
        · replace h := h.2 c
          refine st_iload_n (pc' := 67) dX7_findName_66 rfl rfl (j := 3) rfl ?_
          exact st_iret (ty := .int) dX7_findName_67 rfl rfl rfl h
      · replace h := h.2 c
        refine st_iinc (pc' := 56) (L' := [(5, vI (x5 + 1)), (0, vR (some 5)), (1, vI x1), (2, vR (some 1)), (3, vI x3), (4, vI x4)]) (j := 5) dX7_findName_53 rfl (by decide) rfl rfl ?_
        refine st_goto (pc' := 27) dX7_findName_56 (by decide) ?_
        refine WP_sub (L' := [(0, vR (some 5)), (1, vI x1), (2, vR (some 1)), (3, vI x3), (4, vI x4), (5, vI (x5 + 1))]) [1, 2, 3, 4, 5, 0] rfl ?_
        exact h
    · replace h := h.2 c
      obtain ⟨e4, h⟩ := h
      refine ⟨e4, ?_⟩
      change WP _ LAY m_X7_findName 50 [(0, vR (some 5)), (1, vI x1), (2, vR (some 1)), (3, vI x3), (4, vI x4), (5, vI x5)] [vI (((byt I ((gi I 1 3) + x5)) - 97) + 1), vI (gi I 7 (x4 + x5).toNat)] (mem (P, some 5, some 22) I J) Q
      obtain ⟨e5, h⟩ := h
      refine st_icmp_ne (tg := 59) (pc' := 53) dX7_findName_50 (by decide) rfl (gi_in _ _ _) e5 (fun c => ?_) (fun c => ?_)
      · replace h := h.1 c
        refine st_iload (pc' := 61) dX7_findName_59 rfl (j := 5) rfl ?_
        refine st_bipush (pc' := 63) dX7_findName_61 rfl (by decide) ?_
        refine st_icmp_ne (tg := 68) (pc' := 66) dX7_findName_63 (by decide) rfl e1 (by decide) (fun c => ?_) (fun c => ?_)
        · replace h := h.1 c
          refine st_iinc (pc' := 71) (L' := [(3, vI (x3 + 1)), (0, vR (some 5)), (1, vI x1), (2, vR (some 1)), (4, vI x4), (5, vI x5)]) (j := 3) dX7_findName_68 rfl (by decide) rfl rfl ?_
          refine st_goto (pc' := 2) dX7_findName_71 (by decide) ?_
          refine WP_sub (L' := [(0, vR (some 5)), (1, vI x1), (2, vR (some 1)), (3, vI (x3 + 1))]) [1, 2, 3, 0] rfl ?_
          exact h
        · replace h := h.2 c
          refine st_iload_n (pc' := 67) dX7_findName_66 rfl rfl (j := 3) rfl ?_
          exact st_iret (ty := .int) dX7_findName_67 rfl rfl rfl h
      · replace h := h.2 c
        refine st_iinc (pc' := 56) (L' := [(5, vI (x5 + 1)), (0, vR (some 5)), (1, vI x1), (2, vR (some 1)), (3, vI x3), (4, vI x4)]) (j := 5) dX7_findName_53 rfl (by decide) rfl rfl ?_
        refine st_goto (pc' := 27) dX7_findName_56 (by decide) ?_
        refine WP_sub (L' := [(0, vR (some 5)), (1, vI x1), (2, vR (some 1)), (3, vI x3), (4, vI x4), (5, vI (x5 + 1))]) [1, 2, 3, 4, 5, 0] rfl ?_
        exact h
set_option maxRecDepth 20000 in
set_option maxHeartbeats 4000000 in
theorem B_X7_findName_22_0 {k : Nat} {P : Option Nat} {I : Nat → Nat → Int32} {J : Nat → Nat → Int64} {x1 : Int} {Q : Option AV → Mem → Prop} (hk : 0 ≤ k) (h : WP k LAY m_X7_findName 2 [(0, vR (some 22)), (1, vI x1), (2, vR (some 1)), (3, vI 0)] [] (mem (P, some 5, some 22) I J) Q) : WP k LAY m_X7_findName 0 [(0, vR (some 22)), (1, vI x1), (2, vR (some 1))] [] (mem (P, some 5, some 22) I J) Q := by
  refine st_iconst (pc' := 1) dX7_findName_0 rfl ?_
  refine st_istore_n (pc' := 2) (L' := [(3, vI 0), (0, vR (some 22)), (1, vI x1), (2, vR (some 1))]) dX7_findName_1 rfl rfl (by decide) rfl ?_
  refine WP_sub (L' := [(0, vR (some 22)), (1, vI x1), (2, vR (some 1)), (3, vI 0)]) [1, 2, 3, 0] rfl ?_
  exact h
set_option maxRecDepth 20000 in
set_option maxHeartbeats 4000000 in
theorem B_X7_findName_22_2 {k : Nat} {P : Option Nat} {I : Nat → Nat → Int32} {J : Nat → Nat → Int64} {x1 : Int} {x3 : Int} {Q : Option AV → Mem → Prop} (hk : 0 ≤ k) (h : (0 ≤ x1 ∧ x1 < 4) ∧ (inR x3 ∧ (((gi I 23 (x1).toNat) ≤ x3 → (Q (some (vI (-1))) (mem (P, some 5, some 22) I J))) ∧ (¬ (gi I 23 (x1).toNat) ≤ x3 → (WP k LAY m_X7_findName 27 [(0, vR (some 22)), (1, vI x1), (2, vR (some 1)), (3, vI x3), (4, vI (((firstN.getD (x1).toNat 0) + x3) * 6)), (5, vI 0)] [] (mem (P, some 5, some 22) I J) Q))))) : WP k LAY m_X7_findName 2 [(0, vR (some 22)), (1, vI x1), (2, vR (some 1)), (3, vI x3)] [] (mem (P, some 5, some 22) I J) Q := by
  refine st_iload_n (pc' := 3) dX7_findName_2 rfl rfl (j := 3) rfl ?_
  refine st_aload_n (pc' := 4) dX7_findName_3 rfl rfl (j := 0) rfl ?_
  refine G_X7_9_22 dX7_findName_4 (pc' := 7) rfl rfl ?_
  refine st_iload_n (pc' := 8) dX7_findName_7 rfl rfl (j := 1) rfl ?_
  obtain ⟨e1, h⟩ := h
  refine st_iaload (pc' := 9) (v := (gi I 23 (x1).toNat)) dX7_findName_8 rfl L_23 (by decide) e1 (show gi I 23 (x1).toNat = (gi I 23 (x1).toNat) from rfl) ?_
  obtain ⟨e2, h⟩ := h
  refine st_icmp_ge (tg := 74) (pc' := 12) dX7_findName_9 (by decide) rfl e2 (gi_in _ _ _) (fun c => ?_) (fun c => ?_)
  · replace h := h.1 c
    refine st_iconst (pc' := 75) dX7_findName_74 rfl ?_
    exact st_iret (ty := .int) dX7_findName_75 rfl rfl rfl h
  · replace h := h.2 c
    refine st_getsFN (pc' := 15) dX7_findName_12 rfl rfl ?_
    refine st_iload_n (pc' := 16) dX7_findName_15 rfl rfl (j := 1) rfl ?_
    refine st_fnld (pc' := 17) (v := (firstN.getD (x1).toNat 0)) dX7_findName_16 rfl e1 rfl ?_
    refine st_iload_n (pc' := 18) dX7_findName_17 rfl rfl (j := 3) rfl ?_
    refine st_iadd (pc' := 19) dX7_findName_18 rfl ?_
    refine st_bipush (pc' := 21) dX7_findName_19 rfl (by decide) ?_
    refine st_imul (pc' := 22) dX7_findName_21 rfl ?_
    refine st_istore (pc' := 24) (L' := [(4, vI (((firstN.getD (x1).toNat 0) + x3) * 6)), (0, vR (some 22)), (1, vI x1), (2, vR (some 1)), (3, vI x3)]) dX7_findName_22 rfl (by decide) rfl ?_
    refine st_iconst (pc' := 25) dX7_findName_24 rfl ?_
    refine st_istore (pc' := 27) (L' := [(5, vI 0), (4, vI (((firstN.getD (x1).toNat 0) + x3) * 6)), (0, vR (some 22)), (1, vI x1), (2, vR (some 1)), (3, vI x3)]) dX7_findName_25 rfl (by decide) rfl ?_
    refine WP_sub (L' := [(0, vR (some 22)), (1, vI x1), (2, vR (some 1)), (3, vI x3), (4, vI (((firstN.getD (x1).toNat 0) + x3) * 6)), (5, vI 0)]) [2, 3, 4, 5, 1, 0] rfl ?_
    exact h
set_option maxRecDepth 20000 in
set_option maxHeartbeats 4000000 in
theorem B_X7_findName_22_27 {k : Nat} {P : Option Nat} {I : Nat → Nat → Int32} {J : Nat → Nat → Int64} {x1 : Int} {x3 : Int} {x4 : Int} {x5 : Int} {Q : Option AV → Mem → Prop} (hk : 2 ≤ k) (h : inR x5 ∧ ((6 ≤ x5 → ((¬ x5 = 6 → (WP k LAY m_X7_findName 2 [(0, vR (some 22)), (1, vI x1), (2, vR (some 1)), (3, vI (x3 + 1))] [] (mem (P, some 5, some 22) I J) Q)) ∧ (x5 = 6 → (Q (some (vI x3)) (mem (P, some 5, some 22) I J))))) ∧ (¬ 6 ≤ x5 → ((0 ≤ (x4 + x5) ∧ (x4 + x5) < 180) ∧ (inR ((gi I 1 3) + x5) ∧ (((gi I 1 4) ≤ ((gi I 1 3) + x5) → ((¬ (gi I 24 (x4 + x5).toNat) = 0 → ((¬ x5 = 6 → (WP k LAY m_X7_findName 2 [(0, vR (some 22)), (1, vI x1), (2, vR (some 1)), (3, vI (x3 + 1))] [] (mem (P, some 5, some 22) I J) Q)) ∧ (x5 = 6 → (Q (some (vI x3)) (mem (P, some 5, some 22) I J))))) ∧ ((gi I 24 (x4 + x5).toNat) = 0 → (WP k LAY m_X7_findName 27 [(0, vR (some 22)), (1, vI x1), (2, vR (some 1)), (3, vI x3), (4, vI x4), (5, vI (x5 + 1))] [] (mem (P, some 5, some 22) I J) Q)))) ∧ (¬ (gi I 1 4) ≤ ((gi I 1 3) + x5) → (gi I 1 1 ≤ 1600 ∧ (inR (((byt I ((gi I 1 3) + x5)) - 97) + 1) ∧ ((¬ (gi I 24 (x4 + x5).toNat) = (((byt I ((gi I 1 3) + x5)) - 97) + 1) → ((¬ x5 = 6 → (WP k LAY m_X7_findName 2 [(0, vR (some 22)), (1, vI x1), (2, vR (some 1)), (3, vI (x3 + 1))] [] (mem (P, some 5, some 22) I J) Q)) ∧ (x5 = 6 → (Q (some (vI x3)) (mem (P, some 5, some 22) I J))))) ∧ ((gi I 24 (x4 + x5).toNat) = (((byt I ((gi I 1 3) + x5)) - 97) + 1) → (WP k LAY m_X7_findName 27 [(0, vR (some 22)), (1, vI x1), (2, vR (some 1)), (3, vI x3), (4, vI x4), (5, vI (x5 + 1))] [] (mem (P, some 5, some 22) I J) Q)))))))))))) : WP k LAY m_X7_findName 27 [(0, vR (some 22)), (1, vI x1), (2, vR (some 1)), (3, vI x3), (4, vI x4), (5, vI x5)] [] (mem (P, some 5, some 22) I J) Q := by
  refine st_iload (pc' := 29) dX7_findName_27 rfl (j := 5) rfl ?_
  refine st_bipush (pc' := 31) dX7_findName_29 rfl (by decide) ?_
  obtain ⟨e1, h⟩ := h
  refine st_icmp_ge (tg := 59) (pc' := 34) dX7_findName_31 (by decide) rfl e1 (by decide) (fun c => ?_) (fun c => ?_)
  · replace h := h.1 c
    refine st_iload (pc' := 61) dX7_findName_59 rfl (j := 5) rfl ?_
    refine st_bipush (pc' := 63) dX7_findName_61 rfl (by decide) ?_
    refine st_icmp_ne (tg := 68) (pc' := 66) dX7_findName_63 (by decide) rfl e1 (by decide) (fun c => ?_) (fun c => ?_)
    · replace h := h.1 c
      refine st_iinc (pc' := 71) (L' := [(3, vI (x3 + 1)), (0, vR (some 22)), (1, vI x1), (2, vR (some 1)), (4, vI x4), (5, vI x5)]) (j := 3) dX7_findName_68 rfl (by decide) rfl rfl ?_
      refine st_goto (pc' := 2) dX7_findName_71 (by decide) ?_
      refine WP_sub (L' := [(0, vR (some 22)), (1, vI x1), (2, vR (some 1)), (3, vI (x3 + 1))]) [1, 2, 3, 0] rfl ?_
      exact h
    · replace h := h.2 c
      refine st_iload_n (pc' := 67) dX7_findName_66 rfl rfl (j := 3) rfl ?_
      exact st_iret (ty := .int) dX7_findName_67 rfl rfl rfl h
  · replace h := h.2 c
    refine st_aload_n (pc' := 35) dX7_findName_34 rfl rfl (j := 0) rfl ?_
    refine G_X7_15_22 dX7_findName_35 (pc' := 38) rfl rfl ?_
    refine st_iload (pc' := 40) dX7_findName_38 rfl (j := 4) rfl ?_
    refine st_iload (pc' := 42) dX7_findName_40 rfl (j := 5) rfl ?_
    refine st_iadd (pc' := 43) dX7_findName_42 rfl ?_
    obtain ⟨e2, h⟩ := h
    refine st_iaload (pc' := 44) (v := (gi I 24 (x4 + x5).toNat)) dX7_findName_43 rfl L_24 (by decide) e2 (show gi I 24 (x4 + x5).toNat = (gi I 24 (x4 + x5).toNat) from rfl) ?_
    refine st_aload_n (pc' := 45) dX7_findName_44 rfl rfl (j := 2) rfl ?_
    refine st_iload (pc' := 47) dX7_findName_45 rfl (j := 5) rfl ?_
    refine st_callS (pc' := 50) (kc := k - 1) (E' := LAY) (cal := m_X7_letterAt) (n := 2) (as := [vR (some 1), vI x5]) (S := [vI (gi I 24 (x4 + x5).toNat)]) dX7_findName_47 rfl l_X7_73 k_X7_letterAt rfl rfl (Nat.le_of_ble_eq_true rfl) (by omega) ⟨Nat.le_refl _, Nat.le_refl _, Nat.le_refl _, Nat.le_refl _⟩ (Q1 := fun r M' => WP k LAY m_X7_findName 50 [(0, vR (some 22)), (1, vI x1), (2, vR (some 1)), (3, vI x3), (4, vI x4), (5, vI x5)] (r.toList ++ [vI (gi I 24 (x4 + x5).toNat)]) M' Q) (WPm.of k_X7_letterAt.1 (Nat.le_of_ble_eq_true rfl) (B_X7_letterAt_0 (by omega) ?_)) (fun r M' q => q)
    obtain ⟨e3, h⟩ := h
    refine ⟨e3, ?_⟩
    refine ⟨fun c => ?_, fun c => ?_⟩
    · replace h := h.1 c
      change WP _ LAY m_X7_findName 50 [(0, vR (some 22)), (1, vI x1), (2, vR (some 1)), (3, vI x3), (4, vI x4), (5, vI x5)] [vI 0, vI (gi I 24 (x4 + x5).toNat)] (mem (P, some 5, some 22) I J) Q
      refine st_icmp_ne (tg := 59) (pc' := 53) dX7_findName_50 (by decide) rfl (gi_in _ _ _) (by decide) (fun c => ?_) (fun c => ?_)
      · replace h := h.1 c
        refine st_iload (pc' := 61) dX7_findName_59 rfl (j := 5) rfl ?_
        refine st_bipush (pc' := 63) dX7_findName_61 rfl (by decide) ?_
        refine st_icmp_ne (tg := 68) (pc' := 66) dX7_findName_63 (by decide) rfl e1 (by decide) (fun c => ?_) (fun c => ?_)
        · replace h := h.1 c
          refine st_iinc (pc' := 71) (L' := [(3, vI (x3 + 1)), (0, vR (some 22)), (1, vI x1), (2, vR (some 1)), (4, vI x4), (5, vI x5)]) (j := 3) dX7_findName_68 rfl (by decide) rfl rfl ?_
          refine st_goto (pc' := 2) dX7_findName_71 (by decide) ?_
          refine WP_sub (L' := [(0, vR (some 22)), (1, vI x1), (2, vR (some 1)), (3, vI (x3 + 1))]) [1, 2, 3, 0] rfl ?_
          exact h
        · replace h := h.2 c
          refine st_iload_n (pc' := 67) dX7_findName_66 rfl rfl (j := 3) rfl ?_
          exact st_iret (ty := .int) dX7_findName_67 rfl rfl rfl h
      · replace h := h.2 c
        refine st_iinc (pc' := 56) (L' := [(5, vI (x5 + 1)), (0, vR (some 22)), (1, vI x1), (2, vR (some 1)), (3, vI x3), (4, vI x4)]) (j := 5) dX7_findName_53 rfl (by decide) rfl rfl ?_
        refine st_goto (pc' := 27) dX7_findName_56 (by decide) ?_
        refine WP_sub (L' := [(0, vR (some 22)), (1, vI x1), (2, vR (some 1)), (3, vI x3), (4, vI x4), (5, vI (x5 + 1))]) [1, 2, 3, 4, 5, 0] rfl ?_
        exact h
    · replace h := h.2 c
      obtain ⟨e4, h⟩ := h
      refine ⟨e4, ?_⟩
      change WP _ LAY m_X7_findName 50 [(0, vR (some 22)), (1, vI x1), (2, vR (some 1)), (3, vI x3), (4, vI x4), (5, vI x5)] [vI (((byt I ((gi I 1 3) + x5)) - 97) + 1), vI (gi I 24 (x4 + x5).toNat)] (mem (P, some 5, some 22) I J) Q
      obtain ⟨e5, h⟩ := h
      refine st_icmp_ne (tg := 59) (pc' := 53) dX7_findName_50 (by decide) rfl (gi_in _ _ _) e5 (fun c => ?_) (fun c => ?_)
      · replace h := h.1 c
        refine st_iload (pc' := 61) dX7_findName_59 rfl (j := 5) rfl ?_
        refine st_bipush (pc' := 63) dX7_findName_61 rfl (by decide) ?_
        refine st_icmp_ne (tg := 68) (pc' := 66) dX7_findName_63 (by decide) rfl e1 (by decide) (fun c => ?_) (fun c => ?_)
        · replace h := h.1 c
          refine st_iinc (pc' := 71) (L' := [(3, vI (x3 + 1)), (0, vR (some 22)), (1, vI x1), (2, vR (some 1)), (4, vI x4), (5, vI x5)]) (j := 3) dX7_findName_68 rfl (by decide) rfl rfl ?_
          refine st_goto (pc' := 2) dX7_findName_71 (by decide) ?_
          refine WP_sub (L' := [(0, vR (some 22)), (1, vI x1), (2, vR (some 1)), (3, vI (x3 + 1))]) [1, 2, 3, 0] rfl ?_
          exact h
        · replace h := h.2 c
          refine st_iload_n (pc' := 67) dX7_findName_66 rfl rfl (j := 3) rfl ?_
          exact st_iret (ty := .int) dX7_findName_67 rfl rfl rfl h
      · replace h := h.2 c
        refine st_iinc (pc' := 56) (L' := [(5, vI (x5 + 1)), (0, vR (some 22)), (1, vI x1), (2, vR (some 1)), (3, vI x3), (4, vI x4)]) (j := 5) dX7_findName_53 rfl (by decide) rfl rfl ?_
        refine st_goto (pc' := 27) dX7_findName_56 (by decide) ?_
        refine WP_sub (L' := [(0, vR (some 22)), (1, vI x1), (2, vR (some 1)), (3, vI x3), (4, vI x4), (5, vI (x5 + 1))]) [1, 2, 3, 4, 5, 0] rfl ?_
        exact h
set_option maxRecDepth 20000 in
set_option maxHeartbeats 4000000 in
theorem B_X7_giveName_5_0 {k : Nat} {P : Option Nat} {I : Nat → Nat → Int32} {J : Nat → Nat → Int64} {x1 : Int} {Q : Option AV → Mem → Prop} (hk : 0 ≤ k) (h : (0 ≤ x1 ∧ x1 < 4) ∧ (WP k LAY m_X7_giveName 19 [(0, vR (some 5)), (1, vI x1), (2, vR (some 1)), (3, vI (((firstN.getD (x1).toNat 0) + (gi I 6 (x1).toNat)) * 6)), (4, vI 0)] [] (mem (P, some 5, some 22) I J) Q)) : WP k LAY m_X7_giveName 0 [(0, vR (some 5)), (1, vI x1), (2, vR (some 1))] [] (mem (P, some 5, some 22) I J) Q := by
  refine st_getsFN (pc' := 3) dX7_giveName_0 rfl rfl ?_
  refine st_iload_n (pc' := 4) dX7_giveName_3 rfl rfl (j := 1) rfl ?_
  obtain ⟨e1, h⟩ := h
  refine st_fnld (pc' := 5) (v := (firstN.getD (x1).toNat 0)) dX7_giveName_4 rfl e1 rfl ?_
  refine st_aload_n (pc' := 6) dX7_giveName_5 rfl rfl (j := 0) rfl ?_
  refine G_X7_9_5 dX7_giveName_6 (pc' := 9) rfl rfl ?_
  refine st_iload_n (pc' := 10) dX7_giveName_9 rfl rfl (j := 1) rfl ?_
  refine st_iaload (pc' := 11) (v := (gi I 6 (x1).toNat)) dX7_giveName_10 rfl L_6 (by decide) e1 (show gi I 6 (x1).toNat = (gi I 6 (x1).toNat) from rfl) ?_
  refine st_iadd (pc' := 12) dX7_giveName_11 rfl ?_
  refine st_bipush (pc' := 14) dX7_giveName_12 rfl (by decide) ?_
  refine st_imul (pc' := 15) dX7_giveName_14 rfl ?_
  refine st_istore_n (pc' := 16) (L' := [(3, vI (((firstN.getD (x1).toNat 0) + (gi I 6 (x1).toNat)) * 6)), (0, vR (some 5)), (1, vI x1), (2, vR (some 1))]) dX7_giveName_15 rfl rfl (by decide) rfl ?_
  refine st_iconst (pc' := 17) dX7_giveName_16 rfl ?_
  refine st_istore (pc' := 19) (L' := [(4, vI 0), (3, vI (((firstN.getD (x1).toNat 0) + (gi I 6 (x1).toNat)) * 6)), (0, vR (some 5)), (1, vI x1), (2, vR (some 1))]) dX7_giveName_17 rfl (by decide) rfl ?_
  refine WP_sub (L' := [(0, vR (some 5)), (1, vI x1), (2, vR (some 1)), (3, vI (((firstN.getD (x1).toNat 0) + (gi I 6 (x1).toNat)) * 6)), (4, vI 0)]) [2, 3, 4, 1, 0] rfl ?_
  exact h
set_option maxRecDepth 20000 in
set_option maxHeartbeats 4000000 in
theorem B_X7_giveName_5_19 {k : Nat} {P : Option Nat} {I : Nat → Nat → Int32} {J : Nat → Nat → Int64} {x1 : Int} {x3 : Int} {x4 : Int} {Q : Option AV → Mem → Prop} (hk : 2 ≤ k) (h : inR x4 ∧ ((6 ≤ x4 → ((0 ≤ x1 ∧ x1 < 4) ∧ (Q none (mem (P, some 5, some 22) (si I 6 (x1).toNat ((gi I 6 (x1).toNat) + 1)) J)))) ∧ (¬ 6 ≤ x4 → (inR ((gi I 1 3) + x4) ∧ (((gi I 1 4) ≤ ((gi I 1 3) + x4) → ((0 ≤ (x3 + x4) ∧ (x3 + x4) < 180) ∧ (WP k LAY m_X7_giveName 19 [(0, vR (some 5)), (1, vI x1), (2, vR (some 1)), (3, vI x3), (4, vI (x4 + 1))] [] (mem (P, some 5, some 22) (si I 7 (x3 + x4).toNat 0) J) Q))) ∧ (¬ (gi I 1 4) ≤ ((gi I 1 3) + x4) → (gi I 1 1 ≤ 1600 ∧ ((0 ≤ (x3 + x4) ∧ (x3 + x4) < 180) ∧ (WP k LAY m_X7_giveName 19 [(0, vR (some 5)), (1, vI x1), (2, vR (some 1)), (3, vI x3), (4, vI (x4 + 1))] [] (mem (P, some 5, some 22) (si I 7 (x3 + x4).toNat (((byt I ((gi I 1 3) + x4)) - 97) + 1)) J) Q))))))))) : WP k LAY m_X7_giveName 19 [(0, vR (some 5)), (1, vI x1), (2, vR (some 1)), (3, vI x3), (4, vI x4)] [] (mem (P, some 5, some 22) I J) Q := by
  refine st_iload (pc' := 21) dX7_giveName_19 rfl (j := 4) rfl ?_
  refine st_bipush (pc' := 23) dX7_giveName_21 rfl (by decide) ?_
  obtain ⟨e1, h⟩ := h
  refine st_icmp_ge (tg := 47) (pc' := 26) dX7_giveName_23 (by decide) rfl e1 (by decide) (fun c => ?_) (fun c => ?_)
  · replace h := h.1 c
    refine st_aload_n (pc' := 48) dX7_giveName_47 rfl rfl (j := 0) rfl ?_
    refine G_X7_9_5 dX7_giveName_48 (pc' := 51) rfl rfl ?_
    refine st_iload_n (pc' := 52) dX7_giveName_51 rfl rfl (j := 1) rfl ?_
    refine st_dup2 (pc' := 53) dX7_giveName_52 rfl rfl rfl ?_
    obtain ⟨e2, h⟩ := h
    refine st_iaload (pc' := 54) (v := (gi I 6 (x1).toNat)) dX7_giveName_53 rfl L_6 (by decide) e2 (show gi I 6 (x1).toNat = (gi I 6 (x1).toNat) from rfl) ?_
    refine st_iconst (pc' := 55) dX7_giveName_54 rfl ?_
    refine st_iadd (pc' := 56) dX7_giveName_55 rfl ?_
    refine st_iastore (pc' := 57) (M' := (mem (P, some 5, some 22) (si I 6 (x1).toNat ((gi I 6 (x1).toNat) + 1)) J)) dX7_giveName_56 rfl L_6 (by decide) e2 rfl ?_
    exact st_vret dX7_giveName_57 rfl rfl h
  · replace h := h.2 c
    refine st_aload_n (pc' := 27) dX7_giveName_26 rfl rfl (j := 0) rfl ?_
    refine G_X7_15_5 dX7_giveName_27 (pc' := 30) rfl rfl ?_
    refine st_iload_n (pc' := 31) dX7_giveName_30 rfl rfl (j := 3) rfl ?_
    refine st_iload (pc' := 33) dX7_giveName_31 rfl (j := 4) rfl ?_
    refine st_iadd (pc' := 34) dX7_giveName_33 rfl ?_
    refine st_aload_n (pc' := 35) dX7_giveName_34 rfl rfl (j := 2) rfl ?_
    refine st_iload (pc' := 37) dX7_giveName_35 rfl (j := 4) rfl ?_
    refine st_callS (pc' := 40) (kc := k - 1) (E' := LAY) (cal := m_X7_letterAt) (n := 2) (as := [vR (some 1), vI x4]) (S := [vI (x3 + x4), vR (some 7)]) dX7_giveName_37 rfl l_X7_73 k_X7_letterAt rfl rfl (Nat.le_of_ble_eq_true rfl) (by omega) ⟨Nat.le_refl _, Nat.le_refl _, Nat.le_refl _, Nat.le_refl _⟩ (Q1 := fun r M' => WP k LAY m_X7_giveName 40 [(0, vR (some 5)), (1, vI x1), (2, vR (some 1)), (3, vI x3), (4, vI x4)] (r.toList ++ [vI (x3 + x4), vR (some 7)]) M' Q) (WPm.of k_X7_letterAt.1 (Nat.le_of_ble_eq_true rfl) (B_X7_letterAt_0 (by omega) ?_)) (fun r M' q => q)
    obtain ⟨e3, h⟩ := h
    refine ⟨e3, ?_⟩
    refine ⟨fun c => ?_, fun c => ?_⟩
    · replace h := h.1 c
      change WP _ LAY m_X7_giveName 40 [(0, vR (some 5)), (1, vI x1), (2, vR (some 1)), (3, vI x3), (4, vI x4)] [vI 0, vI (x3 + x4), vR (some 7)] (mem (P, some 5, some 22) I J) Q
      obtain ⟨e4, h⟩ := h
      refine st_iastore (pc' := 41) (M' := (mem (P, some 5, some 22) (si I 7 (x3 + x4).toNat 0) J)) dX7_giveName_40 rfl L_7 (by decide) e4 rfl ?_
      refine st_iinc (pc' := 44) (L' := [(4, vI (x4 + 1)), (0, vR (some 5)), (1, vI x1), (2, vR (some 1)), (3, vI x3)]) (j := 4) dX7_giveName_41 rfl (by decide) rfl rfl ?_
      refine st_goto (pc' := 19) dX7_giveName_44 (by decide) ?_
      refine WP_sub (L' := [(0, vR (some 5)), (1, vI x1), (2, vR (some 1)), (3, vI x3), (4, vI (x4 + 1))]) [1, 2, 3, 4, 0] rfl ?_
      exact h
    · replace h := h.2 c
      obtain ⟨e5, h⟩ := h
      refine ⟨e5, ?_⟩
      change WP _ LAY m_X7_giveName 40 [(0, vR (some 5)), (1, vI x1), (2, vR (some 1)), (3, vI x3), (4, vI x4)] [vI (((byt I ((gi I 1 3) + x4)) - 97) + 1), vI (x3 + x4), vR (some 7)] (mem (P, some 5, some 22) I J) Q
      obtain ⟨e6, h⟩ := h
      refine st_iastore (pc' := 41) (M' := (mem (P, some 5, some 22) (si I 7 (x3 + x4).toNat (((byt I ((gi I 1 3) + x4)) - 97) + 1)) J)) dX7_giveName_40 rfl L_7 (by decide) e6 rfl ?_
      refine st_iinc (pc' := 44) (L' := [(4, vI (x4 + 1)), (0, vR (some 5)), (1, vI x1), (2, vR (some 1)), (3, vI x3)]) (j := 4) dX7_giveName_41 rfl (by decide) rfl rfl ?_
      refine st_goto (pc' := 19) dX7_giveName_44 (by decide) ?_
      refine WP_sub (L' := [(0, vR (some 5)), (1, vI x1), (2, vR (some 1)), (3, vI x3), (4, vI (x4 + 1))]) [1, 2, 3, 4, 0] rfl ?_
      exact h
set_option maxRecDepth 20000 in
set_option maxHeartbeats 4000000 in
theorem B_X7_giveName_22_0 {k : Nat} {P : Option Nat} {I : Nat → Nat → Int32} {J : Nat → Nat → Int64} {x1 : Int} {Q : Option AV → Mem → Prop} (hk : 0 ≤ k) (h : (0 ≤ x1 ∧ x1 < 4) ∧ (WP k LAY m_X7_giveName 19 [(0, vR (some 22)), (1, vI x1), (2, vR (some 1)), (3, vI (((firstN.getD (x1).toNat 0) + (gi I 23 (x1).toNat)) * 6)), (4, vI 0)] [] (mem (P, some 5, some 22) I J) Q)) : WP k LAY m_X7_giveName 0 [(0, vR (some 22)), (1, vI x1), (2, vR (some 1))] [] (mem (P, some 5, some 22) I J) Q := by
  refine st_getsFN (pc' := 3) dX7_giveName_0 rfl rfl ?_
  refine st_iload_n (pc' := 4) dX7_giveName_3 rfl rfl (j := 1) rfl ?_
  obtain ⟨e1, h⟩ := h
  refine st_fnld (pc' := 5) (v := (firstN.getD (x1).toNat 0)) dX7_giveName_4 rfl e1 rfl ?_
  refine st_aload_n (pc' := 6) dX7_giveName_5 rfl rfl (j := 0) rfl ?_
  refine G_X7_9_22 dX7_giveName_6 (pc' := 9) rfl rfl ?_
  refine st_iload_n (pc' := 10) dX7_giveName_9 rfl rfl (j := 1) rfl ?_
  refine st_iaload (pc' := 11) (v := (gi I 23 (x1).toNat)) dX7_giveName_10 rfl L_23 (by decide) e1 (show gi I 23 (x1).toNat = (gi I 23 (x1).toNat) from rfl) ?_
  refine st_iadd (pc' := 12) dX7_giveName_11 rfl ?_
  refine st_bipush (pc' := 14) dX7_giveName_12 rfl (by decide) ?_
  refine st_imul (pc' := 15) dX7_giveName_14 rfl ?_
  refine st_istore_n (pc' := 16) (L' := [(3, vI (((firstN.getD (x1).toNat 0) + (gi I 23 (x1).toNat)) * 6)), (0, vR (some 22)), (1, vI x1), (2, vR (some 1))]) dX7_giveName_15 rfl rfl (by decide) rfl ?_
  refine st_iconst (pc' := 17) dX7_giveName_16 rfl ?_
  refine st_istore (pc' := 19) (L' := [(4, vI 0), (3, vI (((firstN.getD (x1).toNat 0) + (gi I 23 (x1).toNat)) * 6)), (0, vR (some 22)), (1, vI x1), (2, vR (some 1))]) dX7_giveName_17 rfl (by decide) rfl ?_
  refine WP_sub (L' := [(0, vR (some 22)), (1, vI x1), (2, vR (some 1)), (3, vI (((firstN.getD (x1).toNat 0) + (gi I 23 (x1).toNat)) * 6)), (4, vI 0)]) [2, 3, 4, 1, 0] rfl ?_
  exact h
set_option maxRecDepth 20000 in
set_option maxHeartbeats 4000000 in
theorem B_X7_giveName_22_19 {k : Nat} {P : Option Nat} {I : Nat → Nat → Int32} {J : Nat → Nat → Int64} {x1 : Int} {x3 : Int} {x4 : Int} {Q : Option AV → Mem → Prop} (hk : 2 ≤ k) (h : inR x4 ∧ ((6 ≤ x4 → ((0 ≤ x1 ∧ x1 < 4) ∧ (Q none (mem (P, some 5, some 22) (si I 23 (x1).toNat ((gi I 23 (x1).toNat) + 1)) J)))) ∧ (¬ 6 ≤ x4 → (inR ((gi I 1 3) + x4) ∧ (((gi I 1 4) ≤ ((gi I 1 3) + x4) → ((0 ≤ (x3 + x4) ∧ (x3 + x4) < 180) ∧ (WP k LAY m_X7_giveName 19 [(0, vR (some 22)), (1, vI x1), (2, vR (some 1)), (3, vI x3), (4, vI (x4 + 1))] [] (mem (P, some 5, some 22) (si I 24 (x3 + x4).toNat 0) J) Q))) ∧ (¬ (gi I 1 4) ≤ ((gi I 1 3) + x4) → (gi I 1 1 ≤ 1600 ∧ ((0 ≤ (x3 + x4) ∧ (x3 + x4) < 180) ∧ (WP k LAY m_X7_giveName 19 [(0, vR (some 22)), (1, vI x1), (2, vR (some 1)), (3, vI x3), (4, vI (x4 + 1))] [] (mem (P, some 5, some 22) (si I 24 (x3 + x4).toNat (((byt I ((gi I 1 3) + x4)) - 97) + 1)) J) Q))))))))) : WP k LAY m_X7_giveName 19 [(0, vR (some 22)), (1, vI x1), (2, vR (some 1)), (3, vI x3), (4, vI x4)] [] (mem (P, some 5, some 22) I J) Q := by
  refine st_iload (pc' := 21) dX7_giveName_19 rfl (j := 4) rfl ?_
  refine st_bipush (pc' := 23) dX7_giveName_21 rfl (by decide) ?_
  obtain ⟨e1, h⟩ := h
  refine st_icmp_ge (tg := 47) (pc' := 26) dX7_giveName_23 (by decide) rfl e1 (by decide) (fun c => ?_) (fun c => ?_)
  · replace h := h.1 c
    refine st_aload_n (pc' := 48) dX7_giveName_47 rfl rfl (j := 0) rfl ?_
    refine G_X7_9_22 dX7_giveName_48 (pc' := 51) rfl rfl ?_
    refine st_iload_n (pc' := 52) dX7_giveName_51 rfl rfl (j := 1) rfl ?_
    refine st_dup2 (pc' := 53) dX7_giveName_52 rfl rfl rfl ?_
    obtain ⟨e2, h⟩ := h
    refine st_iaload (pc' := 54) (v := (gi I 23 (x1).toNat)) dX7_giveName_53 rfl L_23 (by decide) e2 (show gi I 23 (x1).toNat = (gi I 23 (x1).toNat) from rfl) ?_
    refine st_iconst (pc' := 55) dX7_giveName_54 rfl ?_
    refine st_iadd (pc' := 56) dX7_giveName_55 rfl ?_
    refine st_iastore (pc' := 57) (M' := (mem (P, some 5, some 22) (si I 23 (x1).toNat ((gi I 23 (x1).toNat) + 1)) J)) dX7_giveName_56 rfl L_23 (by decide) e2 rfl ?_
    exact st_vret dX7_giveName_57 rfl rfl h
  · replace h := h.2 c
    refine st_aload_n (pc' := 27) dX7_giveName_26 rfl rfl (j := 0) rfl ?_
    refine G_X7_15_22 dX7_giveName_27 (pc' := 30) rfl rfl ?_
    refine st_iload_n (pc' := 31) dX7_giveName_30 rfl rfl (j := 3) rfl ?_
    refine st_iload (pc' := 33) dX7_giveName_31 rfl (j := 4) rfl ?_
    refine st_iadd (pc' := 34) dX7_giveName_33 rfl ?_
    refine st_aload_n (pc' := 35) dX7_giveName_34 rfl rfl (j := 2) rfl ?_
    refine st_iload (pc' := 37) dX7_giveName_35 rfl (j := 4) rfl ?_
    refine st_callS (pc' := 40) (kc := k - 1) (E' := LAY) (cal := m_X7_letterAt) (n := 2) (as := [vR (some 1), vI x4]) (S := [vI (x3 + x4), vR (some 24)]) dX7_giveName_37 rfl l_X7_73 k_X7_letterAt rfl rfl (Nat.le_of_ble_eq_true rfl) (by omega) ⟨Nat.le_refl _, Nat.le_refl _, Nat.le_refl _, Nat.le_refl _⟩ (Q1 := fun r M' => WP k LAY m_X7_giveName 40 [(0, vR (some 22)), (1, vI x1), (2, vR (some 1)), (3, vI x3), (4, vI x4)] (r.toList ++ [vI (x3 + x4), vR (some 24)]) M' Q) (WPm.of k_X7_letterAt.1 (Nat.le_of_ble_eq_true rfl) (B_X7_letterAt_0 (by omega) ?_)) (fun r M' q => q)
    obtain ⟨e3, h⟩ := h
    refine ⟨e3, ?_⟩
    refine ⟨fun c => ?_, fun c => ?_⟩
    · replace h := h.1 c
      change WP _ LAY m_X7_giveName 40 [(0, vR (some 22)), (1, vI x1), (2, vR (some 1)), (3, vI x3), (4, vI x4)] [vI 0, vI (x3 + x4), vR (some 24)] (mem (P, some 5, some 22) I J) Q
      obtain ⟨e4, h⟩ := h
      refine st_iastore (pc' := 41) (M' := (mem (P, some 5, some 22) (si I 24 (x3 + x4).toNat 0) J)) dX7_giveName_40 rfl L_24 (by decide) e4 rfl ?_
      refine st_iinc (pc' := 44) (L' := [(4, vI (x4 + 1)), (0, vR (some 22)), (1, vI x1), (2, vR (some 1)), (3, vI x3)]) (j := 4) dX7_giveName_41 rfl (by decide) rfl rfl ?_
      refine st_goto (pc' := 19) dX7_giveName_44 (by decide) ?_
      refine WP_sub (L' := [(0, vR (some 22)), (1, vI x1), (2, vR (some 1)), (3, vI x3), (4, vI (x4 + 1))]) [1, 2, 3, 4, 0] rfl ?_
      exact h
    · replace h := h.2 c
      obtain ⟨e5, h⟩ := h
      refine ⟨e5, ?_⟩
      change WP _ LAY m_X7_giveName 40 [(0, vR (some 22)), (1, vI x1), (2, vR (some 1)), (3, vI x3), (4, vI x4)] [vI (((byt I ((gi I 1 3) + x4)) - 97) + 1), vI (x3 + x4), vR (some 24)] (mem (P, some 5, some 22) I J) Q
      obtain ⟨e6, h⟩ := h
      refine st_iastore (pc' := 41) (M' := (mem (P, some 5, some 22) (si I 24 (x3 + x4).toNat (((byt I ((gi I 1 3) + x4)) - 97) + 1)) J)) dX7_giveName_40 rfl L_24 (by decide) e6 rfl ?_
      refine st_iinc (pc' := 44) (L' := [(4, vI (x4 + 1)), (0, vR (some 22)), (1, vI x1), (2, vR (some 1)), (3, vI x3)]) (j := 4) dX7_giveName_41 rfl (by decide) rfl rfl ?_
      refine st_goto (pc' := 19) dX7_giveName_44 (by decide) ?_
      refine WP_sub (L' := [(0, vR (some 22)), (1, vI x1), (2, vR (some 1)), (3, vI x3), (4, vI (x4 + 1))]) [1, 2, 3, 4, 0] rfl ?_
      exact h
set_option maxRecDepth 20000 in
set_option maxHeartbeats 4000000 in
theorem B_X7_emit_5_0 {k : Nat} {P : Option Nat} {I : Nat → Nat → Int32} {J : Nat → Nat → Int64} {x1 : Int} {Q : Option AV → Mem → Prop} (hk : 0 ≤ k) (h : (1600 ≤ (gi I 5 13) → (Q none (mem (P, some 5, some 22) I J))) ∧ (¬ 1600 ≤ (gi I 5 13) → ((0 ≤ (gi I 5 13) ∧ (gi I 5 13) < 1600) ∧ (Q none (mem (P, some 5, some 22) (si (si I 16 (gi I 5 13).toNat x1) 5 13 ((gi I 5 13) + 1)) J))))) : WP k LAY m_X7_emit 0 [(0, vR (some 5)), (1, vI x1)] [] (mem (P, some 5, some 22) I J) Q := by
  refine st_aload_n (pc' := 1) dX7_emit_0 rfl rfl (j := 0) rfl ?_
  refine G_X7_60_5 dX7_emit_1 (pc' := 4) rfl rfl ?_
  refine st_sipush (pc' := 7) dX7_emit_4 rfl (by decide) ?_
  refine st_icmp_ge (tg := 30) (pc' := 10) dX7_emit_7 (by decide) rfl (gi_in _ _ _) (by decide) (fun c => ?_) (fun c => ?_)
  · replace h := h.1 c
    exact st_vret dX7_emit_30 rfl rfl h
  · replace h := h.2 c
    refine st_aload_n (pc' := 11) dX7_emit_10 rfl rfl (j := 0) rfl ?_
    refine G_X7_42_5 dX7_emit_11 (pc' := 14) rfl rfl ?_
    refine st_aload_n (pc' := 15) dX7_emit_14 rfl rfl (j := 0) rfl ?_
    refine G_X7_60_5 dX7_emit_15 (pc' := 18) rfl rfl ?_
    refine st_iload_n (pc' := 19) dX7_emit_18 rfl rfl (j := 1) rfl ?_
    obtain ⟨e1, h⟩ := h
    refine st_iastore (pc' := 20) (M' := (mem (P, some 5, some 22) (si I 16 (gi I 5 13).toNat x1) J)) dX7_emit_19 rfl L_16 (by decide) e1 rfl ?_
    refine st_aload_n (pc' := 21) dX7_emit_20 rfl rfl (j := 0) rfl ?_
    refine st_dup (pc' := 22) dX7_emit_21 rfl rfl ?_
    refine G_X7_60_5 dX7_emit_22 (pc' := 25) rfl rfl ?_
    rw [show gi (si I 16 (gi I 5 13).toNat x1) 5 13 = (gi I 5 13) from (gi_cell _ _ _ _ (by decide))]
    refine st_iconst (pc' := 26) dX7_emit_25 rfl ?_
    refine st_iadd (pc' := 27) dX7_emit_26 rfl ?_
    refine P_X7_60_5 dX7_emit_27 (pc' := 30) rfl rfl ?_
    exact st_vret dX7_emit_30 rfl rfl h
set_option maxRecDepth 20000 in
set_option maxHeartbeats 4000000 in
theorem B_X7_emit_22_0 {k : Nat} {P : Option Nat} {I : Nat → Nat → Int32} {J : Nat → Nat → Int64} {x1 : Int} {Q : Option AV → Mem → Prop} (hk : 0 ≤ k) (h : (1600 ≤ (gi I 22 13) → (Q none (mem (P, some 5, some 22) I J))) ∧ (¬ 1600 ≤ (gi I 22 13) → ((0 ≤ (gi I 22 13) ∧ (gi I 22 13) < 1600) ∧ (Q none (mem (P, some 5, some 22) (si (si I 33 (gi I 22 13).toNat x1) 22 13 ((gi I 22 13) + 1)) J))))) : WP k LAY m_X7_emit 0 [(0, vR (some 22)), (1, vI x1)] [] (mem (P, some 5, some 22) I J) Q := by
  refine st_aload_n (pc' := 1) dX7_emit_0 rfl rfl (j := 0) rfl ?_
  refine G_X7_60_22 dX7_emit_1 (pc' := 4) rfl rfl ?_
  refine st_sipush (pc' := 7) dX7_emit_4 rfl (by decide) ?_
  refine st_icmp_ge (tg := 30) (pc' := 10) dX7_emit_7 (by decide) rfl (gi_in _ _ _) (by decide) (fun c => ?_) (fun c => ?_)
  · replace h := h.1 c
    exact st_vret dX7_emit_30 rfl rfl h
  · replace h := h.2 c
    refine st_aload_n (pc' := 11) dX7_emit_10 rfl rfl (j := 0) rfl ?_
    refine G_X7_42_22 dX7_emit_11 (pc' := 14) rfl rfl ?_
    refine st_aload_n (pc' := 15) dX7_emit_14 rfl rfl (j := 0) rfl ?_
    refine G_X7_60_22 dX7_emit_15 (pc' := 18) rfl rfl ?_
    refine st_iload_n (pc' := 19) dX7_emit_18 rfl rfl (j := 1) rfl ?_
    obtain ⟨e1, h⟩ := h
    refine st_iastore (pc' := 20) (M' := (mem (P, some 5, some 22) (si I 33 (gi I 22 13).toNat x1) J)) dX7_emit_19 rfl L_33 (by decide) e1 rfl ?_
    refine st_aload_n (pc' := 21) dX7_emit_20 rfl rfl (j := 0) rfl ?_
    refine st_dup (pc' := 22) dX7_emit_21 rfl rfl ?_
    refine G_X7_60_22 dX7_emit_22 (pc' := 25) rfl rfl ?_
    rw [show gi (si I 33 (gi I 22 13).toNat x1) 22 13 = (gi I 22 13) from (gi_cell _ _ _ _ (by decide))]
    refine st_iconst (pc' := 26) dX7_emit_25 rfl ?_
    refine st_iadd (pc' := 27) dX7_emit_26 rfl ?_
    refine P_X7_60_22 dX7_emit_27 (pc' := 30) rfl rfl ?_
    exact st_vret dX7_emit_30 rfl rfl h
set_option maxRecDepth 20000 in
set_option maxHeartbeats 4000000 in
theorem B_X7_gatherNeeds_5_0 {k : Nat} {P : Option Nat} {I : Nat → Nat → Int32} {J : Nat → Nat → Int64}  {Q : Option AV → Mem → Prop} (hk : 0 ≤ k) (h : WP k LAY m_X7_gatherNeeds 2 [(0, vR (some 5)), (1, vI 0)] [] (mem (P, some 5, some 22) I J) Q) : WP k LAY m_X7_gatherNeeds 0 [(0, vR (some 5))] [] (mem (P, some 5, some 22) I J) Q := by
  refine st_iconst (pc' := 1) dX7_gatherNeeds_0 rfl ?_
  refine st_istore_n (pc' := 2) (L' := [(1, vI 0), (0, vR (some 5))]) dX7_gatherNeeds_1 rfl rfl (by decide) rfl ?_
  refine WP_sub (L' := [(0, vR (some 5)), (1, vI 0)]) [1, 0] rfl ?_
  exact h
set_option maxRecDepth 20000 in
set_option maxHeartbeats 4000000 in
theorem B_X7_gatherNeeds_5_2 {k : Nat} {P : Option Nat} {I : Nat → Nat → Int32} {J : Nat → Nat → Int64} {x1 : Int} {Q : Option AV → Mem → Prop} (hk : 0 ≤ k) (h : inR x1 ∧ (((gi I 6 1) ≤ x1 → (Q none (mem (P, some 5, some 22) I J))) ∧ (¬ (gi I 6 1) ≤ x1 → ((0 ≤ x1 ∧ x1 < 14) ∧ (WP k LAY m_X7_gatherNeeds 21 [(0, vR (some 5)), (1, vI x1), (2, vI (gi I 11 (x1).toNat)), (3, vI 0)] [] (mem (P, some 5, some 22) I J) Q))))) : WP k LAY m_X7_gatherNeeds 2 [(0, vR (some 5)), (1, vI x1)] [] (mem (P, some 5, some 22) I J) Q := by
  refine st_iload_n (pc' := 3) dX7_gatherNeeds_2 rfl rfl (j := 1) rfl ?_
  refine st_aload_n (pc' := 4) dX7_gatherNeeds_3 rfl rfl (j := 0) rfl ?_
  refine G_X7_9_5 dX7_gatherNeeds_4 (pc' := 7) rfl rfl ?_
  refine st_iconst (pc' := 8) dX7_gatherNeeds_7 rfl ?_
  refine st_iaload (pc' := 9) (v := (gi I 6 1)) dX7_gatherNeeds_8 rfl L_6 (by decide) (by decide) (show gi I 6 1 = (gi I 6 1) from rfl) ?_
  obtain ⟨e1, h⟩ := h
  refine st_icmp_ge (tg := 67) (pc' := 12) dX7_gatherNeeds_9 (by decide) rfl e1 (gi_in _ _ _) (fun c => ?_) (fun c => ?_)
  · replace h := h.1 c
    exact st_vret dX7_gatherNeeds_67 rfl rfl h
  · replace h := h.2 c
    refine st_aload_n (pc' := 13) dX7_gatherNeeds_12 rfl rfl (j := 0) rfl ?_
    refine G_X7_27_5 dX7_gatherNeeds_13 (pc' := 16) rfl rfl ?_
    refine st_iload_n (pc' := 17) dX7_gatherNeeds_16 rfl rfl (j := 1) rfl ?_
    obtain ⟨e2, h⟩ := h
    refine st_iaload (pc' := 18) (v := (gi I 11 (x1).toNat)) dX7_gatherNeeds_17 rfl L_11 (by decide) e2 (show gi I 11 (x1).toNat = (gi I 11 (x1).toNat) from rfl) ?_
    refine st_istore_n (pc' := 19) (L' := [(2, vI (gi I 11 (x1).toNat)), (0, vR (some 5)), (1, vI x1)]) dX7_gatherNeeds_18 rfl rfl (by decide) rfl ?_
    refine st_iconst (pc' := 20) dX7_gatherNeeds_19 rfl ?_
    refine st_istore_n (pc' := 21) (L' := [(3, vI 0), (2, vI (gi I 11 (x1).toNat)), (0, vR (some 5)), (1, vI x1)]) dX7_gatherNeeds_20 rfl rfl (by decide) rfl ?_
    refine WP_sub (L' := [(0, vR (some 5)), (1, vI x1), (2, vI (gi I 11 (x1).toNat)), (3, vI 0)]) [2, 3, 1, 0] rfl ?_
    exact h
set_option maxRecDepth 20000 in
set_option maxHeartbeats 4000000 in
theorem B_X7_gatherNeeds_5_21 {k : Nat} {P : Option Nat} {I : Nat → Nat → Int32} {J : Nat → Nat → Int64} {x1 : Int} {x2 : Int} {x3 : Int} {Q : Option AV → Mem → Prop} (hk : 0 ≤ k) (h : inR x3 ∧ (inR x1 ∧ ((x1 ≤ x3 → ((0 ≤ x1 ∧ x1 < 14) ∧ (WP k LAY m_X7_gatherNeeds 2 [(0, vR (some 5)), (1, vI (x1 + 1))] [] (mem (P, some 5, some 22) (si I 12 (x1).toNat x2) J) Q))) ∧ (¬ x1 ≤ x3 → ((0 ≤ x1 ∧ x1 < 14) ∧ (((and32 (gi I 11 (x1).toNat) (shl32 1 x3)) = 0 → (WP k LAY m_X7_gatherNeeds 21 [(0, vR (some 5)), (1, vI x1), (2, vI x2), (3, vI (x3 + 1))] [] (mem (P, some 5, some 22) I J) Q)) ∧ (¬ (and32 (gi I 11 (x1).toNat) (shl32 1 x3)) = 0 → ((0 ≤ x3 ∧ x3 < 14) ∧ (WP k LAY m_X7_gatherNeeds 21 [(0, vR (some 5)), (1, vI x1), (2, vI (or32 x2 (gi I 12 (x3).toNat))), (3, vI (x3 + 1))] [] (mem (P, some 5, some 22) I J) Q))))))))) : WP k LAY m_X7_gatherNeeds 21 [(0, vR (some 5)), (1, vI x1), (2, vI x2), (3, vI x3)] [] (mem (P, some 5, some 22) I J) Q := by
  refine st_iload_n (pc' := 22) dX7_gatherNeeds_21 rfl rfl (j := 3) rfl ?_
  refine st_iload_n (pc' := 23) dX7_gatherNeeds_22 rfl rfl (j := 1) rfl ?_
  obtain ⟨e1, h⟩ := h
  obtain ⟨e2, h⟩ := h
  refine st_icmp_ge (tg := 54) (pc' := 26) dX7_gatherNeeds_23 (by decide) rfl e1 e2 (fun c => ?_) (fun c => ?_)
  · replace h := h.1 c
    refine st_aload_n (pc' := 55) dX7_gatherNeeds_54 rfl rfl (j := 0) rfl ?_
    refine G_X7_30_5 dX7_gatherNeeds_55 (pc' := 58) rfl rfl ?_
    refine st_iload_n (pc' := 59) dX7_gatherNeeds_58 rfl rfl (j := 1) rfl ?_
    refine st_iload_n (pc' := 60) dX7_gatherNeeds_59 rfl rfl (j := 2) rfl ?_
    obtain ⟨e3, h⟩ := h
    refine st_iastore (pc' := 61) (M' := (mem (P, some 5, some 22) (si I 12 (x1).toNat x2) J)) dX7_gatherNeeds_60 rfl L_12 (by decide) e3 rfl ?_
    refine st_iinc (pc' := 64) (L' := [(1, vI (x1 + 1)), (0, vR (some 5)), (2, vI x2), (3, vI x3)]) (j := 1) dX7_gatherNeeds_61 rfl (by decide) rfl rfl ?_
    refine st_goto (pc' := 2) dX7_gatherNeeds_64 (by decide) ?_
    refine WP_sub (L' := [(0, vR (some 5)), (1, vI (x1 + 1))]) [1, 0] rfl ?_
    exact h
  · replace h := h.2 c
    refine st_aload_n (pc' := 27) dX7_gatherNeeds_26 rfl rfl (j := 0) rfl ?_
    refine G_X7_27_5 dX7_gatherNeeds_27 (pc' := 30) rfl rfl ?_
    refine st_iload_n (pc' := 31) dX7_gatherNeeds_30 rfl rfl (j := 1) rfl ?_
    obtain ⟨e4, h⟩ := h
    refine st_iaload (pc' := 32) (v := (gi I 11 (x1).toNat)) dX7_gatherNeeds_31 rfl L_11 (by decide) e4 (show gi I 11 (x1).toNat = (gi I 11 (x1).toNat) from rfl) ?_
    refine st_iconst (pc' := 33) dX7_gatherNeeds_32 rfl ?_
    refine st_iload_n (pc' := 34) dX7_gatherNeeds_33 rfl rfl (j := 3) rfl ?_
    refine st_ishl (pc' := 35) (z := (shl32 1 x3)) dX7_gatherNeeds_34 rfl rfl ?_
    refine st_iand (pc' := 36) (z := (and32 (gi I 11 (x1).toNat) (shl32 1 x3))) dX7_gatherNeeds_35 rfl rfl ?_
    refine st_if_eq (tg := 48) (pc' := 39) dX7_gatherNeeds_36 (by decide) rfl (and32_in _ _) (fun c => ?_) (fun c => ?_)
    · replace h := h.1 c
      refine st_iinc (pc' := 51) (L' := [(3, vI (x3 + 1)), (0, vR (some 5)), (1, vI x1), (2, vI x2)]) (j := 3) dX7_gatherNeeds_48 rfl (by decide) rfl rfl ?_
      refine st_goto (pc' := 21) dX7_gatherNeeds_51 (by decide) ?_
      refine WP_sub (L' := [(0, vR (some 5)), (1, vI x1), (2, vI x2), (3, vI (x3 + 1))]) [1, 2, 3, 0] rfl ?_
      exact h
    · replace h := h.2 c
      refine st_iload_n (pc' := 40) dX7_gatherNeeds_39 rfl rfl (j := 2) rfl ?_
      refine st_aload_n (pc' := 41) dX7_gatherNeeds_40 rfl rfl (j := 0) rfl ?_
      refine G_X7_30_5 dX7_gatherNeeds_41 (pc' := 44) rfl rfl ?_
      refine st_iload_n (pc' := 45) dX7_gatherNeeds_44 rfl rfl (j := 3) rfl ?_
      obtain ⟨e5, h⟩ := h
      refine st_iaload (pc' := 46) (v := (gi I 12 (x3).toNat)) dX7_gatherNeeds_45 rfl L_12 (by decide) e5 (show gi I 12 (x3).toNat = (gi I 12 (x3).toNat) from rfl) ?_
      refine st_ior (pc' := 47) (z := (or32 x2 (gi I 12 (x3).toNat))) dX7_gatherNeeds_46 rfl rfl ?_
      refine st_istore_n (pc' := 48) (L' := [(2, vI (or32 x2 (gi I 12 (x3).toNat))), (0, vR (some 5)), (1, vI x1), (3, vI x3)]) dX7_gatherNeeds_47 rfl rfl (by decide) rfl ?_
      refine st_iinc (pc' := 51) (L' := [(3, vI (x3 + 1)), (2, vI (or32 x2 (gi I 12 (x3).toNat))), (0, vR (some 5)), (1, vI x1)]) (j := 3) dX7_gatherNeeds_48 rfl (by decide) rfl rfl ?_
      refine st_goto (pc' := 21) dX7_gatherNeeds_51 (by decide) ?_
      refine WP_sub (L' := [(0, vR (some 5)), (1, vI x1), (2, vI (or32 x2 (gi I 12 (x3).toNat))), (3, vI (x3 + 1))]) [2, 3, 1, 0] rfl ?_
      exact h
set_option maxRecDepth 20000 in
set_option maxHeartbeats 4000000 in
theorem B_X7_gatherNeeds_22_0 {k : Nat} {P : Option Nat} {I : Nat → Nat → Int32} {J : Nat → Nat → Int64}  {Q : Option AV → Mem → Prop} (hk : 0 ≤ k) (h : WP k LAY m_X7_gatherNeeds 2 [(0, vR (some 22)), (1, vI 0)] [] (mem (P, some 5, some 22) I J) Q) : WP k LAY m_X7_gatherNeeds 0 [(0, vR (some 22))] [] (mem (P, some 5, some 22) I J) Q := by
  refine st_iconst (pc' := 1) dX7_gatherNeeds_0 rfl ?_
  refine st_istore_n (pc' := 2) (L' := [(1, vI 0), (0, vR (some 22))]) dX7_gatherNeeds_1 rfl rfl (by decide) rfl ?_
  refine WP_sub (L' := [(0, vR (some 22)), (1, vI 0)]) [1, 0] rfl ?_
  exact h
set_option maxRecDepth 20000 in
set_option maxHeartbeats 4000000 in
theorem B_X7_gatherNeeds_22_2 {k : Nat} {P : Option Nat} {I : Nat → Nat → Int32} {J : Nat → Nat → Int64} {x1 : Int} {Q : Option AV → Mem → Prop} (hk : 0 ≤ k) (h : inR x1 ∧ (((gi I 23 1) ≤ x1 → (Q none (mem (P, some 5, some 22) I J))) ∧ (¬ (gi I 23 1) ≤ x1 → ((0 ≤ x1 ∧ x1 < 14) ∧ (WP k LAY m_X7_gatherNeeds 21 [(0, vR (some 22)), (1, vI x1), (2, vI (gi I 28 (x1).toNat)), (3, vI 0)] [] (mem (P, some 5, some 22) I J) Q))))) : WP k LAY m_X7_gatherNeeds 2 [(0, vR (some 22)), (1, vI x1)] [] (mem (P, some 5, some 22) I J) Q := by
  refine st_iload_n (pc' := 3) dX7_gatherNeeds_2 rfl rfl (j := 1) rfl ?_
  refine st_aload_n (pc' := 4) dX7_gatherNeeds_3 rfl rfl (j := 0) rfl ?_
  refine G_X7_9_22 dX7_gatherNeeds_4 (pc' := 7) rfl rfl ?_
  refine st_iconst (pc' := 8) dX7_gatherNeeds_7 rfl ?_
  refine st_iaload (pc' := 9) (v := (gi I 23 1)) dX7_gatherNeeds_8 rfl L_23 (by decide) (by decide) (show gi I 23 1 = (gi I 23 1) from rfl) ?_
  obtain ⟨e1, h⟩ := h
  refine st_icmp_ge (tg := 67) (pc' := 12) dX7_gatherNeeds_9 (by decide) rfl e1 (gi_in _ _ _) (fun c => ?_) (fun c => ?_)
  · replace h := h.1 c
    exact st_vret dX7_gatherNeeds_67 rfl rfl h
  · replace h := h.2 c
    refine st_aload_n (pc' := 13) dX7_gatherNeeds_12 rfl rfl (j := 0) rfl ?_
    refine G_X7_27_22 dX7_gatherNeeds_13 (pc' := 16) rfl rfl ?_
    refine st_iload_n (pc' := 17) dX7_gatherNeeds_16 rfl rfl (j := 1) rfl ?_
    obtain ⟨e2, h⟩ := h
    refine st_iaload (pc' := 18) (v := (gi I 28 (x1).toNat)) dX7_gatherNeeds_17 rfl L_28 (by decide) e2 (show gi I 28 (x1).toNat = (gi I 28 (x1).toNat) from rfl) ?_
    refine st_istore_n (pc' := 19) (L' := [(2, vI (gi I 28 (x1).toNat)), (0, vR (some 22)), (1, vI x1)]) dX7_gatherNeeds_18 rfl rfl (by decide) rfl ?_
    refine st_iconst (pc' := 20) dX7_gatherNeeds_19 rfl ?_
    refine st_istore_n (pc' := 21) (L' := [(3, vI 0), (2, vI (gi I 28 (x1).toNat)), (0, vR (some 22)), (1, vI x1)]) dX7_gatherNeeds_20 rfl rfl (by decide) rfl ?_
    refine WP_sub (L' := [(0, vR (some 22)), (1, vI x1), (2, vI (gi I 28 (x1).toNat)), (3, vI 0)]) [2, 3, 1, 0] rfl ?_
    exact h
set_option maxRecDepth 20000 in
set_option maxHeartbeats 4000000 in
theorem B_X7_gatherNeeds_22_21 {k : Nat} {P : Option Nat} {I : Nat → Nat → Int32} {J : Nat → Nat → Int64} {x1 : Int} {x2 : Int} {x3 : Int} {Q : Option AV → Mem → Prop} (hk : 0 ≤ k) (h : inR x3 ∧ (inR x1 ∧ ((x1 ≤ x3 → ((0 ≤ x1 ∧ x1 < 14) ∧ (WP k LAY m_X7_gatherNeeds 2 [(0, vR (some 22)), (1, vI (x1 + 1))] [] (mem (P, some 5, some 22) (si I 29 (x1).toNat x2) J) Q))) ∧ (¬ x1 ≤ x3 → ((0 ≤ x1 ∧ x1 < 14) ∧ (((and32 (gi I 28 (x1).toNat) (shl32 1 x3)) = 0 → (WP k LAY m_X7_gatherNeeds 21 [(0, vR (some 22)), (1, vI x1), (2, vI x2), (3, vI (x3 + 1))] [] (mem (P, some 5, some 22) I J) Q)) ∧ (¬ (and32 (gi I 28 (x1).toNat) (shl32 1 x3)) = 0 → ((0 ≤ x3 ∧ x3 < 14) ∧ (WP k LAY m_X7_gatherNeeds 21 [(0, vR (some 22)), (1, vI x1), (2, vI (or32 x2 (gi I 29 (x3).toNat))), (3, vI (x3 + 1))] [] (mem (P, some 5, some 22) I J) Q))))))))) : WP k LAY m_X7_gatherNeeds 21 [(0, vR (some 22)), (1, vI x1), (2, vI x2), (3, vI x3)] [] (mem (P, some 5, some 22) I J) Q := by
  refine st_iload_n (pc' := 22) dX7_gatherNeeds_21 rfl rfl (j := 3) rfl ?_
  refine st_iload_n (pc' := 23) dX7_gatherNeeds_22 rfl rfl (j := 1) rfl ?_
  obtain ⟨e1, h⟩ := h
  obtain ⟨e2, h⟩ := h
  refine st_icmp_ge (tg := 54) (pc' := 26) dX7_gatherNeeds_23 (by decide) rfl e1 e2 (fun c => ?_) (fun c => ?_)
  · replace h := h.1 c
    refine st_aload_n (pc' := 55) dX7_gatherNeeds_54 rfl rfl (j := 0) rfl ?_
    refine G_X7_30_22 dX7_gatherNeeds_55 (pc' := 58) rfl rfl ?_
    refine st_iload_n (pc' := 59) dX7_gatherNeeds_58 rfl rfl (j := 1) rfl ?_
    refine st_iload_n (pc' := 60) dX7_gatherNeeds_59 rfl rfl (j := 2) rfl ?_
    obtain ⟨e3, h⟩ := h
    refine st_iastore (pc' := 61) (M' := (mem (P, some 5, some 22) (si I 29 (x1).toNat x2) J)) dX7_gatherNeeds_60 rfl L_29 (by decide) e3 rfl ?_
    refine st_iinc (pc' := 64) (L' := [(1, vI (x1 + 1)), (0, vR (some 22)), (2, vI x2), (3, vI x3)]) (j := 1) dX7_gatherNeeds_61 rfl (by decide) rfl rfl ?_
    refine st_goto (pc' := 2) dX7_gatherNeeds_64 (by decide) ?_
    refine WP_sub (L' := [(0, vR (some 22)), (1, vI (x1 + 1))]) [1, 0] rfl ?_
    exact h
  · replace h := h.2 c
    refine st_aload_n (pc' := 27) dX7_gatherNeeds_26 rfl rfl (j := 0) rfl ?_
    refine G_X7_27_22 dX7_gatherNeeds_27 (pc' := 30) rfl rfl ?_
    refine st_iload_n (pc' := 31) dX7_gatherNeeds_30 rfl rfl (j := 1) rfl ?_
    obtain ⟨e4, h⟩ := h
    refine st_iaload (pc' := 32) (v := (gi I 28 (x1).toNat)) dX7_gatherNeeds_31 rfl L_28 (by decide) e4 (show gi I 28 (x1).toNat = (gi I 28 (x1).toNat) from rfl) ?_
    refine st_iconst (pc' := 33) dX7_gatherNeeds_32 rfl ?_
    refine st_iload_n (pc' := 34) dX7_gatherNeeds_33 rfl rfl (j := 3) rfl ?_
    refine st_ishl (pc' := 35) (z := (shl32 1 x3)) dX7_gatherNeeds_34 rfl rfl ?_
    refine st_iand (pc' := 36) (z := (and32 (gi I 28 (x1).toNat) (shl32 1 x3))) dX7_gatherNeeds_35 rfl rfl ?_
    refine st_if_eq (tg := 48) (pc' := 39) dX7_gatherNeeds_36 (by decide) rfl (and32_in _ _) (fun c => ?_) (fun c => ?_)
    · replace h := h.1 c
      refine st_iinc (pc' := 51) (L' := [(3, vI (x3 + 1)), (0, vR (some 22)), (1, vI x1), (2, vI x2)]) (j := 3) dX7_gatherNeeds_48 rfl (by decide) rfl rfl ?_
      refine st_goto (pc' := 21) dX7_gatherNeeds_51 (by decide) ?_
      refine WP_sub (L' := [(0, vR (some 22)), (1, vI x1), (2, vI x2), (3, vI (x3 + 1))]) [1, 2, 3, 0] rfl ?_
      exact h
    · replace h := h.2 c
      refine st_iload_n (pc' := 40) dX7_gatherNeeds_39 rfl rfl (j := 2) rfl ?_
      refine st_aload_n (pc' := 41) dX7_gatherNeeds_40 rfl rfl (j := 0) rfl ?_
      refine G_X7_30_22 dX7_gatherNeeds_41 (pc' := 44) rfl rfl ?_
      refine st_iload_n (pc' := 45) dX7_gatherNeeds_44 rfl rfl (j := 3) rfl ?_
      obtain ⟨e5, h⟩ := h
      refine st_iaload (pc' := 46) (v := (gi I 29 (x3).toNat)) dX7_gatherNeeds_45 rfl L_29 (by decide) e5 (show gi I 29 (x3).toNat = (gi I 29 (x3).toNat) from rfl) ?_
      refine st_ior (pc' := 47) (z := (or32 x2 (gi I 29 (x3).toNat))) dX7_gatherNeeds_46 rfl rfl ?_
      refine st_istore_n (pc' := 48) (L' := [(2, vI (or32 x2 (gi I 29 (x3).toNat))), (0, vR (some 22)), (1, vI x1), (3, vI x3)]) dX7_gatherNeeds_47 rfl rfl (by decide) rfl ?_
      refine st_iinc (pc' := 51) (L' := [(3, vI (x3 + 1)), (2, vI (or32 x2 (gi I 29 (x3).toNat))), (0, vR (some 22)), (1, vI x1)]) (j := 3) dX7_gatherNeeds_48 rfl (by decide) rfl rfl ?_
      refine st_goto (pc' := 21) dX7_gatherNeeds_51 (by decide) ?_
      refine WP_sub (L' := [(0, vR (some 22)), (1, vI x1), (2, vI (or32 x2 (gi I 29 (x3).toNat))), (3, vI (x3 + 1))]) [2, 3, 1, 0] rfl ?_
      exact h
end WX7

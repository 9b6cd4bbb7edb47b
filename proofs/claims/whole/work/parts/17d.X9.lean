section WX9
set_option maxRecDepth 20000 in
set_option maxHeartbeats 4000000 in
theorem B_X9_setAt_0 {k : Nat} {P : Option Nat} {I : Nat → Nat → Int32} {J : Nat → Nat → Int64} {x1 : Int} {x2 : Int} {x3 : Int} {x4 : Int} {Q : Option AV → Mem → Prop} (hk : 0 ≤ k) (h : (0 ≤ x1 ∧ x1 < 6) ∧ (Q none (mem (P, some 5, some 22) (si (si (si (si (si (si (si I 38 7 (gi I 13 (x1).toNat)) 38 8 (gi I 14 (x1).toNat)) 38 16 x4) 38 10 x2) 38 17 x3) 38 11 (gi I 5 15)) 38 18 (gi I 19 0)) J))) : WP k LAY m_X9_setAt 0 [(0, vR (some 36)), (1, vI x1), (2, vI x2), (3, vI x3), (4, vI x4)] [] (mem (P, some 5, some 22) I J) Q := by
  refine st_aload_n (pc' := 1) dX9_setAt_0 rfl rfl (j := 0) rfl ?_
  refine G_X9_15_36 dX9_setAt_1 (pc' := 4) rfl rfl ?_
  refine st_bipush (pc' := 6) dX9_setAt_4 rfl (by decide) ?_
  refine st_aload_n (pc' := 7) dX9_setAt_6 rfl rfl (j := 0) rfl ?_
  refine G_X9_18_36 dX9_setAt_7 (pc' := 10) rfl rfl ?_
  refine G_X9_28_4 dX9_setAt_10 (pc' := 13) rfl rfl ?_
  refine G_X9_53_5 dX9_setAt_13 (pc' := 16) rfl rfl ?_
  refine st_iload_n (pc' := 17) dX9_setAt_16 rfl rfl (j := 1) rfl ?_
  obtain ⟨e1, h⟩ := h
  refine st_iaload (pc' := 18) (v := (gi I 13 (x1).toNat)) dX9_setAt_17 rfl L_13 (by decide) e1 (show gi I 13 (x1).toNat = (gi I 13 (x1).toNat) from rfl) ?_
  refine st_iastore (pc' := 19) (M' := (mem (P, some 5, some 22) (si I 38 7 (gi I 13 (x1).toNat)) J)) dX9_setAt_18 rfl L_38 (by decide) (by decide) rfl ?_
  refine st_aload_n (pc' := 20) dX9_setAt_19 rfl rfl (j := 0) rfl ?_
  refine G_X9_15_36 dX9_setAt_20 (pc' := 23) rfl rfl ?_
  refine st_bipush (pc' := 25) dX9_setAt_23 rfl (by decide) ?_
  refine st_aload_n (pc' := 26) dX9_setAt_25 rfl rfl (j := 0) rfl ?_
  refine G_X9_18_36 dX9_setAt_26 (pc' := 29) rfl rfl ?_
  refine G_X9_28_4 dX9_setAt_29 (pc' := 32) rfl rfl ?_
  refine G_X9_56_5 dX9_setAt_32 (pc' := 35) rfl rfl ?_
  refine st_iload_n (pc' := 36) dX9_setAt_35 rfl rfl (j := 1) rfl ?_
  refine st_iaload (pc' := 37) (v := (gi I 14 (x1).toNat)) dX9_setAt_36 rfl L_14 (by decide) e1 (show gi (si I 38 7 (gi I 13 (x1).toNat)) 14 (x1).toNat = (gi I 14 (x1).toNat) from (gi_cell _ _ _ _ (by decide))) ?_
  refine st_iastore (pc' := 38) (M' := (mem (P, some 5, some 22) (si (si I 38 7 (gi I 13 (x1).toNat)) 38 8 (gi I 14 (x1).toNat)) J)) dX9_setAt_37 rfl L_38 (by decide) (by decide) rfl ?_
  refine st_aload_n (pc' := 39) dX9_setAt_38 rfl rfl (j := 0) rfl ?_
  refine G_X9_15_36 dX9_setAt_39 (pc' := 42) rfl rfl ?_
  refine st_bipush (pc' := 44) dX9_setAt_42 rfl (by decide) ?_
  refine st_iload (pc' := 46) dX9_setAt_44 rfl (j := 4) rfl ?_
  refine st_iastore (pc' := 47) (M' := (mem (P, some 5, some 22) (si (si (si I 38 7 (gi I 13 (x1).toNat)) 38 8 (gi I 14 (x1).toNat)) 38 16 x4) J)) dX9_setAt_46 rfl L_38 (by decide) (by decide) rfl ?_
  refine st_aload_n (pc' := 48) dX9_setAt_47 rfl rfl (j := 0) rfl ?_
  refine G_X9_15_36 dX9_setAt_48 (pc' := 51) rfl rfl ?_
  refine st_bipush (pc' := 53) dX9_setAt_51 rfl (by decide) ?_
  refine st_iload_n (pc' := 54) dX9_setAt_53 rfl rfl (j := 2) rfl ?_
  refine st_iastore (pc' := 55) (M' := (mem (P, some 5, some 22) (si (si (si (si I 38 7 (gi I 13 (x1).toNat)) 38 8 (gi I 14 (x1).toNat)) 38 16 x4) 38 10 x2) J)) dX9_setAt_54 rfl L_38 (by decide) (by decide) rfl ?_
  refine st_aload_n (pc' := 56) dX9_setAt_55 rfl rfl (j := 0) rfl ?_
  refine G_X9_15_36 dX9_setAt_56 (pc' := 59) rfl rfl ?_
  refine st_bipush (pc' := 61) dX9_setAt_59 rfl (by decide) ?_
  refine st_iload_n (pc' := 62) dX9_setAt_61 rfl rfl (j := 3) rfl ?_
  refine st_iastore (pc' := 63) (M' := (mem (P, some 5, some 22) (si (si (si (si (si I 38 7 (gi I 13 (x1).toNat)) 38 8 (gi I 14 (x1).toNat)) 38 16 x4) 38 10 x2) 38 17 x3) J)) dX9_setAt_62 rfl L_38 (by decide) (by decide) rfl ?_
  refine st_aload_n (pc' := 64) dX9_setAt_63 rfl rfl (j := 0) rfl ?_
  refine G_X9_15_36 dX9_setAt_64 (pc' := 67) rfl rfl ?_
  refine st_bipush (pc' := 69) dX9_setAt_67 rfl (by decide) ?_
  refine st_aload_n (pc' := 70) dX9_setAt_69 rfl rfl (j := 0) rfl ?_
  refine G_X9_18_36 dX9_setAt_70 (pc' := 73) rfl rfl ?_
  refine G_X9_28_4 dX9_setAt_73 (pc' := 76) rfl rfl ?_
  refine G_X9_59_5 dX9_setAt_76 (pc' := 79) rfl rfl ?_
  rw [show gi (si (si (si (si (si I 38 7 (gi I 13 (x1).toNat)) 38 8 (gi I 14 (x1).toNat)) 38 16 x4) 38 10 x2) 38 17 x3) 5 15 = (gi I 5 15) from ((gi_cell _ _ _ _ (by decide)).trans ((gi_cell _ _ _ _ (by decide)).trans ((gi_cell _ _ _ _ (by decide)).trans ((gi_cell _ _ _ _ (by decide)).trans (gi_cell _ _ _ _ (by decide))))))]
  refine st_iastore (pc' := 80) (M' := (mem (P, some 5, some 22) (si (si (si (si (si (si I 38 7 (gi I 13 (x1).toNat)) 38 8 (gi I 14 (x1).toNat)) 38 16 x4) 38 10 x2) 38 17 x3) 38 11 (gi I 5 15)) J)) dX9_setAt_79 rfl L_38 (by decide) (by decide) rfl ?_
  refine st_aload_n (pc' := 81) dX9_setAt_80 rfl rfl (j := 0) rfl ?_
  refine G_X9_15_36 dX9_setAt_81 (pc' := 84) rfl rfl ?_
  refine st_bipush (pc' := 86) dX9_setAt_84 rfl (by decide) ?_
  refine st_aload_n (pc' := 87) dX9_setAt_86 rfl rfl (j := 0) rfl ?_
  refine G_X9_18_36 dX9_setAt_87 (pc' := 90) rfl rfl ?_
  refine G_X9_63_4 dX9_setAt_90 (pc' := 93) rfl rfl ?_
  refine st_iconst (pc' := 94) dX9_setAt_93 rfl ?_
  refine st_iaload (pc' := 95) (v := (gi I 19 0)) dX9_setAt_94 rfl L_19 (by decide) (by decide) (show gi (si (si (si (si (si (si I 38 7 (gi I 13 (x1).toNat)) 38 8 (gi I 14 (x1).toNat)) 38 16 x4) 38 10 x2) 38 17 x3) 38 11 (gi I 5 15)) 19 0 = (gi I 19 0) from ((gi_cell _ _ _ _ (by decide)).trans ((gi_cell _ _ _ _ (by decide)).trans ((gi_cell _ _ _ _ (by decide)).trans ((gi_cell _ _ _ _ (by decide)).trans ((gi_cell _ _ _ _ (by decide)).trans (gi_cell _ _ _ _ (by decide)))))))) ?_
  refine st_iastore (pc' := 96) (M' := (mem (P, some 5, some 22) (si (si (si (si (si (si (si I 38 7 (gi I 13 (x1).toNat)) 38 8 (gi I 14 (x1).toNat)) 38 16 x4) 38 10 x2) 38 17 x3) 38 11 (gi I 5 15)) 38 18 (gi I 19 0)) J)) dX9_setAt_95 rfl L_38 (by decide) (by decide) rfl ?_
  exact st_vret dX9_setAt_96 rfl rfl h
set_option maxRecDepth 20000 in
set_option maxHeartbeats 4000000 in
theorem B_X9_setPage_0 {k : Nat} {P : Option Nat} {I : Nat → Nat → Int32} {J : Nat → Nat → Int64} {x1 : Int} {Q : Option AV → Mem → Prop} (hk : 0 ≤ k) (h : (0 ≤ x1 ∧ x1 < 14) ∧ (Q none (mem (P, some 5, some 22) (si (si I 38 3 (gi I 9 (x1).toNat)) 38 15 (gi I 10 (x1).toNat)) J))) : WP k LAY m_X9_setPage 0 [(0, vR (some 36)), (1, vI x1)] [] (mem (P, some 5, some 22) I J) Q := by
  refine st_aload_n (pc' := 1) dX9_setPage_0 rfl rfl (j := 0) rfl ?_
  refine G_X9_15_36 dX9_setPage_1 (pc' := 4) rfl rfl ?_
  refine st_iconst (pc' := 5) dX9_setPage_4 rfl ?_
  refine st_aload_n (pc' := 6) dX9_setPage_5 rfl rfl (j := 0) rfl ?_
  refine G_X9_18_36 dX9_setPage_6 (pc' := 9) rfl rfl ?_
  refine G_X9_28_4 dX9_setPage_9 (pc' := 12) rfl rfl ?_
  refine G_X9_81_5 dX9_setPage_12 (pc' := 15) rfl rfl ?_
  refine st_iload_n (pc' := 16) dX9_setPage_15 rfl rfl (j := 1) rfl ?_
  obtain ⟨e1, h⟩ := h
  refine st_iaload (pc' := 17) (v := (gi I 9 (x1).toNat)) dX9_setPage_16 rfl L_9 (by decide) e1 (show gi I 9 (x1).toNat = (gi I 9 (x1).toNat) from rfl) ?_
  refine st_iastore (pc' := 18) (M' := (mem (P, some 5, some 22) (si I 38 3 (gi I 9 (x1).toNat)) J)) dX9_setPage_17 rfl L_38 (by decide) (by decide) rfl ?_
  refine st_aload_n (pc' := 19) dX9_setPage_18 rfl rfl (j := 0) rfl ?_
  refine G_X9_15_36 dX9_setPage_19 (pc' := 22) rfl rfl ?_
  refine st_bipush (pc' := 24) dX9_setPage_22 rfl (by decide) ?_
  refine st_aload_n (pc' := 25) dX9_setPage_24 rfl rfl (j := 0) rfl ?_
  refine G_X9_18_36 dX9_setPage_25 (pc' := 28) rfl rfl ?_
  refine G_X9_28_4 dX9_setPage_28 (pc' := 31) rfl rfl ?_
  refine G_X9_95_5 dX9_setPage_31 (pc' := 34) rfl rfl ?_
  refine st_iload_n (pc' := 35) dX9_setPage_34 rfl rfl (j := 1) rfl ?_
  refine st_iaload (pc' := 36) (v := (gi I 10 (x1).toNat)) dX9_setPage_35 rfl L_10 (by decide) e1 (show gi (si I 38 3 (gi I 9 (x1).toNat)) 10 (x1).toNat = (gi I 10 (x1).toNat) from (gi_cell _ _ _ _ (by decide))) ?_
  refine st_iastore (pc' := 37) (M' := (mem (P, some 5, some 22) (si (si I 38 3 (gi I 9 (x1).toNat)) 38 15 (gi I 10 (x1).toNat)) J)) dX9_setPage_36 rfl L_38 (by decide) (by decide) rfl ?_
  exact st_vret dX9_setPage_37 rfl rfl h
set_option maxRecDepth 20000 in
set_option maxHeartbeats 4000000 in
theorem B_X9_bounded_0 {k : Nat} {P : Option Nat} {I : Nat → Nat → Int32} {J : Nat → Nat → Int64} {x0 : Int} {Q : Option AV → Mem → Prop} (hk : 0 ≤ k) (h : inL x0 ∧ ((x0 ≤ 1000000 → (((-1000000) ≤ x0 → (Q (some (vI x0)) (mem (P, some 5, some 22) I J))) ∧ (¬ (-1000000) ≤ x0 → (Q (some (vI (-1000000))) (mem (P, some 5, some 22) I J))))) ∧ (¬ x0 ≤ 1000000 → (Q (some (vI 1000000)) (mem (P, some 5, some 22) I J))))) : WP k LAY m_X9_bounded 0 [(0, vL x0)] [] (mem (P, some 5, some 22) I J) Q := by
  refine st_lload_n (pc' := 1) dX9_bounded_0 rfl rfl (j := 0) rfl ?_
  refine st_ldc2 (pc' := 4) (z := 1000000) dX9_bounded_1 rfl q_X9_122 (by decide) ?_
  obtain ⟨e1, h⟩ := h
  refine st_lif_le (tg := 11) (pc' := 8) (pc1 := 5) dX9_bounded_4 rfl dX9_bounded_5 (by decide) rfl e1 (by decide) (fun c => ?_) (fun c => ?_)
  · replace h := h.1 c
    refine st_lload_n (pc' := 12) dX9_bounded_11 rfl rfl (j := 0) rfl ?_
    refine st_ldc2 (pc' := 15) (z := (-1000000)) dX9_bounded_12 rfl q_X9_125 (by decide) ?_
    refine st_lif_ge (tg := 24) (pc' := 19) (pc1 := 16) dX9_bounded_15 rfl dX9_bounded_16 (by decide) rfl e1 (by decide) (fun c => ?_) (fun c => ?_)
    · replace h := h.1 c
      refine st_lload_n (pc' := 25) dX9_bounded_24 rfl rfl (j := 0) rfl ?_
      refine st_l2i (pc' := 26) dX9_bounded_25 rfl ?_
      exact st_iret (ty := .int) dX9_bounded_26 rfl rfl rfl h
    · replace h := h.2 c
      refine st_ldc (pc' := 21) (z := (-1000000)) dX9_bounded_19 rfl q_X9_127 (by decide) ?_
      refine st_goto (pc' := 26) dX9_bounded_21 (by decide) ?_
      exact st_iret (ty := .int) dX9_bounded_26 rfl rfl rfl h
  · replace h := h.2 c
    refine st_ldc (pc' := 10) (z := 1000000) dX9_bounded_8 rfl q_X9_124 (by decide) ?_
    exact st_iret (ty := .int) dX9_bounded_10 rfl rfl rfl h
set_option maxRecDepth 20000 in
set_option maxHeartbeats 4000000 in
theorem B_X9_join_0 {k : Nat} {P : Option Nat} {I : Nat → Nat → Int32} {J : Nat → Nat → Int64} {x0 : Int} {x1 : Int} {x3 : Int} {Q : Option AV → Mem → Prop} (hk : 1 ≤ k) (h : inR x0 ∧ ((x0 = 10100 → (inL (x1 + x3) ∧ (((x1 + x3) ≤ 1000000 → (((-1000000) ≤ (x1 + x3) → (Q (some (vI (x1 + x3))) (mem (P, some 5, some 22) I J))) ∧ (¬ (-1000000) ≤ (x1 + x3) → (Q (some (vI (-1000000))) (mem (P, some 5, some 22) I J))))) ∧ (¬ (x1 + x3) ≤ 1000000 → (Q (some (vI 1000000)) (mem (P, some 5, some 22) I J)))))) ∧ (¬ x0 = 10100 → ((x0 = 10101 → (inL (x1 - x3) ∧ (((x1 - x3) ≤ 1000000 → (((-1000000) ≤ (x1 - x3) → (Q (some (vI (x1 - x3))) (mem (P, some 5, some 22) I J))) ∧ (¬ (-1000000) ≤ (x1 - x3) → (Q (some (vI (-1000000))) (mem (P, some 5, some 22) I J))))) ∧ (¬ (x1 - x3) ≤ 1000000 → (Q (some (vI 1000000)) (mem (P, some 5, some 22) I J)))))) ∧ (¬ x0 = 10101 → ((x0 = 10102 → (inL (x1 * x3) ∧ (((x1 * x3) ≤ 1000000 → (((-1000000) ≤ (x1 * x3) → (Q (some (vI (x1 * x3))) (mem (P, some 5, some 22) I J))) ∧ (¬ (-1000000) ≤ (x1 * x3) → (Q (some (vI (-1000000))) (mem (P, some 5, some 22) I J))))) ∧ (¬ (x1 * x3) ≤ 1000000 → (Q (some (vI 1000000)) (mem (P, some 5, some 22) I J)))))) ∧ (¬ x0 = 10102 → ((x0 = 10103 → (inL x3 ∧ ((¬ x3 = 0 → (WPm (k - 1) LAY m_J9_floorDiv_f86c9 [vL x1, vL x3] (mem (P, some 5, some 22) I J) (retL (fun v6 I7 J8 => inL v6 ∧ ((v6 ≤ 1000000 → (((-1000000) ≤ v6 → (Q (some (vI v6)) (mem (P, some 5, some 22) I7 J8))) ∧ (¬ (-1000000) ≤ v6 → (Q (some (vI (-1000000))) (mem (P, some 5, some 22) I7 J8))))) ∧ (¬ v6 ≤ 1000000 → (Q (some (vI 1000000)) (mem (P, some 5, some 22) I7 J8))))) (P, some 5, some 22)))) ∧ (x3 = 0 → (Q (some (vI 0)) (mem (P, some 5, some 22) I J)))))) ∧ (¬ x0 = 10103 → ((x0 = 10104 → (inL x3 ∧ ((¬ x3 = 0 → (WPm (k - 1) LAY m_J9_floorMod_f86c9 [vL x1, vL x3] (mem (P, some 5, some 22) I J) (retL (fun v11 I12 J13 => inL v11 ∧ ((v11 ≤ 1000000 → (((-1000000) ≤ v11 → (Q (some (vI v11)) (mem (P, some 5, some 22) I12 J13))) ∧ (¬ (-1000000) ≤ v11 → (Q (some (vI (-1000000))) (mem (P, some 5, some 22) I12 J13))))) ∧ (¬ v11 ≤ 1000000 → (Q (some (vI 1000000)) (mem (P, some 5, some 22) I12 J13))))) (P, some 5, some 22)))) ∧ (x3 = 0 → (Q (some (vI 0)) (mem (P, some 5, some 22) I J)))))) ∧ (¬ x0 = 10104 → ((x0 = 10105 → (inL x1 ∧ (inL x3 ∧ ((x3 ≤ x1 → ((x3 ≤ 1000000 → (((-1000000) ≤ x3 → (Q (some (vI x3)) (mem (P, some 5, some 22) I J))) ∧ (¬ (-1000000) ≤ x3 → (Q (some (vI (-1000000))) (mem (P, some 5, some 22) I J))))) ∧ (¬ x3 ≤ 1000000 → (Q (some (vI 1000000)) (mem (P, some 5, some 22) I J))))) ∧ (¬ x3 ≤ x1 → ((x1 ≤ 1000000 → (((-1000000) ≤ x1 → (Q (some (vI x1)) (mem (P, some 5, some 22) I J))) ∧ (¬ (-1000000) ≤ x1 → (Q (some (vI (-1000000))) (mem (P, some 5, some 22) I J))))) ∧ (¬ x1 ≤ 1000000 → (Q (some (vI 1000000)) (mem (P, some 5, some 22) I J))))))))) ∧ (¬ x0 = 10105 → ((x0 = 10106 → (inL x1 ∧ (inL x3 ∧ ((x1 ≤ x3 → ((x3 ≤ 1000000 → (((-1000000) ≤ x3 → (Q (some (vI x3)) (mem (P, some 5, some 22) I J))) ∧ (¬ (-1000000) ≤ x3 → (Q (some (vI (-1000000))) (mem (P, some 5, some 22) I J))))) ∧ (¬ x3 ≤ 1000000 → (Q (some (vI 1000000)) (mem (P, some 5, some 22) I J))))) ∧ (¬ x1 ≤ x3 → ((x1 ≤ 1000000 → (((-1000000) ≤ x1 → (Q (some (vI x1)) (mem (P, some 5, some 22) I J))) ∧ (¬ (-1000000) ≤ x1 → (Q (some (vI (-1000000))) (mem (P, some 5, some 22) I J))))) ∧ (¬ x1 ≤ 1000000 → (Q (some (vI 1000000)) (mem (P, some 5, some 22) I J))))))))) ∧ (¬ x0 = 10106 → ((x0 = 10107 → (inL x1 ∧ (inL x3 ∧ ((x3 ≤ x1 → (Q (some (vI 0)) (mem (P, some 5, some 22) I J))) ∧ (¬ x3 ≤ x1 → (Q (some (vI 1)) (mem (P, some 5, some 22) I J))))))) ∧ (¬ x0 = 10107 → ((x0 = 10108 → (inL x1 ∧ (inL x3 ∧ ((x1 ≤ x3 → (Q (some (vI 0)) (mem (P, some 5, some 22) I J))) ∧ (¬ x1 ≤ x3 → (Q (some (vI 1)) (mem (P, some 5, some 22) I J))))))) ∧ (¬ x0 = 10108 → ((x0 = 10109 → (inL x1 ∧ (inL x3 ∧ ((¬ x1 = x3 → (Q (some (vI 0)) (mem (P, some 5, some 22) I J))) ∧ (x1 = x3 → (Q (some (vI 1)) (mem (P, some 5, some 22) I J))))))) ∧ (¬ x0 = 10109 → ((x0 = 10110 → (((and64 x1 x3) ≤ 1000000 → (((-1000000) ≤ (and64 x1 x3) → (Q (some (vI (and64 x1 x3))) (mem (P, some 5, some 22) I J))) ∧ (¬ (-1000000) ≤ (and64 x1 x3) → (Q (some (vI (-1000000))) (mem (P, some 5, some 22) I J))))) ∧ (¬ (and64 x1 x3) ≤ 1000000 → (Q (some (vI 1000000)) (mem (P, some 5, some 22) I J))))) ∧ (¬ x0 = 10110 → (((or64 x1 x3) ≤ 1000000 → (((-1000000) ≤ (or64 x1 x3) → (Q (some (vI (or64 x1 x3))) (mem (P, some 5, some 22) I J))) ∧ (¬ (-1000000) ≤ (or64 x1 x3) → (Q (some (vI (-1000000))) (mem (P, some 5, some 22) I J))))) ∧ (¬ (or64 x1 x3) ≤ 1000000 → (Q (some (vI 1000000)) (mem (P, some 5, some 22) I J))))))))))))))))))))))))))) : WP k LAY m_X9_join 0 [(0, vI x0), (1, vL x1), (3, vL x3)] [] (mem (P, some 5, some 22) I J) Q := by
  refine st_iload_n (pc' := 1) dX9_join_0 rfl rfl (j := 0) rfl ?_
  obtain ⟨e1, h⟩ := h
  by_cases c : x0 = 10100
  · replace h := h.1 c
    refine st_tblIn (pc' := 60) (off := 59) dX9_join_1 e1 (by omega) (by rw [c]; rfl) (by decide) ?_
    refine st_lload_n (pc' := 61) dX9_join_60 rfl rfl (j := 1) rfl ?_
    refine st_lload_n (pc' := 62) dX9_join_61 rfl rfl (j := 2) rfl ?_
    refine st_ladd (pc' := 63) dX9_join_62 rfl ?_
    refine st_callS (pc' := 66) (kc := k - 1) (E' := LAY) (cal := m_X9_bounded) (n := 1) (as := [vL (x1 + x3)]) (S := []) dX9_join_63 rfl l_X9_111 k_X9_bounded rfl rfl (Nat.le_of_ble_eq_true rfl) (by omega) ⟨Nat.le_refl _, Nat.le_refl _, Nat.le_refl _, Nat.le_refl _⟩ (Q1 := fun r M' => WP k LAY m_X9_join 66 [(0, vI x0), (1, vL x1), (3, vL x3)] (r.toList ++ []) M' Q) (WPm.of k_X9_bounded.1 (Nat.le_of_ble_eq_true rfl) (B_X9_bounded_0 (by omega) ?_)) (fun r M' q => q)
    obtain ⟨e2, h⟩ := h
    refine ⟨e2, ?_⟩
    refine ⟨fun c => ?_, fun c => ?_⟩
    · replace h := h.1 c
      refine ⟨fun c => ?_, fun c => ?_⟩
      · replace h := h.1 c
        change WP _ LAY m_X9_join 66 [(0, vI x0), (1, vL x1), (3, vL x3)] [vI (x1 + x3)] (mem (P, some 5, some 22) I J) Q
        exact st_iret (ty := .int) dX9_join_66 rfl rfl rfl h
      · replace h := h.2 c
        change WP _ LAY m_X9_join 66 [(0, vI x0), (1, vL x1), (3, vL x3)] [vI (-1000000)] (mem (P, some 5, some 22) I J) Q
        exact st_iret (ty := .int) dX9_join_66 rfl rfl rfl h
    · replace h := h.2 c
      change WP _ LAY m_X9_join 66 [(0, vI x0), (1, vL x1), (3, vL x3)] [vI 1000000] (mem (P, some 5, some 22) I J) Q
      exact st_iret (ty := .int) dX9_join_66 rfl rfl rfl h
  replace h := h.2 c
  have c10100 := c
  clear c
  by_cases c : x0 = 10101
  · replace h := h.1 c
    refine st_tblIn (pc' := 67) (off := 66) dX9_join_1 e1 (by omega) (by rw [c]; rfl) (by decide) ?_
    refine st_lload_n (pc' := 68) dX9_join_67 rfl rfl (j := 1) rfl ?_
    refine st_lload_n (pc' := 69) dX9_join_68 rfl rfl (j := 2) rfl ?_
    refine st_lsub (pc' := 70) dX9_join_69 rfl ?_
    refine st_callS (pc' := 73) (kc := k - 1) (E' := LAY) (cal := m_X9_bounded) (n := 1) (as := [vL (x1 - x3)]) (S := []) dX9_join_70 rfl l_X9_111 k_X9_bounded rfl rfl (Nat.le_of_ble_eq_true rfl) (by omega) ⟨Nat.le_refl _, Nat.le_refl _, Nat.le_refl _, Nat.le_refl _⟩ (Q1 := fun r M' => WP k LAY m_X9_join 73 [(0, vI x0), (1, vL x1), (3, vL x3)] (r.toList ++ []) M' Q) (WPm.of k_X9_bounded.1 (Nat.le_of_ble_eq_true rfl) (B_X9_bounded_0 (by omega) ?_)) (fun r M' q => q)
    obtain ⟨e3, h⟩ := h
    refine ⟨e3, ?_⟩
    refine ⟨fun c => ?_, fun c => ?_⟩
    · replace h := h.1 c
      refine ⟨fun c => ?_, fun c => ?_⟩
      · replace h := h.1 c
        change WP _ LAY m_X9_join 73 [(0, vI x0), (1, vL x1), (3, vL x3)] [vI (x1 - x3)] (mem (P, some 5, some 22) I J) Q
        exact st_iret (ty := .int) dX9_join_73 rfl rfl rfl h
      · replace h := h.2 c
        change WP _ LAY m_X9_join 73 [(0, vI x0), (1, vL x1), (3, vL x3)] [vI (-1000000)] (mem (P, some 5, some 22) I J) Q
        exact st_iret (ty := .int) dX9_join_73 rfl rfl rfl h
    · replace h := h.2 c
      change WP _ LAY m_X9_join 73 [(0, vI x0), (1, vL x1), (3, vL x3)] [vI 1000000] (mem (P, some 5, some 22) I J) Q
      exact st_iret (ty := .int) dX9_join_73 rfl rfl rfl h
  replace h := h.2 c
  have c10101 := c
  clear c
  by_cases c : x0 = 10102
  · replace h := h.1 c
    refine st_tblIn (pc' := 74) (off := 73) dX9_join_1 e1 (by omega) (by rw [c]; rfl) (by decide) ?_
    refine st_lload_n (pc' := 75) dX9_join_74 rfl rfl (j := 1) rfl ?_
    refine st_lload_n (pc' := 76) dX9_join_75 rfl rfl (j := 2) rfl ?_
    refine st_lmul (pc' := 77) dX9_join_76 rfl ?_
    refine st_callS (pc' := 80) (kc := k - 1) (E' := LAY) (cal := m_X9_bounded) (n := 1) (as := [vL (x1 * x3)]) (S := []) dX9_join_77 rfl l_X9_111 k_X9_bounded rfl rfl (Nat.le_of_ble_eq_true rfl) (by omega) ⟨Nat.le_refl _, Nat.le_refl _, Nat.le_refl _, Nat.le_refl _⟩ (Q1 := fun r M' => WP k LAY m_X9_join 80 [(0, vI x0), (1, vL x1), (3, vL x3)] (r.toList ++ []) M' Q) (WPm.of k_X9_bounded.1 (Nat.le_of_ble_eq_true rfl) (B_X9_bounded_0 (by omega) ?_)) (fun r M' q => q)
    obtain ⟨e4, h⟩ := h
    refine ⟨e4, ?_⟩
    refine ⟨fun c => ?_, fun c => ?_⟩
    · replace h := h.1 c
      refine ⟨fun c => ?_, fun c => ?_⟩
      · replace h := h.1 c
        change WP _ LAY m_X9_join 80 [(0, vI x0), (1, vL x1), (3, vL x3)] [vI (x1 * x3)] (mem (P, some 5, some 22) I J) Q
        exact st_iret (ty := .int) dX9_join_80 rfl rfl rfl h
      · replace h := h.2 c
        change WP _ LAY m_X9_join 80 [(0, vI x0), (1, vL x1), (3, vL x3)] [vI (-1000000)] (mem (P, some 5, some 22) I J) Q
        exact st_iret (ty := .int) dX9_join_80 rfl rfl rfl h
    · replace h := h.2 c
      change WP _ LAY m_X9_join 80 [(0, vI x0), (1, vL x1), (3, vL x3)] [vI 1000000] (mem (P, some 5, some 22) I J) Q
      exact st_iret (ty := .int) dX9_join_80 rfl rfl rfl h
  replace h := h.2 c
  have c10102 := c
  clear c
  by_cases c : x0 = 10103
  · replace h := h.1 c
    refine st_tblIn (pc' := 81) (off := 80) dX9_join_1 e1 (by omega) (by rw [c]; rfl) (by decide) ?_
    refine st_lload_n (pc' := 82) dX9_join_81 rfl rfl (j := 2) rfl ?_
    refine st_lconst (pc' := 83) (z := 0) dX9_join_82 rfl (by decide) ?_
    obtain ⟨e5, h⟩ := h
    refine st_lif_ne (tg := 91) (pc' := 87) (pc1 := 84) dX9_join_83 rfl dX9_join_84 (by decide) rfl e5 (by decide) (fun c => ?_) (fun c => ?_)
    · replace h := h.1 c
      refine st_lload_n (pc' := 92) dX9_join_91 rfl rfl (j := 1) rfl ?_
      refine st_lload_n (pc' := 93) dX9_join_92 rfl rfl (j := 2) rfl ?_
      refine st_callS (pc' := 96) (kc := k - 1) (E' := LAY) (cal := m_J9_floorDiv_f86c9) (n := 2) (as := [vL x1, vL x3]) (S := []) dX9_join_93 rfl l_X9_115 k_J9_floorDiv_f86c9 rfl rfl (Nat.le_of_ble_eq_true rfl) (by omega) ⟨Nat.le_refl _, Nat.le_refl _, Nat.le_refl _, Nat.le_refl _⟩ h (fun r M' q => ?_)
      obtain ⟨v6, I7, J8, rfl, rfl, h⟩ := q
      change WP _ LAY m_X9_join 96 [(0, vI x0), (1, vL x1), (3, vL x3)] [vL v6] (mem (P, some 5, some 22) I7 J8) Q
      refine st_callS (pc' := 99) (kc := k - 1) (E' := LAY) (cal := m_X9_bounded) (n := 1) (as := [vL v6]) (S := []) dX9_join_96 rfl l_X9_111 k_X9_bounded rfl rfl (Nat.le_of_ble_eq_true rfl) (by omega) ⟨Nat.le_refl _, Nat.le_refl _, Nat.le_refl _, Nat.le_refl _⟩ (Q1 := fun r M' => WP k LAY m_X9_join 99 [(0, vI x0), (1, vL x1), (3, vL x3)] (r.toList ++ []) M' Q) (WPm.of k_X9_bounded.1 (Nat.le_of_ble_eq_true rfl) (B_X9_bounded_0 (by omega) ?_)) (fun r M' q => q)
      obtain ⟨e9, h⟩ := h
      refine ⟨e9, ?_⟩
      refine ⟨fun c => ?_, fun c => ?_⟩
      · replace h := h.1 c
        refine ⟨fun c => ?_, fun c => ?_⟩
        · replace h := h.1 c
          change WP _ LAY m_X9_join 99 [(0, vI x0), (1, vL x1), (3, vL x3)] [vI v6] (mem (P, some 5, some 22) I7 J8) Q
          exact st_iret (ty := .int) dX9_join_99 rfl rfl rfl h
        · replace h := h.2 c
          change WP _ LAY m_X9_join 99 [(0, vI x0), (1, vL x1), (3, vL x3)] [vI (-1000000)] (mem (P, some 5, some 22) I7 J8) Q
          exact st_iret (ty := .int) dX9_join_99 rfl rfl rfl h
      · replace h := h.2 c
        change WP _ LAY m_X9_join 99 [(0, vI x0), (1, vL x1), (3, vL x3)] [vI 1000000] (mem (P, some 5, some 22) I7 J8) Q
        exact st_iret (ty := .int) dX9_join_99 rfl rfl rfl h
    · replace h := h.2 c
      refine st_iconst (pc' := 88) dX9_join_87 rfl ?_
      refine st_goto (pc' := 99) dX9_join_88 (by decide) ?_
      exact st_iret (ty := .int) dX9_join_99 rfl rfl rfl h
  replace h := h.2 c
  have c10103 := c
  clear c
  by_cases c : x0 = 10104
  · replace h := h.1 c
    refine st_tblIn (pc' := 100) (off := 99) dX9_join_1 e1 (by omega) (by rw [c]; rfl) (by decide) ?_
    refine st_lload_n (pc' := 101) dX9_join_100 rfl rfl (j := 2) rfl ?_
    refine st_lconst (pc' := 102) (z := 0) dX9_join_101 rfl (by decide) ?_
    obtain ⟨e10, h⟩ := h
    refine st_lif_ne (tg := 110) (pc' := 106) (pc1 := 103) dX9_join_102 rfl dX9_join_103 (by decide) rfl e10 (by decide) (fun c => ?_) (fun c => ?_)
    · replace h := h.1 c
      refine st_lload_n (pc' := 111) dX9_join_110 rfl rfl (j := 1) rfl ?_
      refine st_lload_n (pc' := 112) dX9_join_111 rfl rfl (j := 2) rfl ?_
      refine st_callS (pc' := 115) (kc := k - 1) (E' := LAY) (cal := m_J9_floorMod_f86c9) (n := 2) (as := [vL x1, vL x3]) (S := []) dX9_join_112 rfl l_X9_119 k_J9_floorMod_f86c9 rfl rfl (Nat.le_of_ble_eq_true rfl) (by omega) ⟨Nat.le_refl _, Nat.le_refl _, Nat.le_refl _, Nat.le_refl _⟩ h (fun r M' q => ?_)
      obtain ⟨v11, I12, J13, rfl, rfl, h⟩ := q
      change WP _ LAY m_X9_join 115 [(0, vI x0), (1, vL x1), (3, vL x3)] [vL v11] (mem (P, some 5, some 22) I12 J13) Q
      refine st_callS (pc' := 118) (kc := k - 1) (E' := LAY) (cal := m_X9_bounded) (n := 1) (as := [vL v11]) (S := []) dX9_join_115 rfl l_X9_111 k_X9_bounded rfl rfl (Nat.le_of_ble_eq_true rfl) (by omega) ⟨Nat.le_refl _, Nat.le_refl _, Nat.le_refl _, Nat.le_refl _⟩ (Q1 := fun r M' => WP k LAY m_X9_join 118 [(0, vI x0), (1, vL x1), (3, vL x3)] (r.toList ++ []) M' Q) (WPm.of k_X9_bounded.1 (Nat.le_of_ble_eq_true rfl) (B_X9_bounded_0 (by omega) ?_)) (fun r M' q => q)
      obtain ⟨e14, h⟩ := h
      refine ⟨e14, ?_⟩
      refine ⟨fun c => ?_, fun c => ?_⟩
      · replace h := h.1 c
        refine ⟨fun c => ?_, fun c => ?_⟩
        · replace h := h.1 c
          change WP _ LAY m_X9_join 118 [(0, vI x0), (1, vL x1), (3, vL x3)] [vI v11] (mem (P, some 5, some 22) I12 J13) Q
          exact st_iret (ty := .int) dX9_join_118 rfl rfl rfl h
        · replace h := h.2 c
          change WP _ LAY m_X9_join 118 [(0, vI x0), (1, vL x1), (3, vL x3)] [vI (-1000000)] (mem (P, some 5, some 22) I12 J13) Q
          exact st_iret (ty := .int) dX9_join_118 rfl rfl rfl h
      · replace h := h.2 c
        change WP _ LAY m_X9_join 118 [(0, vI x0), (1, vL x1), (3, vL x3)] [vI 1000000] (mem (P, some 5, some 22) I12 J13) Q
        exact st_iret (ty := .int) dX9_join_118 rfl rfl rfl h
    · replace h := h.2 c
      refine st_iconst (pc' := 107) dX9_join_106 rfl ?_
      refine st_goto (pc' := 118) dX9_join_107 (by decide) ?_
      exact st_iret (ty := .int) dX9_join_118 rfl rfl rfl h
  replace h := h.2 c
  have c10104 := c
  clear c
  by_cases c : x0 = 10105
  · replace h := h.1 c
    refine st_tblIn (pc' := 119) (off := 118) dX9_join_1 e1 (by omega) (by rw [c]; rfl) (by decide) ?_
    refine st_lload_n (pc' := 120) dX9_join_119 rfl rfl (j := 1) rfl ?_
    refine st_lload_n (pc' := 121) dX9_join_120 rfl rfl (j := 2) rfl ?_
    obtain ⟨e15, h⟩ := h
    obtain ⟨e16, h⟩ := h
    refine st_lif_ge (tg := 129) (pc' := 125) (pc1 := 122) dX9_join_121 rfl dX9_join_122 (by decide) rfl e15 e16 (fun c => ?_) (fun c => ?_)
    · replace h := h.1 c
      refine st_lload_n (pc' := 130) dX9_join_129 rfl rfl (j := 2) rfl ?_
      refine st_callS (pc' := 133) (kc := k - 1) (E' := LAY) (cal := m_X9_bounded) (n := 1) (as := [vL x3]) (S := []) dX9_join_130 rfl l_X9_111 k_X9_bounded rfl rfl (Nat.le_of_ble_eq_true rfl) (by omega) ⟨Nat.le_refl _, Nat.le_refl _, Nat.le_refl _, Nat.le_refl _⟩ (Q1 := fun r M' => WP k LAY m_X9_join 133 [(0, vI x0), (1, vL x1), (3, vL x3)] (r.toList ++ []) M' Q) (WPm.of k_X9_bounded.1 (Nat.le_of_ble_eq_true rfl) (B_X9_bounded_0 (by omega) ?_)) (fun r M' q => q)
      refine ⟨e16, ?_⟩
      refine ⟨fun c => ?_, fun c => ?_⟩
      · replace h := h.1 c
        refine ⟨fun c => ?_, fun c => ?_⟩
        · replace h := h.1 c
          change WP _ LAY m_X9_join 133 [(0, vI x0), (1, vL x1), (3, vL x3)] [vI x3] (mem (P, some 5, some 22) I J) Q
          exact st_iret (ty := .int) dX9_join_133 rfl rfl rfl h
        · replace h := h.2 c
          change WP _ LAY m_X9_join 133 [(0, vI x0), (1, vL x1), (3, vL x3)] [vI (-1000000)] (mem (P, some 5, some 22) I J) Q
          exact st_iret (ty := .int) dX9_join_133 rfl rfl rfl h
      · replace h := h.2 c
        change WP _ LAY m_X9_join 133 [(0, vI x0), (1, vL x1), (3, vL x3)] [vI 1000000] (mem (P, some 5, some 22) I J) Q
        exact st_iret (ty := .int) dX9_join_133 rfl rfl rfl h
    · replace h := h.2 c
      refine st_lload_n (pc' := 126) dX9_join_125 rfl rfl (j := 1) rfl ?_
      refine st_goto (pc' := 130) dX9_join_126 (by decide) ?_
      refine st_callS (pc' := 133) (kc := k - 1) (E' := LAY) (cal := m_X9_bounded) (n := 1) (as := [vL x1]) (S := []) dX9_join_130 rfl l_X9_111 k_X9_bounded rfl rfl (Nat.le_of_ble_eq_true rfl) (by omega) ⟨Nat.le_refl _, Nat.le_refl _, Nat.le_refl _, Nat.le_refl _⟩ (Q1 := fun r M' => WP k LAY m_X9_join 133 [(0, vI x0), (1, vL x1), (3, vL x3)] (r.toList ++ []) M' Q) (WPm.of k_X9_bounded.1 (Nat.le_of_ble_eq_true rfl) (B_X9_bounded_0 (by omega) ?_)) (fun r M' q => q)
      refine ⟨e15, ?_⟩
      refine ⟨fun c => ?_, fun c => ?_⟩
      · replace h := h.1 c
        refine ⟨fun c => ?_, fun c => ?_⟩
        · replace h := h.1 c
          change WP _ LAY m_X9_join 133 [(0, vI x0), (1, vL x1), (3, vL x3)] [vI x1] (mem (P, some 5, some 22) I J) Q
          exact st_iret (ty := .int) dX9_join_133 rfl rfl rfl h
        · replace h := h.2 c
          change WP _ LAY m_X9_join 133 [(0, vI x0), (1, vL x1), (3, vL x3)] [vI (-1000000)] (mem (P, some 5, some 22) I J) Q
          exact st_iret (ty := .int) dX9_join_133 rfl rfl rfl h
      · replace h := h.2 c
        change WP _ LAY m_X9_join 133 [(0, vI x0), (1, vL x1), (3, vL x3)] [vI 1000000] (mem (P, some 5, some 22) I J) Q
        exact st_iret (ty := .int) dX9_join_133 rfl rfl rfl h
  replace h := h.2 c
  have c10105 := c
  clear c
  by_cases c : x0 = 10106
  · replace h := h.1 c
    refine st_tblIn (pc' := 134) (off := 133) dX9_join_1 e1 (by omega) (by rw [c]; rfl) (by decide) ?_
    refine st_lload_n (pc' := 135) dX9_join_134 rfl rfl (j := 1) rfl ?_
    refine st_lload_n (pc' := 136) dX9_join_135 rfl rfl (j := 2) rfl ?_
    obtain ⟨e17, h⟩ := h
    obtain ⟨e18, h⟩ := h
    refine st_lif_le (tg := 144) (pc' := 140) (pc1 := 137) dX9_join_136 rfl dX9_join_137 (by decide) rfl e17 e18 (fun c => ?_) (fun c => ?_)
    · replace h := h.1 c
      refine st_lload_n (pc' := 145) dX9_join_144 rfl rfl (j := 2) rfl ?_
      refine st_callS (pc' := 148) (kc := k - 1) (E' := LAY) (cal := m_X9_bounded) (n := 1) (as := [vL x3]) (S := []) dX9_join_145 rfl l_X9_111 k_X9_bounded rfl rfl (Nat.le_of_ble_eq_true rfl) (by omega) ⟨Nat.le_refl _, Nat.le_refl _, Nat.le_refl _, Nat.le_refl _⟩ (Q1 := fun r M' => WP k LAY m_X9_join 148 [(0, vI x0), (1, vL x1), (3, vL x3)] (r.toList ++ []) M' Q) (WPm.of k_X9_bounded.1 (Nat.le_of_ble_eq_true rfl) (B_X9_bounded_0 (by omega) ?_)) (fun r M' q => q)
      refine ⟨e18, ?_⟩
      refine ⟨fun c => ?_, fun c => ?_⟩
      · replace h := h.1 c
        refine ⟨fun c => ?_, fun c => ?_⟩
        · replace h := h.1 c
          change WP _ LAY m_X9_join 148 [(0, vI x0), (1, vL x1), (3, vL x3)] [vI x3] (mem (P, some 5, some 22) I J) Q
          exact st_iret (ty := .int) dX9_join_148 rfl rfl rfl h
        · replace h := h.2 c
          change WP _ LAY m_X9_join 148 [(0, vI x0), (1, vL x1), (3, vL x3)] [vI (-1000000)] (mem (P, some 5, some 22) I J) Q
          exact st_iret (ty := .int) dX9_join_148 rfl rfl rfl h
      · replace h := h.2 c
        change WP _ LAY m_X9_join 148 [(0, vI x0), (1, vL x1), (3, vL x3)] [vI 1000000] (mem (P, some 5, some 22) I J) Q
        exact st_iret (ty := .int) dX9_join_148 rfl rfl rfl h
    · replace h := h.2 c
      refine st_lload_n (pc' := 141) dX9_join_140 rfl rfl (j := 1) rfl ?_
      refine st_goto (pc' := 145) dX9_join_141 (by decide) ?_
      refine st_callS (pc' := 148) (kc := k - 1) (E' := LAY) (cal := m_X9_bounded) (n := 1) (as := [vL x1]) (S := []) dX9_join_145 rfl l_X9_111 k_X9_bounded rfl rfl (Nat.le_of_ble_eq_true rfl) (by omega) ⟨Nat.le_refl _, Nat.le_refl _, Nat.le_refl _, Nat.le_refl _⟩ (Q1 := fun r M' => WP k LAY m_X9_join 148 [(0, vI x0), (1, vL x1), (3, vL x3)] (r.toList ++ []) M' Q) (WPm.of k_X9_bounded.1 (Nat.le_of_ble_eq_true rfl) (B_X9_bounded_0 (by omega) ?_)) (fun r M' q => q)
      refine ⟨e17, ?_⟩
      refine ⟨fun c => ?_, fun c => ?_⟩
      · replace h := h.1 c
        refine ⟨fun c => ?_, fun c => ?_⟩
        · replace h := h.1 c
          change WP _ LAY m_X9_join 148 [(0, vI x0), (1, vL x1), (3, vL x3)] [vI x1] (mem (P, some 5, some 22) I J) Q
          exact st_iret (ty := .int) dX9_join_148 rfl rfl rfl h
        · replace h := h.2 c
          change WP _ LAY m_X9_join 148 [(0, vI x0), (1, vL x1), (3, vL x3)] [vI (-1000000)] (mem (P, some 5, some 22) I J) Q
          exact st_iret (ty := .int) dX9_join_148 rfl rfl rfl h
      · replace h := h.2 c
        change WP _ LAY m_X9_join 148 [(0, vI x0), (1, vL x1), (3, vL x3)] [vI 1000000] (mem (P, some 5, some 22) I J) Q
        exact st_iret (ty := .int) dX9_join_148 rfl rfl rfl h
  replace h := h.2 c
  have c10106 := c
  clear c
  by_cases c : x0 = 10107
  · replace h := h.1 c
    refine st_tblIn (pc' := 149) (off := 148) dX9_join_1 e1 (by omega) (by rw [c]; rfl) (by decide) ?_
    refine st_lload_n (pc' := 150) dX9_join_149 rfl rfl (j := 1) rfl ?_
    refine st_lload_n (pc' := 151) dX9_join_150 rfl rfl (j := 2) rfl ?_
    obtain ⟨e19, h⟩ := h
    obtain ⟨e20, h⟩ := h
    refine st_lif_ge (tg := 159) (pc' := 155) (pc1 := 152) dX9_join_151 rfl dX9_join_152 (by decide) rfl e19 e20 (fun c => ?_) (fun c => ?_)
    · replace h := h.1 c
      refine st_iconst (pc' := 160) dX9_join_159 rfl ?_
      exact st_iret (ty := .int) dX9_join_160 rfl rfl rfl h
    · replace h := h.2 c
      refine st_iconst (pc' := 156) dX9_join_155 rfl ?_
      refine st_goto (pc' := 160) dX9_join_156 (by decide) ?_
      exact st_iret (ty := .int) dX9_join_160 rfl rfl rfl h
  replace h := h.2 c
  have c10107 := c
  clear c
  by_cases c : x0 = 10108
  · replace h := h.1 c
    refine st_tblIn (pc' := 161) (off := 160) dX9_join_1 e1 (by omega) (by rw [c]; rfl) (by decide) ?_
    refine st_lload_n (pc' := 162) dX9_join_161 rfl rfl (j := 1) rfl ?_
    refine st_lload_n (pc' := 163) dX9_join_162 rfl rfl (j := 2) rfl ?_
    obtain ⟨e21, h⟩ := h
    obtain ⟨e22, h⟩ := h
    refine st_lif_le (tg := 171) (pc' := 167) (pc1 := 164) dX9_join_163 rfl dX9_join_164 (by decide) rfl e21 e22 (fun c => ?_) (fun c => ?_)
    · replace h := h.1 c
      refine st_iconst (pc' := 172) dX9_join_171 rfl ?_
      exact st_iret (ty := .int) dX9_join_172 rfl rfl rfl h
    · replace h := h.2 c
      refine st_iconst (pc' := 168) dX9_join_167 rfl ?_
      refine st_goto (pc' := 172) dX9_join_168 (by decide) ?_
      exact st_iret (ty := .int) dX9_join_172 rfl rfl rfl h
  replace h := h.2 c
  have c10108 := c
  clear c
  by_cases c : x0 = 10109
  · replace h := h.1 c
    refine st_tblIn (pc' := 173) (off := 172) dX9_join_1 e1 (by omega) (by rw [c]; rfl) (by decide) ?_
    refine st_lload_n (pc' := 174) dX9_join_173 rfl rfl (j := 1) rfl ?_
    refine st_lload_n (pc' := 175) dX9_join_174 rfl rfl (j := 2) rfl ?_
    obtain ⟨e23, h⟩ := h
    obtain ⟨e24, h⟩ := h
    refine st_lif_ne (tg := 183) (pc' := 179) (pc1 := 176) dX9_join_175 rfl dX9_join_176 (by decide) rfl e23 e24 (fun c => ?_) (fun c => ?_)
    · replace h := h.1 c
      refine st_iconst (pc' := 184) dX9_join_183 rfl ?_
      exact st_iret (ty := .int) dX9_join_184 rfl rfl rfl h
    · replace h := h.2 c
      refine st_iconst (pc' := 180) dX9_join_179 rfl ?_
      refine st_goto (pc' := 184) dX9_join_180 (by decide) ?_
      exact st_iret (ty := .int) dX9_join_184 rfl rfl rfl h
  replace h := h.2 c
  have c10109 := c
  clear c
  by_cases c : x0 = 10110
  · replace h := h.1 c
    refine st_tblIn (pc' := 185) (off := 184) dX9_join_1 e1 (by omega) (by rw [c]; rfl) (by decide) ?_
    refine st_lload_n (pc' := 186) dX9_join_185 rfl rfl (j := 1) rfl ?_
    refine st_lload_n (pc' := 187) dX9_join_186 rfl rfl (j := 2) rfl ?_
    refine st_land (pc' := 188) (z := (and64 x1 x3)) dX9_join_187 rfl rfl ?_
    refine st_callS (pc' := 191) (kc := k - 1) (E' := LAY) (cal := m_X9_bounded) (n := 1) (as := [vL (and64 x1 x3)]) (S := []) dX9_join_188 rfl l_X9_111 k_X9_bounded rfl rfl (Nat.le_of_ble_eq_true rfl) (by omega) ⟨Nat.le_refl _, Nat.le_refl _, Nat.le_refl _, Nat.le_refl _⟩ (Q1 := fun r M' => WP k LAY m_X9_join 191 [(0, vI x0), (1, vL x1), (3, vL x3)] (r.toList ++ []) M' Q) (WPm.of k_X9_bounded.1 (Nat.le_of_ble_eq_true rfl) (B_X9_bounded_0 (by omega) ?_)) (fun r M' q => q)
    refine ⟨(and64_in _ _), ?_⟩
    refine ⟨fun c => ?_, fun c => ?_⟩
    · replace h := h.1 c
      refine ⟨fun c => ?_, fun c => ?_⟩
      · replace h := h.1 c
        change WP _ LAY m_X9_join 191 [(0, vI x0), (1, vL x1), (3, vL x3)] [vI (and64 x1 x3)] (mem (P, some 5, some 22) I J) Q
        exact st_iret (ty := .int) dX9_join_191 rfl rfl rfl h
      · replace h := h.2 c
        change WP _ LAY m_X9_join 191 [(0, vI x0), (1, vL x1), (3, vL x3)] [vI (-1000000)] (mem (P, some 5, some 22) I J) Q
        exact st_iret (ty := .int) dX9_join_191 rfl rfl rfl h
    · replace h := h.2 c
      change WP _ LAY m_X9_join 191 [(0, vI x0), (1, vL x1), (3, vL x3)] [vI 1000000] (mem (P, some 5, some 22) I J) Q
      exact st_iret (ty := .int) dX9_join_191 rfl rfl rfl h
  replace h := h.2 c
  have c10110 := c
  clear c
  have go : WP k LAY m_X9_join 192 [(0, vI x0), (1, vL x1), (3, vL x3)] [] (mem (P, some 5, some 22) I J) Q := by
    refine st_lload_n (pc' := 193) dX9_join_192 rfl rfl (j := 1) rfl ?_
    refine st_lload_n (pc' := 194) dX9_join_193 rfl rfl (j := 2) rfl ?_
    refine st_lor (pc' := 195) (z := (or64 x1 x3)) dX9_join_194 rfl rfl ?_
    refine st_callS (pc' := 198) (kc := k - 1) (E' := LAY) (cal := m_X9_bounded) (n := 1) (as := [vL (or64 x1 x3)]) (S := []) dX9_join_195 rfl l_X9_111 k_X9_bounded rfl rfl (Nat.le_of_ble_eq_true rfl) (by omega) ⟨Nat.le_refl _, Nat.le_refl _, Nat.le_refl _, Nat.le_refl _⟩ (Q1 := fun r M' => WP k LAY m_X9_join 198 [(0, vI x0), (1, vL x1), (3, vL x3)] (r.toList ++ []) M' Q) (WPm.of k_X9_bounded.1 (Nat.le_of_ble_eq_true rfl) (B_X9_bounded_0 (by omega) ?_)) (fun r M' q => q)
    refine ⟨(or64_in _ _), ?_⟩
    refine ⟨fun c => ?_, fun c => ?_⟩
    · replace h := h.1 c
      refine ⟨fun c => ?_, fun c => ?_⟩
      · replace h := h.1 c
        change WP _ LAY m_X9_join 198 [(0, vI x0), (1, vL x1), (3, vL x3)] [vI (or64 x1 x3)] (mem (P, some 5, some 22) I J) Q
        exact st_iret (ty := .int) dX9_join_198 rfl rfl rfl h
      · replace h := h.2 c
        change WP _ LAY m_X9_join 198 [(0, vI x0), (1, vL x1), (3, vL x3)] [vI (-1000000)] (mem (P, some 5, some 22) I J) Q
        exact st_iret (ty := .int) dX9_join_198 rfl rfl rfl h
    · replace h := h.2 c
      change WP _ LAY m_X9_join 198 [(0, vI x0), (1, vL x1), (3, vL x3)] [vI 1000000] (mem (P, some 5, some 22) I J) Q
      exact st_iret (ty := .int) dX9_join_198 rfl rfl rfl h
  exact st_tblOut (pc' := 192) dX9_join_1 e1 (by omega) (by decide) go
set_option maxRecDepth 20000 in
set_option maxHeartbeats 4000000 in
theorem B_X9_run_0 {k : Nat} {P : Option Nat} {I : Nat → Nat → Int32} {J : Nat → Nat → Int64} {x1 : Int} {Q : Option AV → Mem → Prop} (hk : 1 ≤ k) (h : (0 ≤ x1 ∧ x1 < 3) ∧ (WP k LAY m_X9_run 53 [(0, vR (some 36)), (2, vR (some 16)), (3, vI (min (gi I 18 (x1).toNat) 1600)), (4, vI 0), (5, vI (gi I 17 (x1).toNat))] [] (mem (P, some 5, some 22) (si I 37 0 0) J) Q)) : WP k LAY m_X9_run 0 [(0, vR (some 36)), (1, vI x1)] [] (mem (P, some 5, some 22) I J) Q := by
  refine st_aload_n (pc' := 1) dX9_run_0 rfl rfl (j := 0) rfl ?_
  refine G_X9_18_36 dX9_run_1 (pc' := 4) rfl rfl ?_
  refine G_X9_28_4 dX9_run_4 (pc' := 7) rfl rfl ?_
  refine G_X9_98_5 dX9_run_7 (pc' := 10) rfl rfl ?_
  refine st_astore_n (pc' := 11) (L' := [(2, vR (some 16)), (0, vR (some 36)), (1, vI x1)]) dX9_run_10 rfl rfl (by decide) rfl ?_
  refine st_aload_n (pc' := 12) dX9_run_11 rfl rfl (j := 1) rfl ?_
  refine G_X9_18_36 dX9_run_12 (pc' := 15) rfl rfl ?_
  refine G_X9_28_4 dX9_run_15 (pc' := 18) rfl rfl ?_
  refine G_X9_101_5 dX9_run_18 (pc' := 21) rfl rfl ?_
  refine st_iload_n (pc' := 22) dX9_run_21 rfl rfl (j := 2) rfl ?_
  obtain ⟨e1, h⟩ := h
  refine st_iaload (pc' := 23) (v := (gi I 18 (x1).toNat)) dX9_run_22 rfl L_18 (by decide) e1 (show gi I 18 (x1).toNat = (gi I 18 (x1).toNat) from rfl) ?_
  refine st_aload_n (pc' := 24) dX9_run_23 rfl rfl (j := 0) rfl ?_
  refine st_alenI (pc' := 25) (z := 1600) dX9_run_24 rfl L_16 (by decide) ?_
  refine st_callS (pc' := 28) (kc := k - 1) (E' := LAY) (cal := m_J9_min_7cf53) (n := 2) (as := [vI (gi I 18 (x1).toNat), vI 1600]) (S := []) dX9_run_25 rfl l_X9_73 k_J9_min_7cf53 rfl rfl (Nat.le_of_ble_eq_true rfl) (by omega) ⟨Nat.le_refl _, Nat.le_refl _, Nat.le_refl _, Nat.le_refl _⟩ (Q1 := fun r M' => WP k LAY m_X9_run 28 [(2, vR (some 16)), (0, vR (some 36)), (1, vI x1)] (r.toList ++ []) M' Q) (S_J9_min (by omega) (gi_in _ _ _) (by decide) ?_) (fun r M' q => q)
  change WP _ LAY m_X9_run 28 [(2, vR (some 16)), (0, vR (some 36)), (1, vI x1)] [vI (min (gi I 18 (x1).toNat) 1600)] (mem (P, some 5, some 22) I J) Q
  refine st_istore_n (pc' := 29) (L' := [(3, vI (min (gi I 18 (x1).toNat) 1600)), (2, vR (some 16)), (0, vR (some 36)), (1, vI x1)]) dX9_run_28 rfl rfl (by decide) rfl ?_
  refine st_iconst (pc' := 30) dX9_run_29 rfl ?_
  refine st_istore (pc' := 32) (L' := [(4, vI 0), (3, vI (min (gi I 18 (x1).toNat) 1600)), (2, vR (some 16)), (0, vR (some 36)), (1, vI x1)]) dX9_run_30 rfl (by decide) rfl ?_
  refine st_aload_n (pc' := 33) dX9_run_32 rfl rfl (j := 3) rfl ?_
  refine G_X9_9_36 dX9_run_33 (pc' := 36) rfl rfl ?_
  refine st_iconst (pc' := 37) dX9_run_36 rfl ?_
  refine st_iconst (pc' := 38) dX9_run_37 rfl ?_
  refine st_iastore (pc' := 39) (M' := (mem (P, some 5, some 22) (si I 37 0 0) J)) dX9_run_38 rfl L_37 (by decide) (by decide) rfl ?_
  refine st_aload_n (pc' := 40) dX9_run_39 rfl rfl (j := 3) rfl ?_
  refine G_X9_18_36 dX9_run_40 (pc' := 43) rfl rfl ?_
  refine G_X9_28_4 dX9_run_43 (pc' := 46) rfl rfl ?_
  refine G_X9_104_5 dX9_run_46 (pc' := 49) rfl rfl ?_
  refine st_iload_n (pc' := 50) dX9_run_49 rfl rfl (j := 4) rfl ?_
  refine st_iaload (pc' := 51) (v := (gi I 17 (x1).toNat)) dX9_run_50 rfl L_17 (by decide) e1 (show gi (si I 37 0 0) 17 (x1).toNat = (gi I 17 (x1).toNat) from (gi_cell _ _ _ _ (by decide))) ?_
  refine st_istore (pc' := 53) (L' := [(5, vI (gi I 17 (x1).toNat)), (4, vI 0), (3, vI (min (gi I 18 (x1).toNat) 1600)), (2, vR (some 16)), (0, vR (some 36)), (1, vI x1)]) dX9_run_51 rfl (by decide) rfl ?_
  refine WP_sub (L' := [(0, vR (some 36)), (2, vR (some 16)), (3, vI (min (gi I 18 (x1).toNat) 1600)), (4, vI 0), (5, vI (gi I 17 (x1).toNat))]) [4, 3, 2, 1, 0] rfl ?_
  exact h
set_option maxRecDepth 20000 in
set_option maxHeartbeats 4000000 in
theorem B_X9_run_53 {k : Nat} {P : Option Nat} {I : Nat → Nat → Int32} {J : Nat → Nat → Int64} {x3 : Int} {x4 : Int} {x5 : Int} {Q : Option AV → Mem → Prop} (hk : 1 ≤ k) (h : inR x5 ∧ (inR x3 ∧ ((x3 ≤ x5 → (Q (some (vI (gi I 37 0))) (mem (P, some 5, some 22) I J))) ∧ (¬ x3 ≤ x5 → ((0 ≤ x5 ∧ x5 < 1600) ∧ ((10100 ≤ (gi I 16 (x5).toNat) → ((¬ (gi I 16 (x5).toNat) = 10112 → (inR x4 ∧ ((x4 ≤ 1 → (WP k LAY m_X9_run 53 [(0, vR (some 36)), (2, vR (some 16)), (3, vI x3), (4, vI x4), (5, vI (x5 + 1))] [] (mem (P, some 5, some 22) I J) Q)) ∧ (¬ x4 ≤ 1 → ((0 ≤ ((x4 + (-1)) - 1) ∧ ((x4 + (-1)) - 1) < 64) ∧ ((0 ≤ (x4 + (-1)) ∧ (x4 + (-1)) < 64) ∧ (WPm (k - 1) LAY m_X9_join [vI (gi I 16 (x5).toNat), vL (gi I 37 ((x4 + (-1)) - 1).toNat), vL (gi I 37 (x4 + (-1)).toNat)] (mem (P, some 5, some 22) I J) (retI (fun v7 I8 J9 => WP k LAY m_X9_run 53 [(0, vR (some 36)), (2, vR (some 16)), (3, vI x3), (4, vI (x4 + (-1))), (5, vI (x5 + 1))] [] (mem (P, some 5, some 22) (si I8 37 ((x4 + (-1)) - 1).toNat v7) J9) Q) (P, some 5, some 22))))))))) ∧ ((gi I 16 (x5).toNat) = 10112 → (inR x4 ∧ ((x4 ≤ 0 → (WP k LAY m_X9_run 53 [(0, vR (some 36)), (2, vR (some 16)), (3, vI x3), (4, vI x4), (5, vI (x5 + 1))] [] (mem (P, some 5, some 22) I J) Q)) ∧ (¬ x4 ≤ 0 → ((0 ≤ (x4 - 1) ∧ (x4 - 1) < 64) ∧ (WP k LAY m_X9_run 53 [(0, vR (some 36)), (2, vR (some 16)), (3, vI x3), (4, vI x4), (5, vI (x5 + 1))] [] (mem (P, some 5, some 22) (si I 37 (x4 - 1).toNat (1 - (gi I 37 (x4 - 1).toNat))) J) Q)))))))) ∧ (¬ 10100 ≤ (gi I 16 (x5).toNat) → (inR x4 ∧ ((64 ≤ x4 → (WP k LAY m_X9_run 53 [(0, vR (some 36)), (2, vR (some 16)), (3, vI x3), (4, vI x4), (5, vI (x5 + 1))] [] (mem (P, some 5, some 22) I J) Q)) ∧ (¬ 64 ≤ x4 → ((10000 ≤ (gi I 16 (x5).toNat) → ((0 ≤ ((gi I 16 (x5).toNat) - 10000) ∧ ((gi I 16 (x5).toNat) - 10000) < 25) ∧ ((0 ≤ x4 ∧ x4 < 64) ∧ (WP k LAY m_X9_run 53 [(0, vR (some 36)), (2, vR (some 16)), (3, vI x3), (4, vI (x4 + 1)), (5, vI (x5 + 1))] [] (mem (P, some 5, some 22) (si I 37 (x4).toNat (gi I 38 ((gi I 16 (x5).toNat) - 10000).toNat)) J) Q)))) ∧ (¬ 10000 ≤ (gi I 16 (x5).toNat) → ((0 ≤ x4 ∧ x4 < 64) ∧ (WP k LAY m_X9_run 53 [(0, vR (some 36)), (2, vR (some 16)), (3, vI x3), (4, vI (x4 + 1)), (5, vI (x5 + 1))] [] (mem (P, some 5, some 22) (si I 37 (x4).toNat (gi I 16 (x5).toNat)) J) Q)))))))))))))) : WP k LAY m_X9_run 53 [(0, vR (some 36)), (2, vR (some 16)), (3, vI x3), (4, vI x4), (5, vI x5)] [] (mem (P, some 5, some 22) I J) Q := by
  refine st_iload (pc' := 55) dX9_run_53 rfl (j := 4) rfl ?_
  refine st_iload_n (pc' := 56) dX9_run_55 rfl rfl (j := 2) rfl ?_
  obtain ⟨e1, h⟩ := h
  obtain ⟨e2, h⟩ := h
  refine st_icmp_ge (tg := 203) (pc' := 59) dX9_run_56 (by decide) rfl e1 e2 (fun c => ?_) (fun c => ?_)
  · replace h := h.1 c
    refine st_aload_n (pc' := 204) dX9_run_203 rfl rfl (j := 0) rfl ?_
    refine G_X9_9_36 dX9_run_204 (pc' := 207) rfl rfl ?_
    refine st_iconst (pc' := 208) dX9_run_207 rfl ?_
    refine st_iaload (pc' := 209) (v := (gi I 37 0)) dX9_run_208 rfl L_37 (by decide) (by decide) (show gi I 37 0 = (gi I 37 0) from rfl) ?_
    exact st_iret (ty := .int) dX9_run_209 rfl rfl rfl h
  · replace h := h.2 c
    refine st_aload_n (pc' := 60) dX9_run_59 rfl rfl (j := 1) rfl ?_
    refine st_iload (pc' := 62) dX9_run_60 rfl (j := 4) rfl ?_
    obtain ⟨e3, h⟩ := h
    refine st_iaload (pc' := 63) (v := (gi I 16 (x5).toNat)) dX9_run_62 rfl L_16 (by decide) e3 (show gi I 16 (x5).toNat = (gi I 16 (x5).toNat) from rfl) ?_
    refine st_istore (pc' := 65) (L' := [(6, vI (gi I 16 (x5).toNat)), (0, vR (some 36)), (2, vR (some 16)), (3, vI x3), (4, vI x4), (5, vI x5)]) dX9_run_63 rfl (by decide) rfl ?_
    refine st_iload (pc' := 67) dX9_run_65 rfl (j := 0) rfl ?_
    refine st_sipush (pc' := 70) dX9_run_67 rfl (by decide) ?_
    refine st_icmp_ge (tg := 120) (pc' := 73) dX9_run_70 (by decide) rfl (gi_in _ _ _) (by decide) (fun c => ?_) (fun c => ?_)
    · replace h := h.1 c
      refine st_iload (pc' := 122) dX9_run_120 rfl (j := 0) rfl ?_
      refine st_sipush (pc' := 125) dX9_run_122 rfl (by decide) ?_
      refine st_icmp_ne (tg := 156) (pc' := 128) dX9_run_125 (by decide) rfl (gi_in _ _ _) (by decide) (fun c => ?_) (fun c => ?_)
      · replace h := h.1 c
        refine st_iload (pc' := 158) dX9_run_156 rfl (j := 4) rfl ?_
        refine st_iconst (pc' := 159) dX9_run_158 rfl ?_
        obtain ⟨e4, h⟩ := h
        refine st_icmp_le (tg := 197) (pc' := 162) dX9_run_159 (by decide) rfl e4 (by decide) (fun c => ?_) (fun c => ?_)
        · replace h := h.1 c
          refine st_iinc (pc' := 200) (L' := [(5, vI (x5 + 1)), (6, vI (gi I 16 (x5).toNat)), (0, vR (some 36)), (2, vR (some 16)), (3, vI x3), (4, vI x4)]) (j := 5) dX9_run_197 rfl (by decide) rfl rfl ?_
          refine st_goto (pc' := 53) dX9_run_200 (by decide) ?_
          refine WP_sub (L' := [(0, vR (some 36)), (2, vR (some 16)), (3, vI x3), (4, vI x4), (5, vI (x5 + 1))]) [2, 3, 4, 5, 0] rfl ?_
          exact h
        · replace h := h.2 c
          refine st_iinc (pc' := 165) (L' := [(4, vI (x4 + (-1))), (6, vI (gi I 16 (x5).toNat)), (0, vR (some 36)), (2, vR (some 16)), (3, vI x3), (5, vI x5)]) (j := 4) dX9_run_162 rfl (by decide) rfl rfl ?_
          refine st_aload_n (pc' := 166) dX9_run_165 rfl rfl (j := 2) rfl ?_
          refine G_X9_9_36 dX9_run_166 (pc' := 169) rfl rfl ?_
          refine st_iload (pc' := 171) dX9_run_169 rfl (j := 0) rfl ?_
          refine st_iconst (pc' := 172) dX9_run_171 rfl ?_
          refine st_isub (pc' := 173) dX9_run_172 rfl ?_
          refine st_iload (pc' := 175) dX9_run_173 rfl (j := 1) rfl ?_
          refine st_aload_n (pc' := 176) dX9_run_175 rfl rfl (j := 2) rfl ?_
          refine G_X9_9_36 dX9_run_176 (pc' := 179) rfl rfl ?_
          refine st_iload (pc' := 181) dX9_run_179 rfl (j := 0) rfl ?_
          refine st_iconst (pc' := 182) dX9_run_181 rfl ?_
          refine st_isub (pc' := 183) dX9_run_182 rfl ?_
          obtain ⟨e5, h⟩ := h
          refine st_iaload (pc' := 184) (v := (gi I 37 ((x4 + (-1)) - 1).toNat)) dX9_run_183 rfl L_37 (by decide) e5 (show gi I 37 ((x4 + (-1)) - 1).toNat = (gi I 37 ((x4 + (-1)) - 1).toNat) from rfl) ?_
          refine st_i2l (pc' := 185) dX9_run_184 rfl (gi_in _ _ _) ?_
          refine st_aload_n (pc' := 186) dX9_run_185 rfl rfl (j := 2) rfl ?_
          refine G_X9_9_36 dX9_run_186 (pc' := 189) rfl rfl ?_
          refine st_iload (pc' := 191) dX9_run_189 rfl (j := 0) rfl ?_
          obtain ⟨e6, h⟩ := h
          refine st_iaload (pc' := 192) (v := (gi I 37 (x4 + (-1)).toNat)) dX9_run_191 rfl L_37 (by decide) e6 (show gi I 37 (x4 + (-1)).toNat = (gi I 37 (x4 + (-1)).toNat) from rfl) ?_
          refine st_i2l (pc' := 193) dX9_run_192 rfl (gi_in _ _ _) ?_
          refine st_callS (pc' := 196) (kc := k - 1) (E' := LAY) (cal := m_X9_join) (n := 3) (as := [vI (gi I 16 (x5).toNat), vL (gi I 37 ((x4 + (-1)) - 1).toNat), vL (gi I 37 (x4 + (-1)).toNat)]) (S := [vI ((x4 + (-1)) - 1), vR (some 37)]) dX9_run_193 rfl l_X9_107 k_X9_join rfl rfl (Nat.le_of_ble_eq_true rfl) (by omega) ⟨Nat.le_refl _, Nat.le_refl _, Nat.le_refl _, Nat.le_refl _⟩ h (fun r M' q => ?_)
          obtain ⟨v7, I8, J9, rfl, rfl, h⟩ := q
          change WP _ LAY m_X9_run 196 [(4, vI (x4 + (-1))), (6, vI (gi I 16 (x5).toNat)), (0, vR (some 36)), (2, vR (some 16)), (3, vI x3), (5, vI x5)] [vI v7, vI ((x4 + (-1)) - 1), vR (some 37)] (mem (P, some 5, some 22) I8 J9) Q
          refine st_iastore (pc' := 197) (M' := (mem (P, some 5, some 22) (si I8 37 ((x4 + (-1)) - 1).toNat v7) J9)) dX9_run_196 rfl L_37 (by decide) e5 rfl ?_
          refine st_iinc (pc' := 200) (L' := [(5, vI (x5 + 1)), (4, vI (x4 + (-1))), (6, vI (gi I 16 (x5).toNat)), (0, vR (some 36)), (2, vR (some 16)), (3, vI x3)]) (j := 5) dX9_run_197 rfl (by decide) rfl rfl ?_
          refine st_goto (pc' := 53) dX9_run_200 (by decide) ?_
          refine WP_sub (L' := [(0, vR (some 36)), (2, vR (some 16)), (3, vI x3), (4, vI (x4 + (-1))), (5, vI (x5 + 1))]) [3, 4, 5, 1, 0] rfl ?_
          exact h
      · replace h := h.2 c
        refine st_iload (pc' := 130) dX9_run_128 rfl (j := 4) rfl ?_
        obtain ⟨e10, h⟩ := h
        refine st_if_le (tg := 197) (pc' := 133) dX9_run_130 (by decide) rfl e10 (fun c => ?_) (fun c => ?_)
        · replace h := h.1 c
          refine st_iinc (pc' := 200) (L' := [(5, vI (x5 + 1)), (6, vI (gi I 16 (x5).toNat)), (0, vR (some 36)), (2, vR (some 16)), (3, vI x3), (4, vI x4)]) (j := 5) dX9_run_197 rfl (by decide) rfl rfl ?_
          refine st_goto (pc' := 53) dX9_run_200 (by decide) ?_
          refine WP_sub (L' := [(0, vR (some 36)), (2, vR (some 16)), (3, vI x3), (4, vI x4), (5, vI (x5 + 1))]) [2, 3, 4, 5, 0] rfl ?_
          exact h
        · replace h := h.2 c
          refine st_aload_n (pc' := 134) dX9_run_133 rfl rfl (j := 1) rfl ?_
          refine G_X9_9_36 dX9_run_134 (pc' := 137) rfl rfl ?_
          refine st_iload (pc' := 139) dX9_run_137 rfl (j := 4) rfl ?_
          refine st_iconst (pc' := 140) dX9_run_139 rfl ?_
          refine st_isub (pc' := 141) dX9_run_140 rfl ?_
          refine st_iconst (pc' := 142) dX9_run_141 rfl ?_
          refine st_aload_n (pc' := 143) dX9_run_142 rfl rfl (j := 1) rfl ?_
          refine G_X9_9_36 dX9_run_143 (pc' := 146) rfl rfl ?_
          refine st_iload (pc' := 148) dX9_run_146 rfl (j := 4) rfl ?_
          refine st_iconst (pc' := 149) dX9_run_148 rfl ?_
          refine st_isub (pc' := 150) dX9_run_149 rfl ?_
          obtain ⟨e11, h⟩ := h
          refine st_iaload (pc' := 151) (v := (gi I 37 (x4 - 1).toNat)) dX9_run_150 rfl L_37 (by decide) e11 (show gi I 37 (x4 - 1).toNat = (gi I 37 (x4 - 1).toNat) from rfl) ?_
          refine st_isub (pc' := 152) dX9_run_151 rfl ?_
          refine st_iastore (pc' := 153) (M' := (mem (P, some 5, some 22) (si I 37 (x4 - 1).toNat (1 - (gi I 37 (x4 - 1).toNat))) J)) dX9_run_152 rfl L_37 (by decide) e11 rfl ?_
          refine st_goto (pc' := 197) dX9_run_153 (by decide) ?_
          refine st_iinc (pc' := 200) (L' := [(5, vI (x5 + 1)), (6, vI (gi I 16 (x5).toNat)), (0, vR (some 36)), (2, vR (some 16)), (3, vI x3), (4, vI x4)]) (j := 5) dX9_run_197 rfl (by decide) rfl rfl ?_
          refine st_goto (pc' := 53) dX9_run_200 (by decide) ?_
          refine WP_sub (L' := [(0, vR (some 36)), (2, vR (some 16)), (3, vI x3), (4, vI x4), (5, vI (x5 + 1))]) [2, 3, 4, 5, 0] rfl ?_
          exact h
    · replace h := h.2 c
      refine st_iload (pc' := 75) dX9_run_73 rfl (j := 4) rfl ?_
      refine st_aload_n (pc' := 76) dX9_run_75 rfl rfl (j := 1) rfl ?_
      refine G_X9_9_36 dX9_run_76 (pc' := 79) rfl rfl ?_
      refine st_alenI (pc' := 80) (z := 64) dX9_run_79 rfl L_37 (by decide) ?_
      obtain ⟨e12, h⟩ := h
      refine st_icmp_ge (tg := 197) (pc' := 83) dX9_run_80 (by decide) rfl e12 (by decide) (fun c => ?_) (fun c => ?_)
      · replace h := h.1 c
        refine st_iinc (pc' := 200) (L' := [(5, vI (x5 + 1)), (6, vI (gi I 16 (x5).toNat)), (0, vR (some 36)), (2, vR (some 16)), (3, vI x3), (4, vI x4)]) (j := 5) dX9_run_197 rfl (by decide) rfl rfl ?_
        refine st_goto (pc' := 53) dX9_run_200 (by decide) ?_
        refine WP_sub (L' := [(0, vR (some 36)), (2, vR (some 16)), (3, vI x3), (4, vI x4), (5, vI (x5 + 1))]) [2, 3, 4, 5, 0] rfl ?_
        exact h
      · replace h := h.2 c
        refine st_aload_n (pc' := 84) dX9_run_83 rfl rfl (j := 1) rfl ?_
        refine G_X9_9_36 dX9_run_84 (pc' := 87) rfl rfl ?_
        refine st_iload (pc' := 89) dX9_run_87 rfl (j := 4) rfl ?_
        refine st_iload (pc' := 91) dX9_run_89 rfl (j := 0) rfl ?_
        refine st_sipush (pc' := 94) dX9_run_91 rfl (by decide) ?_
        refine st_icmp_ge (tg := 102) (pc' := 97) dX9_run_94 (by decide) rfl (gi_in _ _ _) (by decide) (fun c => ?_) (fun c => ?_)
        · replace h := h.1 c
          refine st_aload_n (pc' := 103) dX9_run_102 rfl rfl (j := 1) rfl ?_
          refine G_X9_15_36 dX9_run_103 (pc' := 106) rfl rfl ?_
          refine st_iload (pc' := 108) dX9_run_106 rfl (j := 0) rfl ?_
          refine st_sipush (pc' := 111) dX9_run_108 rfl (by decide) ?_
          refine st_isub (pc' := 112) dX9_run_111 rfl ?_
          obtain ⟨e13, h⟩ := h
          refine st_iaload (pc' := 113) (v := (gi I 38 ((gi I 16 (x5).toNat) - 10000).toNat)) dX9_run_112 rfl L_38 (by decide) e13 (show gi I 38 ((gi I 16 (x5).toNat) - 10000).toNat = (gi I 38 ((gi I 16 (x5).toNat) - 10000).toNat) from rfl) ?_
          obtain ⟨e14, h⟩ := h
          refine st_iastore (pc' := 114) (M' := (mem (P, some 5, some 22) (si I 37 (x4).toNat (gi I 38 ((gi I 16 (x5).toNat) - 10000).toNat)) J)) dX9_run_113 rfl L_37 (by decide) e14 rfl ?_
          refine st_iinc (pc' := 117) (L' := [(4, vI (x4 + 1)), (6, vI (gi I 16 (x5).toNat)), (0, vR (some 36)), (2, vR (some 16)), (3, vI x3), (5, vI x5)]) (j := 4) dX9_run_114 rfl (by decide) rfl rfl ?_
          refine st_goto (pc' := 197) dX9_run_117 (by decide) ?_
          refine st_iinc (pc' := 200) (L' := [(5, vI (x5 + 1)), (4, vI (x4 + 1)), (6, vI (gi I 16 (x5).toNat)), (0, vR (some 36)), (2, vR (some 16)), (3, vI x3)]) (j := 5) dX9_run_197 rfl (by decide) rfl rfl ?_
          refine st_goto (pc' := 53) dX9_run_200 (by decide) ?_
          refine WP_sub (L' := [(0, vR (some 36)), (2, vR (some 16)), (3, vI x3), (4, vI (x4 + 1)), (5, vI (x5 + 1))]) [3, 4, 5, 1, 0] rfl ?_
          exact h
        · replace h := h.2 c
          refine st_iload (pc' := 99) dX9_run_97 rfl (j := 0) rfl ?_
          refine st_goto (pc' := 113) dX9_run_99 (by decide) ?_
          obtain ⟨e15, h⟩ := h
          refine st_iastore (pc' := 114) (M' := (mem (P, some 5, some 22) (si I 37 (x4).toNat (gi I 16 (x5).toNat)) J)) dX9_run_113 rfl L_37 (by decide) e15 rfl ?_
          refine st_iinc (pc' := 117) (L' := [(4, vI (x4 + 1)), (6, vI (gi I 16 (x5).toNat)), (0, vR (some 36)), (2, vR (some 16)), (3, vI x3), (5, vI x5)]) (j := 4) dX9_run_114 rfl (by decide) rfl rfl ?_
          refine st_goto (pc' := 197) dX9_run_117 (by decide) ?_
          refine st_iinc (pc' := 200) (L' := [(5, vI (x5 + 1)), (4, vI (x4 + 1)), (6, vI (gi I 16 (x5).toNat)), (0, vR (some 36)), (2, vR (some 16)), (3, vI x3)]) (j := 5) dX9_run_197 rfl (by decide) rfl rfl ?_
          refine st_goto (pc' := 53) dX9_run_200 (by decide) ?_
          refine WP_sub (L' := [(0, vR (some 36)), (2, vR (some 16)), (3, vI x3), (4, vI (x4 + 1)), (5, vI (x5 + 1))]) [3, 4, 5, 1, 0] rfl ?_
          exact h
set_option maxRecDepth 20000 in
set_option maxHeartbeats 4000000 in
theorem B_X9_pageMinutes_0 {k : Nat} {P : Option Nat} {I : Nat → Nat → Int32} {J : Nat → Nat → Int64} {x1 : Int} {Q : Option AV → Mem → Prop} (hk : 1 ≤ k) (h : ((0 < gi I 18 (1 : Int).toNat) → ((0 ≤ x1 ∧ x1 < 14) ∧ (WPm (k - 1) LAY m_X9_run [vR (some 36), vI 1] (mem (P, some 5, some 22) (si (si I 38 3 (gi I 9 (x1).toNat)) 38 15 (gi I 10 (x1).toNat)) J) (retI (fun v2 I3 J4 => inR v2 ∧ (Q (some (vI (max 1 (min 500 v2)))) (mem (P, some 5, some 22) I3 J4))) (P, some 5, some 22))))) ∧ (¬ (0 < gi I 18 (1 : Int).toNat) → ((0 ≤ x1 ∧ x1 < 14) ∧ (Q (some (vI (gi I 9 (x1).toNat))) (mem (P, some 5, some 22) I J))))) : WP k LAY m_X9_pageMinutes 0 [(0, vR (some 36)), (1, vI x1)] [] (mem (P, some 5, some 22) I J) Q := by
  refine st_aload_n (pc' := 1) dX9_pageMinutes_0 rfl rfl (j := 0) rfl ?_
  refine G_X9_18_36 dX9_pageMinutes_1 (pc' := 4) rfl rfl ?_
  refine G_X9_28_4 dX9_pageMinutes_4 (pc' := 7) rfl rfl ?_
  refine st_iconst (pc' := 8) dX9_pageMinutes_7 rfl ?_
  refine st_callV (pc' := 11) (kc := k - 1) (E' := LAY) (cal := m_X7_hasRule) (n := 1) (as := [vI 1]) (S := []) dX9_pageMinutes_8 rfl l_X9_66 k_X7_hasRule rfl L_5 c_X7 rfl rfl (Nat.le_of_ble_eq_true rfl) (by omega) ⟨Nat.le_refl _, Nat.le_refl _, Nat.le_refl _, Nat.le_refl _⟩ (Q1 := fun r M' => WP k LAY m_X9_pageMinutes 11 [(0, vR (some 36)), (1, vI x1)] (r.toList ++ []) M' Q) (S_X7_hasRule_5 (by omega) (by decide) ?_) (fun r M' q => q)
  change WP _ LAY m_X9_pageMinutes 11 [(0, vR (some 36)), (1, vI x1)] [vI (b2i (0 < gi I 18 (1 : Int).toNat))] (mem (P, some 5, some 22) I J) Q
  refine st_if_ne (tg := 27) (pc' := 14) dX9_pageMinutes_11 (by decide) rfl (b2i_in _) (fun c => ?_) (fun c => ?_)
  · replace h := h.1 (b2i_t.mp c)
    refine st_aload_n (pc' := 28) dX9_pageMinutes_27 rfl rfl (j := 0) rfl ?_
    refine st_iload_n (pc' := 29) dX9_pageMinutes_28 rfl rfl (j := 1) rfl ?_
    refine st_callV (pc' := 32) (kc := k - 1) (E' := LAY) (cal := m_X9_setPage) (n := 1) (as := [vI x1]) (S := []) dX9_pageMinutes_29 rfl l_X9_84 k_X9_setPage rfl L_36 c_X9 rfl rfl (Nat.le_of_ble_eq_true rfl) (by omega) ⟨Nat.le_refl _, Nat.le_refl _, Nat.le_refl _, Nat.le_refl _⟩ (Q1 := fun r M' => WP k LAY m_X9_pageMinutes 32 [(0, vR (some 36)), (1, vI x1)] (r.toList ++ []) M' Q) (WPm.of k_X9_setPage.1 (Nat.le_of_ble_eq_true rfl) (B_X9_setPage_0 (by omega) ?_)) (fun r M' q => q)
    obtain ⟨e1, h⟩ := h
    refine ⟨e1, ?_⟩
    change WP _ LAY m_X9_pageMinutes 32 [(0, vR (some 36)), (1, vI x1)] [] (mem (P, some 5, some 22) (si (si I 38 3 (gi I 9 (x1).toNat)) 38 15 (gi I 10 (x1).toNat)) J) Q
    refine st_iconst (pc' := 33) dX9_pageMinutes_32 rfl ?_
    refine st_sipush (pc' := 36) dX9_pageMinutes_33 rfl (by decide) ?_
    refine st_aload_n (pc' := 37) dX9_pageMinutes_36 rfl rfl (j := 0) rfl ?_
    refine st_iconst (pc' := 38) dX9_pageMinutes_37 rfl ?_
    refine st_callV (pc' := 41) (kc := k - 1) (E' := LAY) (cal := m_X9_run) (n := 1) (as := [vI 1]) (S := [vI 500, vI 1]) dX9_pageMinutes_38 rfl l_X9_70 k_X9_run rfl L_36 c_X9 rfl rfl (Nat.le_of_ble_eq_true rfl) (by omega) ⟨Nat.le_refl _, Nat.le_refl _, Nat.le_refl _, Nat.le_refl _⟩ h (fun r M' q => ?_)
    obtain ⟨v2, I3, J4, rfl, rfl, h⟩ := q
    change WP _ LAY m_X9_pageMinutes 41 [(0, vR (some 36)), (1, vI x1)] [vI v2, vI 500, vI 1] (mem (P, some 5, some 22) I3 J4) Q
    obtain ⟨e5, h⟩ := h
    refine st_callS (pc' := 44) (kc := k - 1) (E' := LAY) (cal := m_J9_min_7cf53) (n := 2) (as := [vI 500, vI v2]) (S := [vI 1]) dX9_pageMinutes_41 rfl l_X9_73 k_J9_min_7cf53 rfl rfl (Nat.le_of_ble_eq_true rfl) (by omega) ⟨Nat.le_refl _, Nat.le_refl _, Nat.le_refl _, Nat.le_refl _⟩ (Q1 := fun r M' => WP k LAY m_X9_pageMinutes 44 [(0, vR (some 36)), (1, vI x1)] (r.toList ++ [vI 1]) M' Q) (S_J9_min (by omega) (by decide) e5 ?_) (fun r M' q => q)
    change WP _ LAY m_X9_pageMinutes 44 [(0, vR (some 36)), (1, vI x1)] [vI (min 500 v2), vI 1] (mem (P, some 5, some 22) I3 J4) Q
    refine st_callS (pc' := 47) (kc := k - 1) (E' := LAY) (cal := m_J9_max_7cf53) (n := 2) (as := [vI 1, vI (min 500 v2)]) (S := []) dX9_pageMinutes_44 rfl l_X9_78 k_J9_max_7cf53 rfl rfl (Nat.le_of_ble_eq_true rfl) (by omega) ⟨Nat.le_refl _, Nat.le_refl _, Nat.le_refl _, Nat.le_refl _⟩ (Q1 := fun r M' => WP k LAY m_X9_pageMinutes 47 [(0, vR (some 36)), (1, vI x1)] (r.toList ++ []) M' Q) (S_J9_max (by omega) (by decide) (min_in (by decide) e5) ?_) (fun r M' q => q)
    change WP _ LAY m_X9_pageMinutes 47 [(0, vR (some 36)), (1, vI x1)] [vI (max 1 (min 500 v2))] (mem (P, some 5, some 22) I3 J4) Q
    exact st_iret (ty := .int) dX9_pageMinutes_47 rfl rfl rfl h
  · replace h := h.2 (b2i_f.mp c)
    refine st_aload_n (pc' := 15) dX9_pageMinutes_14 rfl rfl (j := 0) rfl ?_
    refine G_X9_18_36 dX9_pageMinutes_15 (pc' := 18) rfl rfl ?_
    refine G_X9_28_4 dX9_pageMinutes_18 (pc' := 21) rfl rfl ?_
    refine G_X9_81_5 dX9_pageMinutes_21 (pc' := 24) rfl rfl ?_
    refine st_iload_n (pc' := 25) dX9_pageMinutes_24 rfl rfl (j := 1) rfl ?_
    obtain ⟨e6, h⟩ := h
    refine st_iaload (pc' := 26) (v := (gi I 9 (x1).toNat)) dX9_pageMinutes_25 rfl L_9 (by decide) e6 (show gi I 9 (x1).toNat = (gi I 9 (x1).toNat) from rfl) ?_
    exact st_iret (ty := .int) dX9_pageMinutes_26 rfl rfl rfl h
set_option maxRecDepth 20000 in
set_option maxHeartbeats 4000000 in
theorem B_X9_setNow_0 {k : Nat} {P : Option Nat} {I : Nat → Nat → Int32} {J : Nat → Nat → Int64} {x1 : Int} {Q : Option AV → Mem → Prop} (hk : 2 ≤ k) (h : (0 ≤ ((3 + (x1 * 14)) + 0) ∧ ((3 + (x1 * 14)) + 0) < 87) ∧ ((0 ≤ (gi I 19 ((3 + (x1 * 14)) + 0).toNat) ∧ (gi I 19 ((3 + (x1 * 14)) + 0).toNat) < 5) ∧ (WPm (k - 1) LAY m_X2_sittingAt [vR (some 4), vI (gi I 19 ((3 + (x1 * 14)) + 0).toNat)] (mem (P, some 5, some 22) I J) (retI (fun v3 I4 J5 => (0 ≤ ((3 + (x1 * 14)) + 1) ∧ ((3 + (x1 * 14)) + 1) < 87) ∧ ((0 ≤ ((3 + (x1 * 14)) + 2) ∧ ((3 + (x1 * 14)) + 2) < 87) ∧ ((0 ≤ x1 ∧ x1 < 6) ∧ (Q none (mem (P, some 5, some 22) (si (si (si (si (si (si (si I4 38 7 (gi I4 13 (x1).toNat)) 38 8 (gi I4 14 (x1).toNat)) 38 16 (bc32 (or32 (gi I4 19 ((3 + (x1 * 14)) + 1).toNat) (gi I4 19 ((3 + (x1 * 14)) + 2).toNat)))) 38 10 (gi I 15 (gi I 19 ((3 + (x1 * 14)) + 0).toNat).toNat)) 38 17 v3) 38 11 (gi I4 5 15)) 38 18 (gi I4 19 0)) J5))))) (P, some 5, some 22))))) : WP k LAY m_X9_setNow 0 [(0, vR (some 36)), (1, vI x1)] [] (mem (P, some 5, some 22) I J) Q := by
  refine st_aload_n (pc' := 1) dX9_setNow_0 rfl rfl (j := 0) rfl ?_
  refine G_X9_18_36 dX9_setNow_1 (pc' := 4) rfl rfl ?_
  refine st_iload_n (pc' := 5) dX9_setNow_4 rfl rfl (j := 1) rfl ?_
  refine st_iconst (pc' := 6) dX9_setNow_5 rfl ?_
  refine st_callV (pc' := 9) (kc := k - 1) (E' := LAY) (cal := m_X2_of) (n := 2) (as := [vI x1, vI 0]) (S := []) dX9_setNow_6 rfl l_X9_22 k_X2_of rfl L_4 c_X2 rfl rfl (Nat.le_of_ble_eq_true rfl) (by omega) ⟨Nat.le_refl _, Nat.le_refl _, Nat.le_refl _, Nat.le_refl _⟩ (Q1 := fun r M' => WP k LAY m_X9_setNow 9 [(0, vR (some 36)), (1, vI x1)] (r.toList ++ []) M' Q) (WPm.of k_X2_of.1 (Nat.le_of_ble_eq_true rfl) (B_X2_of_0 (by omega) ?_)) (fun r M' q => q)
  obtain ⟨e1, h⟩ := h
  refine ⟨e1, ?_⟩
  change WP _ LAY m_X9_setNow 9 [(0, vR (some 36)), (1, vI x1)] [vI (gi I 19 ((3 + (x1 * 14)) + 0).toNat)] (mem (P, some 5, some 22) I J) Q
  refine st_istore_n (pc' := 10) (L' := [(2, vI (gi I 19 ((3 + (x1 * 14)) + 0).toNat)), (0, vR (some 36)), (1, vI x1)]) dX9_setNow_9 rfl rfl (by decide) rfl ?_
  refine st_aload_n (pc' := 11) dX9_setNow_10 rfl rfl (j := 1) rfl ?_
  refine st_iload_n (pc' := 12) dX9_setNow_11 rfl rfl (j := 2) rfl ?_
  refine st_aload_n (pc' := 13) dX9_setNow_12 rfl rfl (j := 1) rfl ?_
  refine G_X9_18_36 dX9_setNow_13 (pc' := 16) rfl rfl ?_
  refine G_X9_28_4 dX9_setNow_16 (pc' := 19) rfl rfl ?_
  refine G_X9_32_5 dX9_setNow_19 (pc' := 22) rfl rfl ?_
  refine st_iload_n (pc' := 23) dX9_setNow_22 rfl rfl (j := 0) rfl ?_
  obtain ⟨e2, h⟩ := h
  refine st_iaload (pc' := 24) (v := (gi I 15 (gi I 19 ((3 + (x1 * 14)) + 0).toNat).toNat)) dX9_setNow_23 rfl L_15 (by decide) e2 (show gi I 15 (gi I 19 ((3 + (x1 * 14)) + 0).toNat).toNat = (gi I 15 (gi I 19 ((3 + (x1 * 14)) + 0).toNat).toNat) from rfl) ?_
  refine st_aload_n (pc' := 25) dX9_setNow_24 rfl rfl (j := 1) rfl ?_
  refine G_X9_18_36 dX9_setNow_25 (pc' := 28) rfl rfl ?_
  refine st_iload_n (pc' := 29) dX9_setNow_28 rfl rfl (j := 0) rfl ?_
  refine st_callV (pc' := 32) (kc := k - 1) (E' := LAY) (cal := m_X2_sittingAt) (n := 1) (as := [vI (gi I 19 ((3 + (x1 * 14)) + 0).toNat)]) (S := [vI (gi I 15 (gi I 19 ((3 + (x1 * 14)) + 0).toNat).toNat), vI x1, vR (some 36)]) dX9_setNow_29 rfl l_X9_37 k_X2_sittingAt rfl L_4 c_X2 rfl rfl (Nat.le_of_ble_eq_true rfl) (by omega) ⟨Nat.le_refl _, Nat.le_refl _, Nat.le_refl _, Nat.le_refl _⟩ h (fun r M' q => ?_)
  obtain ⟨v3, I4, J5, rfl, rfl, h⟩ := q
  change WP _ LAY m_X9_setNow 32 [(2, vI (gi I 19 ((3 + (x1 * 14)) + 0).toNat)), (0, vR (some 36)), (1, vI x1)] [vI v3, vI (gi I 15 (gi I 19 ((3 + (x1 * 14)) + 0).toNat).toNat), vI x1, vR (some 36)] (mem (P, some 5, some 22) I4 J5) Q
  refine st_aload_n (pc' := 33) dX9_setNow_32 rfl rfl (j := 1) rfl ?_
  refine G_X9_18_36 dX9_setNow_33 (pc' := 36) rfl rfl ?_
  refine st_iload_n (pc' := 37) dX9_setNow_36 rfl rfl (j := 2) rfl ?_
  refine st_callV (pc' := 40) (kc := k - 1) (E' := LAY) (cal := m_X2_known) (n := 1) (as := [vI x1]) (S := [vI v3, vI (gi I 15 (gi I 19 ((3 + (x1 * 14)) + 0).toNat).toNat), vI x1, vR (some 36)]) dX9_setNow_37 rfl l_X9_41 k_X2_known rfl L_4 c_X2 rfl rfl (Nat.le_of_ble_eq_true rfl) (by omega) ⟨Nat.le_refl _, Nat.le_refl _, Nat.le_refl _, Nat.le_refl _⟩ (Q1 := fun r M' => WP k LAY m_X9_setNow 40 [(2, vI (gi I 19 ((3 + (x1 * 14)) + 0).toNat)), (0, vR (some 36)), (1, vI x1)] (r.toList ++ [vI v3, vI (gi I 15 (gi I 19 ((3 + (x1 * 14)) + 0).toNat).toNat), vI x1, vR (some 36)]) M' Q) (WPm.of k_X2_known.1 (Nat.le_of_ble_eq_true rfl) (B_X2_known_0 (by omega) ?_)) (fun r M' q => q)
  obtain ⟨e6, h⟩ := h
  refine ⟨e6, ?_⟩
  obtain ⟨e7, h⟩ := h
  refine ⟨e7, ?_⟩
  change WP _ LAY m_X9_setNow 40 [(2, vI (gi I 19 ((3 + (x1 * 14)) + 0).toNat)), (0, vR (some 36)), (1, vI x1)] [vI (or32 (gi I4 19 ((3 + (x1 * 14)) + 1).toNat) (gi I4 19 ((3 + (x1 * 14)) + 2).toNat)), vI v3, vI (gi I 15 (gi I 19 ((3 + (x1 * 14)) + 0).toNat).toNat), vI x1, vR (some 36)] (mem (P, some 5, some 22) I4 J5) Q
  refine st_callS (pc' := 43) (kc := k - 1) (E' := LAY) (cal := m_J6_bitCount_0f7a4) (n := 1) (as := [vI (or32 (gi I4 19 ((3 + (x1 * 14)) + 1).toNat) (gi I4 19 ((3 + (x1 * 14)) + 2).toNat))]) (S := [vI v3, vI (gi I 15 (gi I 19 ((3 + (x1 * 14)) + 0).toNat).toNat), vI x1, vR (some 36)]) dX9_setNow_40 rfl l_X9_44 k_J6_bitCount_0f7a4 rfl rfl (Nat.le_of_ble_eq_true rfl) (by omega) ⟨Nat.le_refl _, Nat.le_refl _, Nat.le_refl _, Nat.le_refl _⟩ (Q1 := fun r M' => WP k LAY m_X9_setNow 43 [(2, vI (gi I 19 ((3 + (x1 * 14)) + 0).toNat)), (0, vR (some 36)), (1, vI x1)] (r.toList ++ [vI v3, vI (gi I 15 (gi I 19 ((3 + (x1 * 14)) + 0).toNat).toNat), vI x1, vR (some 36)]) M' Q) (S_J6_bitCount (by omega)  ?_) (fun r M' q => q)
  change WP _ LAY m_X9_setNow 43 [(2, vI (gi I 19 ((3 + (x1 * 14)) + 0).toNat)), (0, vR (some 36)), (1, vI x1)] [vI (bc32 (or32 (gi I4 19 ((3 + (x1 * 14)) + 1).toNat) (gi I4 19 ((3 + (x1 * 14)) + 2).toNat))), vI v3, vI (gi I 15 (gi I 19 ((3 + (x1 * 14)) + 0).toNat).toNat), vI x1, vR (some 36)] (mem (P, some 5, some 22) I4 J5) Q
  refine st_callV (pc' := 46) (kc := k - 1) (E' := LAY) (cal := m_X9_setAt) (n := 4) (as := [vI x1, vI (gi I 15 (gi I 19 ((3 + (x1 * 14)) + 0).toNat).toNat), vI v3, vI (bc32 (or32 (gi I4 19 ((3 + (x1 * 14)) + 1).toNat) (gi I4 19 ((3 + (x1 * 14)) + 2).toNat)))]) (S := []) dX9_setNow_43 rfl l_X9_49 k_X9_setAt rfl L_36 c_X9 rfl rfl (Nat.le_of_ble_eq_true rfl) (by omega) ⟨Nat.le_refl _, Nat.le_refl _, Nat.le_refl _, Nat.le_refl _⟩ (Q1 := fun r M' => WP k LAY m_X9_setNow 46 [(2, vI (gi I 19 ((3 + (x1 * 14)) + 0).toNat)), (0, vR (some 36)), (1, vI x1)] (r.toList ++ []) M' Q) (WPm.of k_X9_setAt.1 (Nat.le_of_ble_eq_true rfl) (B_X9_setAt_0 (by omega) ?_)) (fun r M' q => q)
  obtain ⟨e8, h⟩ := h
  refine ⟨e8, ?_⟩
  change WP _ LAY m_X9_setNow 46 [(2, vI (gi I 19 ((3 + (x1 * 14)) + 0).toNat)), (0, vR (some 36)), (1, vI x1)] [] (mem (P, some 5, some 22) (si (si (si (si (si (si (si I4 38 7 (gi I4 13 (x1).toNat)) 38 8 (gi I4 14 (x1).toNat)) 38 16 (bc32 (or32 (gi I4 19 ((3 + (x1 * 14)) + 1).toNat) (gi I4 19 ((3 + (x1 * 14)) + 2).toNat)))) 38 10 (gi I 15 (gi I 19 ((3 + (x1 * 14)) + 0).toNat).toNat)) 38 17 v3) 38 11 (gi I4 5 15)) 38 18 (gi I4 19 0)) J5) Q
  exact st_vret dX9_setNow_46 rfl rfl h
set_option maxRecDepth 20000 in
set_option maxHeartbeats 4000000 in
theorem B_X9_inchMinutes_0 {k : Nat} {P : Option Nat} {I : Nat → Nat → Int32} {J : Nat → Nat → Int64}  {Q : Option AV → Mem → Prop} (hk : 1 ≤ k) (h : ((0 < gi I 18 (0 : Int).toNat) → (WPm (k - 1) LAY m_X9_run [vR (some 36), vI 0] (mem (P, some 5, some 22) (si (si I 38 3 0) 38 15 0) J) (retI (fun v1 I2 J3 => inR v1 ∧ (Q (some (vI (max 0 (min 500 v1)))) (mem (P, some 5, some 22) I2 J3))) (P, some 5, some 22)))) ∧ (¬ (0 < gi I 18 (0 : Int).toNat) → (Q (some (vI (gi I 5 15))) (mem (P, some 5, some 22) I J)))) : WP k LAY m_X9_inchMinutes 0 [(0, vR (some 36))] [] (mem (P, some 5, some 22) I J) Q := by
  refine st_aload_n (pc' := 1) dX9_inchMinutes_0 rfl rfl (j := 0) rfl ?_
  refine G_X9_18_36 dX9_inchMinutes_1 (pc' := 4) rfl rfl ?_
  refine G_X9_28_4 dX9_inchMinutes_4 (pc' := 7) rfl rfl ?_
  refine st_iconst (pc' := 8) dX9_inchMinutes_7 rfl ?_
  refine st_callV (pc' := 11) (kc := k - 1) (E' := LAY) (cal := m_X7_hasRule) (n := 1) (as := [vI 0]) (S := []) dX9_inchMinutes_8 rfl l_X9_66 k_X7_hasRule rfl L_5 c_X7 rfl rfl (Nat.le_of_ble_eq_true rfl) (by omega) ⟨Nat.le_refl _, Nat.le_refl _, Nat.le_refl _, Nat.le_refl _⟩ (Q1 := fun r M' => WP k LAY m_X9_inchMinutes 11 [(0, vR (some 36))] (r.toList ++ []) M' Q) (S_X7_hasRule_5 (by omega) (by decide) ?_) (fun r M' q => q)
  change WP _ LAY m_X9_inchMinutes 11 [(0, vR (some 36))] [vI (b2i (0 < gi I 18 (0 : Int).toNat))] (mem (P, some 5, some 22) I J) Q
  refine st_if_ne (tg := 25) (pc' := 14) dX9_inchMinutes_11 (by decide) rfl (b2i_in _) (fun c => ?_) (fun c => ?_)
  · replace h := h.1 (b2i_t.mp c)
    refine st_aload_n (pc' := 26) dX9_inchMinutes_25 rfl rfl (j := 0) rfl ?_
    refine G_X9_15_36 dX9_inchMinutes_26 (pc' := 29) rfl rfl ?_
    refine st_iconst (pc' := 30) dX9_inchMinutes_29 rfl ?_
    refine st_iconst (pc' := 31) dX9_inchMinutes_30 rfl ?_
    refine st_iastore (pc' := 32) (M' := (mem (P, some 5, some 22) (si I 38 3 0) J)) dX9_inchMinutes_31 rfl L_38 (by decide) (by decide) rfl ?_
    refine st_aload_n (pc' := 33) dX9_inchMinutes_32 rfl rfl (j := 0) rfl ?_
    refine G_X9_15_36 dX9_inchMinutes_33 (pc' := 36) rfl rfl ?_
    refine st_bipush (pc' := 38) dX9_inchMinutes_36 rfl (by decide) ?_
    refine st_iconst (pc' := 39) dX9_inchMinutes_38 rfl ?_
    refine st_iastore (pc' := 40) (M' := (mem (P, some 5, some 22) (si (si I 38 3 0) 38 15 0) J)) dX9_inchMinutes_39 rfl L_38 (by decide) (by decide) rfl ?_
    refine st_iconst (pc' := 41) dX9_inchMinutes_40 rfl ?_
    refine st_sipush (pc' := 44) dX9_inchMinutes_41 rfl (by decide) ?_
    refine st_aload_n (pc' := 45) dX9_inchMinutes_44 rfl rfl (j := 0) rfl ?_
    refine st_iconst (pc' := 46) dX9_inchMinutes_45 rfl ?_
    refine st_callV (pc' := 49) (kc := k - 1) (E' := LAY) (cal := m_X9_run) (n := 1) (as := [vI 0]) (S := [vI 500, vI 0]) dX9_inchMinutes_46 rfl l_X9_70 k_X9_run rfl L_36 c_X9 rfl rfl (Nat.le_of_ble_eq_true rfl) (by omega) ⟨Nat.le_refl _, Nat.le_refl _, Nat.le_refl _, Nat.le_refl _⟩ h (fun r M' q => ?_)
    obtain ⟨v1, I2, J3, rfl, rfl, h⟩ := q
    change WP _ LAY m_X9_inchMinutes 49 [(0, vR (some 36))] [vI v1, vI 500, vI 0] (mem (P, some 5, some 22) I2 J3) Q
    obtain ⟨e4, h⟩ := h
    refine st_callS (pc' := 52) (kc := k - 1) (E' := LAY) (cal := m_J9_min_7cf53) (n := 2) (as := [vI 500, vI v1]) (S := [vI 0]) dX9_inchMinutes_49 rfl l_X9_73 k_J9_min_7cf53 rfl rfl (Nat.le_of_ble_eq_true rfl) (by omega) ⟨Nat.le_refl _, Nat.le_refl _, Nat.le_refl _, Nat.le_refl _⟩ (Q1 := fun r M' => WP k LAY m_X9_inchMinutes 52 [(0, vR (some 36))] (r.toList ++ [vI 0]) M' Q) (S_J9_min (by omega) (by decide) e4 ?_) (fun r M' q => q)
    change WP _ LAY m_X9_inchMinutes 52 [(0, vR (some 36))] [vI (min 500 v1), vI 0] (mem (P, some 5, some 22) I2 J3) Q
    refine st_callS (pc' := 55) (kc := k - 1) (E' := LAY) (cal := m_J9_max_7cf53) (n := 2) (as := [vI 0, vI (min 500 v1)]) (S := []) dX9_inchMinutes_52 rfl l_X9_78 k_J9_max_7cf53 rfl rfl (Nat.le_of_ble_eq_true rfl) (by omega) ⟨Nat.le_refl _, Nat.le_refl _, Nat.le_refl _, Nat.le_refl _⟩ (Q1 := fun r M' => WP k LAY m_X9_inchMinutes 55 [(0, vR (some 36))] (r.toList ++ []) M' Q) (S_J9_max (by omega) (by decide) (min_in (by decide) e4) ?_) (fun r M' q => q)
    change WP _ LAY m_X9_inchMinutes 55 [(0, vR (some 36))] [vI (max 0 (min 500 v1))] (mem (P, some 5, some 22) I2 J3) Q
    exact st_iret (ty := .int) dX9_inchMinutes_55 rfl rfl rfl h
  · replace h := h.2 (b2i_f.mp c)
    refine st_aload_n (pc' := 15) dX9_inchMinutes_14 rfl rfl (j := 0) rfl ?_
    refine G_X9_18_36 dX9_inchMinutes_15 (pc' := 18) rfl rfl ?_
    refine G_X9_28_4 dX9_inchMinutes_18 (pc' := 21) rfl rfl ?_
    refine G_X9_59_5 dX9_inchMinutes_21 (pc' := 24) rfl rfl ?_
    exact st_iret (ty := .int) dX9_inchMinutes_24 rfl rfl rfl h
set_option maxRecDepth 20000 in
set_option maxHeartbeats 4000000 in
theorem B_X9_mayHear_0 {k : Nat} {P : Option Nat} {I : Nat → Nat → Int32} {J : Nat → Nat → Int64} {x1 : Int} {Q : Option AV → Mem → Prop} (hk : 1 ≤ k) (h : ((0 < gi I 18 (2 : Int).toNat) → ((0 ≤ x1 ∧ x1 < 14) ∧ (WPm (k - 1) LAY m_X9_run [vR (some 36), vI 2] (mem (P, some 5, some 22) (si (si I 38 3 (gi I 9 (x1).toNat)) 38 15 (gi I 10 (x1).toNat)) J) (retI (fun v2 I3 J4 => inR v2 ∧ ((v2 = 0 → (Q (some (vI 0)) (mem (P, some 5, some 22) I3 J4))) ∧ (¬ v2 = 0 → (Q (some (vI 1)) (mem (P, some 5, some 22) I3 J4))))) (P, some 5, some 22))))) ∧ (¬ (0 < gi I 18 (2 : Int).toNat) → (Q (some (vI 1)) (mem (P, some 5, some 22) I J)))) : WP k LAY m_X9_mayHear 0 [(0, vR (some 36)), (1, vI x1)] [] (mem (P, some 5, some 22) I J) Q := by
  refine st_aload_n (pc' := 1) dX9_mayHear_0 rfl rfl (j := 0) rfl ?_
  refine G_X9_18_36 dX9_mayHear_1 (pc' := 4) rfl rfl ?_
  refine G_X9_28_4 dX9_mayHear_4 (pc' := 7) rfl rfl ?_
  refine st_iconst (pc' := 8) dX9_mayHear_7 rfl ?_
  refine st_callV (pc' := 11) (kc := k - 1) (E' := LAY) (cal := m_X7_hasRule) (n := 1) (as := [vI 2]) (S := []) dX9_mayHear_8 rfl l_X9_66 k_X7_hasRule rfl L_5 c_X7 rfl rfl (Nat.le_of_ble_eq_true rfl) (by omega) ⟨Nat.le_refl _, Nat.le_refl _, Nat.le_refl _, Nat.le_refl _⟩ (Q1 := fun r M' => WP k LAY m_X9_mayHear 11 [(0, vR (some 36)), (1, vI x1)] (r.toList ++ []) M' Q) (S_X7_hasRule_5 (by omega) (by decide) ?_) (fun r M' q => q)
  change WP _ LAY m_X9_mayHear 11 [(0, vR (some 36)), (1, vI x1)] [vI (b2i (0 < gi I 18 (2 : Int).toNat))] (mem (P, some 5, some 22) I J) Q
  refine st_if_ne (tg := 16) (pc' := 14) dX9_mayHear_11 (by decide) rfl (b2i_in _) (fun c => ?_) (fun c => ?_)
  · replace h := h.1 (b2i_t.mp c)
    refine st_aload_n (pc' := 17) dX9_mayHear_16 rfl rfl (j := 0) rfl ?_
    refine st_iload_n (pc' := 18) dX9_mayHear_17 rfl rfl (j := 1) rfl ?_
    refine st_callV (pc' := 21) (kc := k - 1) (E' := LAY) (cal := m_X9_setPage) (n := 1) (as := [vI x1]) (S := []) dX9_mayHear_18 rfl l_X9_84 k_X9_setPage rfl L_36 c_X9 rfl rfl (Nat.le_of_ble_eq_true rfl) (by omega) ⟨Nat.le_refl _, Nat.le_refl _, Nat.le_refl _, Nat.le_refl _⟩ (Q1 := fun r M' => WP k LAY m_X9_mayHear 21 [(0, vR (some 36)), (1, vI x1)] (r.toList ++ []) M' Q) (WPm.of k_X9_setPage.1 (Nat.le_of_ble_eq_true rfl) (B_X9_setPage_0 (by omega) ?_)) (fun r M' q => q)
    obtain ⟨e1, h⟩ := h
    refine ⟨e1, ?_⟩
    change WP _ LAY m_X9_mayHear 21 [(0, vR (some 36)), (1, vI x1)] [] (mem (P, some 5, some 22) (si (si I 38 3 (gi I 9 (x1).toNat)) 38 15 (gi I 10 (x1).toNat)) J) Q
    refine st_aload_n (pc' := 22) dX9_mayHear_21 rfl rfl (j := 0) rfl ?_
    refine st_iconst (pc' := 23) dX9_mayHear_22 rfl ?_
    refine st_callV (pc' := 26) (kc := k - 1) (E' := LAY) (cal := m_X9_run) (n := 1) (as := [vI 2]) (S := []) dX9_mayHear_23 rfl l_X9_70 k_X9_run rfl L_36 c_X9 rfl rfl (Nat.le_of_ble_eq_true rfl) (by omega) ⟨Nat.le_refl _, Nat.le_refl _, Nat.le_refl _, Nat.le_refl _⟩ h (fun r M' q => ?_)
    obtain ⟨v2, I3, J4, rfl, rfl, h⟩ := q
    change WP _ LAY m_X9_mayHear 26 [(0, vR (some 36)), (1, vI x1)] [vI v2] (mem (P, some 5, some 22) I3 J4) Q
    obtain ⟨e5, h⟩ := h
    refine st_if_eq (tg := 33) (pc' := 29) dX9_mayHear_26 (by decide) rfl e5 (fun c => ?_) (fun c => ?_)
    · replace h := h.1 c
      refine st_iconst (pc' := 34) dX9_mayHear_33 rfl ?_
      exact st_iret (ty := .boolean) dX9_mayHear_34 rfl (by decide) rfl h
    · replace h := h.2 c
      refine st_iconst (pc' := 30) dX9_mayHear_29 rfl ?_
      refine st_goto (pc' := 34) dX9_mayHear_30 (by decide) ?_
      exact st_iret (ty := .boolean) dX9_mayHear_34 rfl (by decide) rfl h
  · replace h := h.2 (b2i_f.mp c)
    refine st_iconst (pc' := 15) dX9_mayHear_14 rfl ?_
    exact st_iret (ty := .boolean) dX9_mayHear_15 rfl (by decide) rfl h
set_option maxRecDepth 20000 in
set_option maxHeartbeats 4000000 in
theorem B_X9_lightAt_0 {k : Nat} {P : Option Nat} {I : Nat → Nat → Int32} {J : Nat → Nat → Int64} {x1 : Int} {x2 : Int} {Q : Option AV → Mem → Prop} (hk : 1 ≤ k) (h : WPm (k - 1) LAY m_X2_sittingAt [vR (some 4), vI x1] (mem (P, some 5, some 22) I J) (retI (fun v1 I2 J3 => WP k LAY m_X9_lightAt 15 [(0, vR (some 36)), (1, vI x1), (2, vI x2), (3, vI 0), (4, vI v1), (5, vI 0)] [] (mem (P, some 5, some 22) I2 J3) Q) (P, some 5, some 22))) : WP k LAY m_X9_lightAt 0 [(0, vR (some 36)), (1, vI x1), (2, vI x2)] [] (mem (P, some 5, some 22) I J) Q := by
  refine st_iconst (pc' := 1) dX9_lightAt_0 rfl ?_
  refine st_istore_n (pc' := 2) (L' := [(3, vI 0), (0, vR (some 36)), (1, vI x1), (2, vI x2)]) dX9_lightAt_1 rfl rfl (by decide) rfl ?_
  refine st_aload_n (pc' := 3) dX9_lightAt_2 rfl rfl (j := 1) rfl ?_
  refine G_X9_18_36 dX9_lightAt_3 (pc' := 6) rfl rfl ?_
  refine st_iload_n (pc' := 7) dX9_lightAt_6 rfl rfl (j := 2) rfl ?_
  refine st_callV (pc' := 10) (kc := k - 1) (E' := LAY) (cal := m_X2_sittingAt) (n := 1) (as := [vI x1]) (S := []) dX9_lightAt_7 rfl l_X9_37 k_X2_sittingAt rfl L_4 c_X2 rfl rfl (Nat.le_of_ble_eq_true rfl) (by omega) ⟨Nat.le_refl _, Nat.le_refl _, Nat.le_refl _, Nat.le_refl _⟩ h (fun r M' q => ?_)
  obtain ⟨v1, I2, J3, rfl, rfl, h⟩ := q
  change WP _ LAY m_X9_lightAt 10 [(3, vI 0), (0, vR (some 36)), (1, vI x1), (2, vI x2)] [vI v1] (mem (P, some 5, some 22) I2 J3) Q
  refine st_istore (pc' := 12) (L' := [(4, vI v1), (3, vI 0), (0, vR (some 36)), (1, vI x1), (2, vI x2)]) dX9_lightAt_10 rfl (by decide) rfl ?_
  refine st_iconst (pc' := 13) dX9_lightAt_12 rfl ?_
  refine st_istore (pc' := 15) (L' := [(5, vI 0), (4, vI v1), (3, vI 0), (0, vR (some 36)), (1, vI x1), (2, vI x2)]) dX9_lightAt_13 rfl (by decide) rfl ?_
  refine WP_sub (L' := [(0, vR (some 36)), (1, vI x1), (2, vI x2), (3, vI 0), (4, vI v1), (5, vI 0)]) [3, 4, 5, 2, 1, 0] rfl ?_
  exact h
set_option maxRecDepth 20000 in
set_option maxHeartbeats 4000000 in
theorem B_X9_lightAt_15 {k : Nat} {P : Option Nat} {I : Nat → Nat → Int32} {J : Nat → Nat → Int64} {x1 : Int} {x2 : Int} {x3 : Int} {x4 : Int} {x5 : Int} {Q : Option AV → Mem → Prop} (hk : 2 ≤ k) (h : inR x5 ∧ (((gi I 6 2) ≤ x5 → (Q (some (vI x3)) (mem (P, some 5, some 22) I J))) ∧ (¬ (gi I 6 2) ≤ x5 → ((0 ≤ ((3 + (x5 * 14)) + 0) ∧ ((3 + (x5 * 14)) + 0) < 87) ∧ (inR x1 ∧ ((¬ (gi I 19 ((3 + (x5 * 14)) + 0).toNat) = x1 → (WP k LAY m_X9_lightAt 15 [(0, vR (some 36)), (1, vI x1), (2, vI x2), (3, vI x3), (4, vI x4), (5, vI (x5 + 1))] [] (mem (P, some 5, some 22) I J) Q)) ∧ ((gi I 19 ((3 + (x5 * 14)) + 0).toNat) = x1 → ((0 ≤ ((3 + (x5 * 14)) + 1) ∧ ((3 + (x5 * 14)) + 1) < 87) ∧ ((0 ≤ ((3 + (x5 * 14)) + 2) ∧ ((3 + (x5 * 14)) + 2) < 87) ∧ ((0 ≤ x5 ∧ x5 < 6) ∧ (WPm (k - 1) LAY m_X9_inchMinutes [vR (some 36)] (mem (P, some 5, some 22) (si (si (si (si (si (si (si I 38 7 (gi I 13 (x5).toNat)) 38 8 (gi I 14 (x5).toNat)) 38 16 (bc32 (or32 (gi I 19 ((3 + (x5 * 14)) + 1).toNat) (gi I 19 ((3 + (x5 * 14)) + 2).toNat)))) 38 10 x2) 38 17 x4) 38 11 (gi I 5 15)) 38 18 (gi I 19 0)) J) (retI (fun v7 I8 J9 => WP k LAY m_X9_lightAt 15 [(0, vR (some 36)), (1, vI x1), (2, vI x2), (3, vI (x3 + v7)), (4, vI x4), (5, vI (x5 + 1))] [] (mem (P, some 5, some 22) I8 J9) Q) (P, some 5, some 22))))))))))))) : WP k LAY m_X9_lightAt 15 [(0, vR (some 36)), (1, vI x1), (2, vI x2), (3, vI x3), (4, vI x4), (5, vI x5)] [] (mem (P, some 5, some 22) I J) Q := by
  refine st_iload (pc' := 17) dX9_lightAt_15 rfl (j := 5) rfl ?_
  refine st_aload_n (pc' := 18) dX9_lightAt_17 rfl rfl (j := 0) rfl ?_
  refine G_X9_18_36 dX9_lightAt_18 (pc' := 21) rfl rfl ?_
  refine G_X9_28_4 dX9_lightAt_21 (pc' := 24) rfl rfl ?_
  refine G_X9_88_5 dX9_lightAt_24 (pc' := 27) rfl rfl ?_
  refine st_iconst (pc' := 28) dX9_lightAt_27 rfl ?_
  refine st_iaload (pc' := 29) (v := (gi I 6 2)) dX9_lightAt_28 rfl L_6 (by decide) (by decide) (show gi I 6 2 = (gi I 6 2) from rfl) ?_
  obtain ⟨e1, h⟩ := h
  refine st_icmp_ge (tg := 80) (pc' := 32) dX9_lightAt_29 (by decide) rfl e1 (gi_in _ _ _) (fun c => ?_) (fun c => ?_)
  · replace h := h.1 c
    refine st_iload_n (pc' := 81) dX9_lightAt_80 rfl rfl (j := 3) rfl ?_
    exact st_iret (ty := .int) dX9_lightAt_81 rfl rfl rfl h
  · replace h := h.2 c
    refine st_aload_n (pc' := 33) dX9_lightAt_32 rfl rfl (j := 0) rfl ?_
    refine G_X9_18_36 dX9_lightAt_33 (pc' := 36) rfl rfl ?_
    refine st_iload (pc' := 38) dX9_lightAt_36 rfl (j := 5) rfl ?_
    refine st_iconst (pc' := 39) dX9_lightAt_38 rfl ?_
    refine st_callV (pc' := 42) (kc := k - 1) (E' := LAY) (cal := m_X2_of) (n := 2) (as := [vI x5, vI 0]) (S := []) dX9_lightAt_39 rfl l_X9_22 k_X2_of rfl L_4 c_X2 rfl rfl (Nat.le_of_ble_eq_true rfl) (by omega) ⟨Nat.le_refl _, Nat.le_refl _, Nat.le_refl _, Nat.le_refl _⟩ (Q1 := fun r M' => WP k LAY m_X9_lightAt 42 [(0, vR (some 36)), (1, vI x1), (2, vI x2), (3, vI x3), (4, vI x4), (5, vI x5)] (r.toList ++ []) M' Q) (WPm.of k_X2_of.1 (Nat.le_of_ble_eq_true rfl) (B_X2_of_0 (by omega) ?_)) (fun r M' q => q)
    obtain ⟨e2, h⟩ := h
    refine ⟨e2, ?_⟩
    change WP _ LAY m_X9_lightAt 42 [(0, vR (some 36)), (1, vI x1), (2, vI x2), (3, vI x3), (4, vI x4), (5, vI x5)] [vI (gi I 19 ((3 + (x5 * 14)) + 0).toNat)] (mem (P, some 5, some 22) I J) Q
    refine st_iload_n (pc' := 43) dX9_lightAt_42 rfl rfl (j := 1) rfl ?_
    obtain ⟨e3, h⟩ := h
    refine st_icmp_ne (tg := 74) (pc' := 46) dX9_lightAt_43 (by decide) rfl (gi_in _ _ _) e3 (fun c => ?_) (fun c => ?_)
    · replace h := h.1 c
      refine st_iinc (pc' := 77) (L' := [(5, vI (x5 + 1)), (0, vR (some 36)), (1, vI x1), (2, vI x2), (3, vI x3), (4, vI x4)]) (j := 5) dX9_lightAt_74 rfl (by decide) rfl rfl ?_
      refine st_goto (pc' := 15) dX9_lightAt_77 (by decide) ?_
      refine WP_sub (L' := [(0, vR (some 36)), (1, vI x1), (2, vI x2), (3, vI x3), (4, vI x4), (5, vI (x5 + 1))]) [1, 2, 3, 4, 5, 0] rfl ?_
      exact h
    · replace h := h.2 c
      refine st_aload_n (pc' := 47) dX9_lightAt_46 rfl rfl (j := 0) rfl ?_
      refine st_iload (pc' := 49) dX9_lightAt_47 rfl (j := 5) rfl ?_
      refine st_iload_n (pc' := 50) dX9_lightAt_49 rfl rfl (j := 2) rfl ?_
      refine st_iload (pc' := 52) dX9_lightAt_50 rfl (j := 4) rfl ?_
      refine st_aload_n (pc' := 53) dX9_lightAt_52 rfl rfl (j := 0) rfl ?_
      refine G_X9_18_36 dX9_lightAt_53 (pc' := 56) rfl rfl ?_
      refine st_iload (pc' := 58) dX9_lightAt_56 rfl (j := 5) rfl ?_
      refine st_callV (pc' := 61) (kc := k - 1) (E' := LAY) (cal := m_X2_known) (n := 1) (as := [vI x5]) (S := [vI x4, vI x2, vI x5, vR (some 36)]) dX9_lightAt_58 rfl l_X9_41 k_X2_known rfl L_4 c_X2 rfl rfl (Nat.le_of_ble_eq_true rfl) (by omega) ⟨Nat.le_refl _, Nat.le_refl _, Nat.le_refl _, Nat.le_refl _⟩ (Q1 := fun r M' => WP k LAY m_X9_lightAt 61 [(0, vR (some 36)), (1, vI x1), (2, vI x2), (3, vI x3), (4, vI x4), (5, vI x5)] (r.toList ++ [vI x4, vI x2, vI x5, vR (some 36)]) M' Q) (WPm.of k_X2_known.1 (Nat.le_of_ble_eq_true rfl) (B_X2_known_0 (by omega) ?_)) (fun r M' q => q)
      obtain ⟨e4, h⟩ := h
      refine ⟨e4, ?_⟩
      obtain ⟨e5, h⟩ := h
      refine ⟨e5, ?_⟩
      change WP _ LAY m_X9_lightAt 61 [(0, vR (some 36)), (1, vI x1), (2, vI x2), (3, vI x3), (4, vI x4), (5, vI x5)] [vI (or32 (gi I 19 ((3 + (x5 * 14)) + 1).toNat) (gi I 19 ((3 + (x5 * 14)) + 2).toNat)), vI x4, vI x2, vI x5, vR (some 36)] (mem (P, some 5, some 22) I J) Q
      refine st_callS (pc' := 64) (kc := k - 1) (E' := LAY) (cal := m_J6_bitCount_0f7a4) (n := 1) (as := [vI (or32 (gi I 19 ((3 + (x5 * 14)) + 1).toNat) (gi I 19 ((3 + (x5 * 14)) + 2).toNat))]) (S := [vI x4, vI x2, vI x5, vR (some 36)]) dX9_lightAt_61 rfl l_X9_44 k_J6_bitCount_0f7a4 rfl rfl (Nat.le_of_ble_eq_true rfl) (by omega) ⟨Nat.le_refl _, Nat.le_refl _, Nat.le_refl _, Nat.le_refl _⟩ (Q1 := fun r M' => WP k LAY m_X9_lightAt 64 [(0, vR (some 36)), (1, vI x1), (2, vI x2), (3, vI x3), (4, vI x4), (5, vI x5)] (r.toList ++ [vI x4, vI x2, vI x5, vR (some 36)]) M' Q) (S_J6_bitCount (by omega)  ?_) (fun r M' q => q)
      change WP _ LAY m_X9_lightAt 64 [(0, vR (some 36)), (1, vI x1), (2, vI x2), (3, vI x3), (4, vI x4), (5, vI x5)] [vI (bc32 (or32 (gi I 19 ((3 + (x5 * 14)) + 1).toNat) (gi I 19 ((3 + (x5 * 14)) + 2).toNat))), vI x4, vI x2, vI x5, vR (some 36)] (mem (P, some 5, some 22) I J) Q
      refine st_callV (pc' := 67) (kc := k - 1) (E' := LAY) (cal := m_X9_setAt) (n := 4) (as := [vI x5, vI x2, vI x4, vI (bc32 (or32 (gi I 19 ((3 + (x5 * 14)) + 1).toNat) (gi I 19 ((3 + (x5 * 14)) + 2).toNat)))]) (S := []) dX9_lightAt_64 rfl l_X9_49 k_X9_setAt rfl L_36 c_X9 rfl rfl (Nat.le_of_ble_eq_true rfl) (by omega) ⟨Nat.le_refl _, Nat.le_refl _, Nat.le_refl _, Nat.le_refl _⟩ (Q1 := fun r M' => WP k LAY m_X9_lightAt 67 [(0, vR (some 36)), (1, vI x1), (2, vI x2), (3, vI x3), (4, vI x4), (5, vI x5)] (r.toList ++ []) M' Q) (WPm.of k_X9_setAt.1 (Nat.le_of_ble_eq_true rfl) (B_X9_setAt_0 (by omega) ?_)) (fun r M' q => q)
      obtain ⟨e6, h⟩ := h
      refine ⟨e6, ?_⟩
      change WP _ LAY m_X9_lightAt 67 [(0, vR (some 36)), (1, vI x1), (2, vI x2), (3, vI x3), (4, vI x4), (5, vI x5)] [] (mem (P, some 5, some 22) (si (si (si (si (si (si (si I 38 7 (gi I 13 (x5).toNat)) 38 8 (gi I 14 (x5).toNat)) 38 16 (bc32 (or32 (gi I 19 ((3 + (x5 * 14)) + 1).toNat) (gi I 19 ((3 + (x5 * 14)) + 2).toNat)))) 38 10 x2) 38 17 x4) 38 11 (gi I 5 15)) 38 18 (gi I 19 0)) J) Q
      refine st_iload_n (pc' := 68) dX9_lightAt_67 rfl rfl (j := 3) rfl ?_
      refine st_aload_n (pc' := 69) dX9_lightAt_68 rfl rfl (j := 0) rfl ?_
      refine st_callV (pc' := 72) (kc := k - 1) (E' := LAY) (cal := m_X9_inchMinutes) (n := 0) (as := []) (S := [vI x3]) dX9_lightAt_69 rfl l_X9_91 k_X9_inchMinutes rfl L_36 c_X9 rfl rfl (Nat.le_of_ble_eq_true rfl) (by omega) ⟨Nat.le_refl _, Nat.le_refl _, Nat.le_refl _, Nat.le_refl _⟩ h (fun r M' q => ?_)
      obtain ⟨v7, I8, J9, rfl, rfl, h⟩ := q
      change WP _ LAY m_X9_lightAt 72 [(0, vR (some 36)), (1, vI x1), (2, vI x2), (3, vI x3), (4, vI x4), (5, vI x5)] [vI v7, vI x3] (mem (P, some 5, some 22) I8 J9) Q
      refine st_iadd (pc' := 73) dX9_lightAt_72 rfl ?_
      refine st_istore_n (pc' := 74) (L' := [(3, vI (x3 + v7)), (0, vR (some 36)), (1, vI x1), (2, vI x2), (4, vI x4), (5, vI x5)]) dX9_lightAt_73 rfl rfl (by decide) rfl ?_
      refine st_iinc (pc' := 77) (L' := [(5, vI (x5 + 1)), (3, vI (x3 + v7)), (0, vR (some 36)), (1, vI x1), (2, vI x2), (4, vI x4)]) (j := 5) dX9_lightAt_74 rfl (by decide) rfl rfl ?_
      refine st_goto (pc' := 15) dX9_lightAt_77 (by decide) ?_
      refine WP_sub (L' := [(0, vR (some 36)), (1, vI x1), (2, vI x2), (3, vI (x3 + v7)), (4, vI x4), (5, vI (x5 + 1))]) [2, 3, 4, 1, 5, 0] rfl ?_
      exact h
end WX9

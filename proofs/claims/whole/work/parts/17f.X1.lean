section WX1
set_option maxRecDepth 20000 in
set_option maxHeartbeats 4000000 in
theorem B_X1_draftAt_0 {k : Nat} {P : Option Nat} {I : Nat → Nat → Int32} {J : Nat → Nat → Int64} {x1 : Int} {x2 : Int} {Q : Option AV → Mem → Prop} (hk : 0 ≤ k) (h : (0 ≤ x1 ∧ x1 < 5) ∧ (inR x2 ∧ ((¬ x1 = x2 → (Q (some (vI ((gi I 15 (x1).toNat) + 0))) (mem (P, some 5, some 22) I J))) ∧ (x1 = x2 → (Q (some (vI ((gi I 15 (x1).toNat) + 3))) (mem (P, some 5, some 22) I J)))))) : WP k LAY m_X1_draftAt 0 [(0, vR (some 42)), (1, vI x1), (2, vI x2)] [] (mem (P, some 5, some 22) I J) Q := by
  refine st_aload_n (pc' := 1) dX1_draftAt_0 rfl rfl (j := 0) rfl ?_
  refine G_X1_36_42 dX1_draftAt_1 (pc' := 4) rfl rfl ?_
  refine G_X1_48_4 dX1_draftAt_4 (pc' := 7) rfl rfl ?_
  refine G_X1_88_5 dX1_draftAt_7 (pc' := 10) rfl rfl ?_
  refine st_iload_n (pc' := 11) dX1_draftAt_10 rfl rfl (j := 1) rfl ?_
  obtain ⟨e1, h⟩ := h
  refine st_iaload (pc' := 12) (v := (gi I 15 (x1).toNat)) dX1_draftAt_11 rfl L_15 (by decide) e1 (show gi I 15 (x1).toNat = (gi I 15 (x1).toNat) from rfl) ?_
  refine st_iload_n (pc' := 13) dX1_draftAt_12 rfl rfl (j := 1) rfl ?_
  refine st_iload_n (pc' := 14) dX1_draftAt_13 rfl rfl (j := 2) rfl ?_
  obtain ⟨e2, h⟩ := h
  refine st_icmp_ne (tg := 21) (pc' := 17) dX1_draftAt_14 (by decide) rfl (in_b e1 (by decide)) e2 (fun c => ?_) (fun c => ?_)
  · replace h := h.1 c
    refine st_iconst (pc' := 22) dX1_draftAt_21 rfl ?_
    refine st_iadd (pc' := 23) dX1_draftAt_22 rfl ?_
    exact st_iret (ty := .int) dX1_draftAt_23 rfl rfl rfl h
  · replace h := h.2 c
    refine st_iconst (pc' := 18) dX1_draftAt_17 rfl ?_
    refine st_goto (pc' := 22) dX1_draftAt_18 (by decide) ?_
    refine st_iadd (pc' := 23) dX1_draftAt_22 rfl ?_
    exact st_iret (ty := .int) dX1_draftAt_23 rfl rfl rfl h
set_option maxRecDepth 20000 in
set_option maxHeartbeats 4000000 in
theorem B_X1_follow_0 {k : Nat} {P : Option Nat} {I : Nat → Nat → Int32} {J : Nat → Nat → Int64} {x1 : Int} {x2 : Int} {Q : Option AV → Mem → Prop} (hk : 1 ≤ k) (h : WPm (k - 1) LAY m_X0_readBy [vR (some 39), vI x2] (mem (P, some 5, some 22) I J) (retI (fun v1 I2 J3 => (0 ≤ x1 ∧ x1 < 6) ∧ (WP k LAY m_X1_follow 26 [(0, vR (some 42)), (1, vI x1), (2, vI x2), (3, vI v1), (4, vI 0)] [] (mem (P, some 5, some 22) (si (si I2 45 (x1).toNat v1) 46 (x1).toNat 0) J3) Q)) (P, some 5, some 22))) : WP k LAY m_X1_follow 0 [(0, vR (some 42)), (1, vI x1), (2, vI x2)] [] (mem (P, some 5, some 22) I J) Q := by
  refine st_aload_n (pc' := 1) dX1_follow_0 rfl rfl (j := 0) rfl ?_
  refine G_X1_44_42 dX1_follow_1 (pc' := 4) rfl rfl ?_
  refine st_iload_n (pc' := 5) dX1_follow_4 rfl rfl (j := 2) rfl ?_
  refine st_callV (pc' := 8) (kc := k - 1) (E' := LAY) (cal := m_X0_readBy) (n := 1) (as := [vI x2]) (S := []) dX1_follow_5 rfl l_X1_91 k_X0_readBy rfl L_39 c_X0 rfl rfl (Nat.le_of_ble_eq_true rfl) (by omega) ⟨Nat.le_refl _, Nat.le_refl _, Nat.le_refl _, Nat.le_refl _⟩ h (fun r M' q => ?_)
  obtain ⟨v1, I2, J3, rfl, rfl, h⟩ := q
  change WP _ LAY m_X1_follow 8 [(0, vR (some 42)), (1, vI x1), (2, vI x2)] [vI v1] (mem (P, some 5, some 22) I2 J3) Q
  refine st_istore_n (pc' := 9) (L' := [(3, vI v1), (0, vR (some 42)), (1, vI x1), (2, vI x2)]) dX1_follow_8 rfl rfl (by decide) rfl ?_
  refine st_aload_n (pc' := 10) dX1_follow_9 rfl rfl (j := 1) rfl ?_
  refine G_X1_18_42 dX1_follow_10 (pc' := 13) rfl rfl ?_
  refine st_iload_n (pc' := 14) dX1_follow_13 rfl rfl (j := 2) rfl ?_
  refine st_iload_n (pc' := 15) dX1_follow_14 rfl rfl (j := 0) rfl ?_
  obtain ⟨e4, h⟩ := h
  refine st_iastore (pc' := 16) (M' := (mem (P, some 5, some 22) (si I2 45 (x1).toNat v1) J3)) dX1_follow_15 rfl L_45 (by decide) e4 rfl ?_
  refine st_aload_n (pc' := 17) dX1_follow_16 rfl rfl (j := 1) rfl ?_
  refine G_X1_21_42 dX1_follow_17 (pc' := 20) rfl rfl ?_
  refine st_iload_n (pc' := 21) dX1_follow_20 rfl rfl (j := 2) rfl ?_
  refine st_iconst (pc' := 22) dX1_follow_21 rfl ?_
  refine st_iastore (pc' := 23) (M' := (mem (P, some 5, some 22) (si (si I2 45 (x1).toNat v1) 46 (x1).toNat 0) J3)) dX1_follow_22 rfl L_46 (by decide) e4 rfl ?_
  refine st_iconst (pc' := 24) dX1_follow_23 rfl ?_
  refine st_istore (pc' := 26) (L' := [(4, vI 0), (3, vI v1), (0, vR (some 42)), (1, vI x1), (2, vI x2)]) dX1_follow_24 rfl (by decide) rfl ?_
  refine WP_sub (L' := [(0, vR (some 42)), (1, vI x1), (2, vI x2), (3, vI v1), (4, vI 0)]) [2, 3, 4, 1, 0] rfl ?_
  exact h
set_option maxRecDepth 20000 in
set_option maxHeartbeats 4000000 in
theorem B_X1_follow_26 {k : Nat} {P : Option Nat} {I : Nat → Nat → Int32} {J : Nat → Nat → Int64} {x1 : Int} {x2 : Int} {x3 : Int} {x4 : Int} {Q : Option AV → Mem → Prop} (hk : 2 ≤ k) (h : inR x4 ∧ (inR x3 ∧ ((x3 ≤ x4 → ((¬ (gi I 39 4) = 0 → ((0 ≤ ((gi I 39 4) - 1) ∧ ((gi I 39 4) - 1) < 8) ∧ (inR x2 ∧ ((0 ≤ x1 ∧ x1 < 6) ∧ ((x2 = 0 → ((0 ≤ ((3 + (x1 * 14)) + 3) ∧ ((3 + (x1 * 14)) + 3) < 87) ∧ ((0 ≤ ((3 + (x1 * 14)) + 4) ∧ ((3 + (x1 * 14)) + 4) < 87) ∧ (Q none (mem (P, some 5, some 22) (si (si (si I 47 (x1).toNat (min x2 (gi I 41 ((gi I 39 4) - 1).toNat))) 48 (x1).toNat (gi (si I 47 (x1).toNat (min x2 (gi I 41 ((gi I 39 4) - 1).toNat))) 19 ((3 + (x1 * 14)) + 3).toNat)) 49 (x1).toNat (gi (si (si I 47 (x1).toNat (min x2 (gi I 41 ((gi I 39 4) - 1).toNat))) 48 (x1).toNat (gi (si I 47 (x1).toNat (min x2 (gi I 41 ((gi I 39 4) - 1).toNat))) 19 ((3 + (x1 * 14)) + 3).toNat)) 19 ((3 + (x1 * 14)) + 4).toNat)) J))))) ∧ (¬ x2 = 0 → ((¬ (gi I 39 4) = 0 → (((gi I 39 4) ≤ x3 → (Q none (mem (P, some 5, some 22) (si (si (si I 47 (x1).toNat (min x2 (gi I 41 ((gi I 39 4) - 1).toNat))) 48 (x1).toNat (-1)) 49 (x1).toNat 0) J))) ∧ (¬ (gi I 39 4) ≤ x3 → ((¬ x3 = 0 → ((0 ≤ (x3 - 1) ∧ (x3 - 1) < 8) ∧ ((x2 ≤ (gi (si I 47 (x1).toNat (min x2 (gi I 41 ((gi I 39 4) - 1).toNat))) 41 (x3 - 1).toNat) → (Q none (mem (P, some 5, some 22) (si (si (si I 47 (x1).toNat (min x2 (gi I 41 ((gi I 39 4) - 1).toNat))) 48 (x1).toNat (-1)) 49 (x1).toNat 0) J))) ∧ (¬ x2 ≤ (gi (si I 47 (x1).toNat (min x2 (gi I 41 ((gi I 39 4) - 1).toNat))) 41 (x3 - 1).toNat) → ((0 ≤ x3 ∧ x3 < 8) ∧ ((¬ x3 = 0 → ((¬ x3 = 0 → (Q none (mem (P, some 5, some 22) (si (si (si I 47 (x1).toNat (min x2 (gi I 41 ((gi I 39 4) - 1).toNat))) 48 (x1).toNat (gi I 40 (x3).toNat)) 49 (x1).toNat ((0 + x2) - (gi (si (si I 47 (x1).toNat (min x2 (gi I 41 ((gi I 39 4) - 1).toNat))) 48 (x1).toNat (gi I 40 (x3).toNat)) 41 (x3 - 1).toNat))) J))) ∧ (x3 = 0 → (Q none (mem (P, some 5, some 22) (si (si (si I 47 (x1).toNat (min x2 (gi I 41 ((gi I 39 4) - 1).toNat))) 48 (x1).toNat (gi I 40 (x3).toNat)) 49 (x1).toNat ((0 + x2) - 0)) J))))) ∧ (x3 = 0 → ((¬ x3 = 0 → (Q none (mem (P, some 5, some 22) (si (si (si I 47 (x1).toNat (min x2 (gi I 41 ((gi I 39 4) - 1).toNat))) 48 (x1).toNat (gi I 40 (x3).toNat)) 49 (x1).toNat (((gi I 39 5) + x2) - (gi (si (si I 47 (x1).toNat (min x2 (gi I 41 ((gi I 39 4) - 1).toNat))) 48 (x1).toNat (gi I 40 (x3).toNat)) 41 (x3 - 1).toNat))) J))) ∧ (x3 = 0 → (Q none (mem (P, some 5, some 22) (si (si (si I 47 (x1).toNat (min x2 (gi I 41 ((gi I 39 4) - 1).toNat))) 48 (x1).toNat (gi I 40 (x3).toNat)) 49 (x1).toNat (((gi I 39 5) + x2) - 0)) J))))))))))) ∧ (x3 = 0 → ((x2 ≤ 0 → (Q none (mem (P, some 5, some 22) (si (si (si I 47 (x1).toNat (min x2 (gi I 41 ((gi I 39 4) - 1).toNat))) 48 (x1).toNat (-1)) 49 (x1).toNat 0) J))) ∧ (¬ x2 ≤ 0 → ((0 ≤ x3 ∧ x3 < 8) ∧ ((¬ x3 = 0 → ((¬ x3 = 0 → ((0 ≤ (x3 - 1) ∧ (x3 - 1) < 8) ∧ (Q none (mem (P, some 5, some 22) (si (si (si I 47 (x1).toNat (min x2 (gi I 41 ((gi I 39 4) - 1).toNat))) 48 (x1).toNat (gi I 40 (x3).toNat)) 49 (x1).toNat ((0 + x2) - (gi (si (si I 47 (x1).toNat (min x2 (gi I 41 ((gi I 39 4) - 1).toNat))) 48 (x1).toNat (gi I 40 (x3).toNat)) 41 (x3 - 1).toNat))) J)))) ∧ (x3 = 0 → (Q none (mem (P, some 5, some 22) (si (si (si I 47 (x1).toNat (min x2 (gi I 41 ((gi I 39 4) - 1).toNat))) 48 (x1).toNat (gi I 40 (x3).toNat)) 49 (x1).toNat ((0 + x2) - 0)) J))))) ∧ (x3 = 0 → ((¬ x3 = 0 → ((0 ≤ (x3 - 1) ∧ (x3 - 1) < 8) ∧ (Q none (mem (P, some 5, some 22) (si (si (si I 47 (x1).toNat (min x2 (gi I 41 ((gi I 39 4) - 1).toNat))) 48 (x1).toNat (gi I 40 (x3).toNat)) 49 (x1).toNat (((gi I 39 5) + x2) - (gi (si (si I 47 (x1).toNat (min x2 (gi I 41 ((gi I 39 4) - 1).toNat))) 48 (x1).toNat (gi I 40 (x3).toNat)) 41 (x3 - 1).toNat))) J)))) ∧ (x3 = 0 → (Q none (mem (P, some 5, some 22) (si (si (si I 47 (x1).toNat (min x2 (gi I 41 ((gi I 39 4) - 1).toNat))) 48 (x1).toNat (gi I 40 (x3).toNat)) 49 (x1).toNat (((gi I 39 5) + x2) - 0)) J)))))))))))))) ∧ ((gi I 39 4) = 0 → ((0 ≤ ((3 + (x1 * 14)) + 3) ∧ ((3 + (x1 * 14)) + 3) < 87) ∧ ((0 ≤ ((3 + (x1 * 14)) + 4) ∧ ((3 + (x1 * 14)) + 4) < 87) ∧ (Q none (mem (P, some 5, some 22) (si (si (si I 47 (x1).toNat (min x2 (gi I 41 ((gi I 39 4) - 1).toNat))) 48 (x1).toNat (gi (si I 47 (x1).toNat (min x2 (gi I 41 ((gi I 39 4) - 1).toNat))) 19 ((3 + (x1 * 14)) + 3).toNat)) 49 (x1).toNat (gi (si (si I 47 (x1).toNat (min x2 (gi I 41 ((gi I 39 4) - 1).toNat))) 48 (x1).toNat (gi (si I 47 (x1).toNat (min x2 (gi I 41 ((gi I 39 4) - 1).toNat))) 19 ((3 + (x1 * 14)) + 3).toNat)) 19 ((3 + (x1 * 14)) + 4).toNat)) J)))))))))))) ∧ ((gi I 39 4) = 0 → ((0 ≤ x1 ∧ x1 < 6) ∧ (inR x2 ∧ ((x2 = 0 → ((0 ≤ ((3 + (x1 * 14)) + 3) ∧ ((3 + (x1 * 14)) + 3) < 87) ∧ ((0 ≤ ((3 + (x1 * 14)) + 4) ∧ ((3 + (x1 * 14)) + 4) < 87) ∧ (Q none (mem (P, some 5, some 22) (si (si (si I 47 (x1).toNat 0) 48 (x1).toNat (gi (si I 47 (x1).toNat 0) 19 ((3 + (x1 * 14)) + 3).toNat)) 49 (x1).toNat (gi (si (si I 47 (x1).toNat 0) 48 (x1).toNat (gi (si I 47 (x1).toNat 0) 19 ((3 + (x1 * 14)) + 3).toNat)) 19 ((3 + (x1 * 14)) + 4).toNat)) J))))) ∧ (¬ x2 = 0 → ((¬ (gi I 39 4) = 0 → (((gi I 39 4) ≤ x3 → (Q none (mem (P, some 5, some 22) (si (si (si I 47 (x1).toNat 0) 48 (x1).toNat (-1)) 49 (x1).toNat 0) J))) ∧ (¬ (gi I 39 4) ≤ x3 → ((¬ x3 = 0 → ((0 ≤ (x3 - 1) ∧ (x3 - 1) < 8) ∧ ((x2 ≤ (gi (si I 47 (x1).toNat 0) 41 (x3 - 1).toNat) → (Q none (mem (P, some 5, some 22) (si (si (si I 47 (x1).toNat 0) 48 (x1).toNat (-1)) 49 (x1).toNat 0) J))) ∧ (¬ x2 ≤ (gi (si I 47 (x1).toNat 0) 41 (x3 - 1).toNat) → ((0 ≤ x3 ∧ x3 < 8) ∧ ((¬ x3 = 0 → ((¬ x3 = 0 → (Q none (mem (P, some 5, some 22) (si (si (si I 47 (x1).toNat 0) 48 (x1).toNat (gi I 40 (x3).toNat)) 49 (x1).toNat ((0 + x2) - (gi (si (si I 47 (x1).toNat 0) 48 (x1).toNat (gi I 40 (x3).toNat)) 41 (x3 - 1).toNat))) J))) ∧ (x3 = 0 → (Q none (mem (P, some 5, some 22) (si (si (si I 47 (x1).toNat 0) 48 (x1).toNat (gi I 40 (x3).toNat)) 49 (x1).toNat ((0 + x2) - 0)) J))))) ∧ (x3 = 0 → ((¬ x3 = 0 → (Q none (mem (P, some 5, some 22) (si (si (si I 47 (x1).toNat 0) 48 (x1).toNat (gi I 40 (x3).toNat)) 49 (x1).toNat (((gi I 39 5) + x2) - (gi (si (si I 47 (x1).toNat 0) 48 (x1).toNat (gi I 40 (x3).toNat)) 41 (x3 - 1).toNat))) J))) ∧ (x3 = 0 → (Q none (mem (P, some 5, some 22) (si (si (si I 47 (x1).toNat 0) 48 (x1).toNat (gi I 40 (x3).toNat)) 49 (x1).toNat (((gi I 39 5) + x2) - 0)) J))))))))))) ∧ (x3 = 0 → ((x2 ≤ 0 → (Q none (mem (P, some 5, some 22) (si (si (si I 47 (x1).toNat 0) 48 (x1).toNat (-1)) 49 (x1).toNat 0) J))) ∧ (¬ x2 ≤ 0 → ((0 ≤ x3 ∧ x3 < 8) ∧ ((¬ x3 = 0 → ((¬ x3 = 0 → ((0 ≤ (x3 - 1) ∧ (x3 - 1) < 8) ∧ (Q none (mem (P, some 5, some 22) (si (si (si I 47 (x1).toNat 0) 48 (x1).toNat (gi I 40 (x3).toNat)) 49 (x1).toNat ((0 + x2) - (gi (si (si I 47 (x1).toNat 0) 48 (x1).toNat (gi I 40 (x3).toNat)) 41 (x3 - 1).toNat))) J)))) ∧ (x3 = 0 → (Q none (mem (P, some 5, some 22) (si (si (si I 47 (x1).toNat 0) 48 (x1).toNat (gi I 40 (x3).toNat)) 49 (x1).toNat ((0 + x2) - 0)) J))))) ∧ (x3 = 0 → ((¬ x3 = 0 → ((0 ≤ (x3 - 1) ∧ (x3 - 1) < 8) ∧ (Q none (mem (P, some 5, some 22) (si (si (si I 47 (x1).toNat 0) 48 (x1).toNat (gi I 40 (x3).toNat)) 49 (x1).toNat (((gi I 39 5) + x2) - (gi (si (si I 47 (x1).toNat 0) 48 (x1).toNat (gi I 40 (x3).toNat)) 41 (x3 - 1).toNat))) J)))) ∧ (x3 = 0 → (Q none (mem (P, some 5, some 22) (si (si (si I 47 (x1).toNat 0) 48 (x1).toNat (gi I 40 (x3).toNat)) 49 (x1).toNat (((gi I 39 5) + x2) - 0)) J)))))))))))))) ∧ ((gi I 39 4) = 0 → ((0 ≤ ((3 + (x1 * 14)) + 3) ∧ ((3 + (x1 * 14)) + 3) < 87) ∧ ((0 ≤ ((3 + (x1 * 14)) + 4) ∧ ((3 + (x1 * 14)) + 4) < 87) ∧ (Q none (mem (P, some 5, some 22) (si (si (si I 47 (x1).toNat 0) 48 (x1).toNat (gi (si I 47 (x1).toNat 0) 19 ((3 + (x1 * 14)) + 3).toNat)) 49 (x1).toNat (gi (si (si I 47 (x1).toNat 0) 48 (x1).toNat (gi (si I 47 (x1).toNat 0) 19 ((3 + (x1 * 14)) + 3).toNat)) 19 ((3 + (x1 * 14)) + 4).toNat)) J))))))))))))) ∧ (¬ x3 ≤ x4 → ((0 ≤ x4 ∧ x4 < 8) ∧ ((0 ≤ ((x1 * 8) + x4) ∧ ((x1 * 8) + x4) < 48) ∧ ((0 ≤ x1 ∧ x1 < 6) ∧ (WP k LAY m_X1_follow 26 [(0, vR (some 42)), (1, vI x1), (2, vI x2), (3, vI x3), (4, vI (x4 + 1))] [] (mem (P, some 5, some 22) (si (si I 50 ((x1 * 8) + x4).toNat (gi I 40 (x4).toNat)) 46 (x1).toNat (or32 (gi I 46 (x1).toNat) (shl32 1 (gi I 40 (x4).toNat)))) J) Q)))))))) : WP k LAY m_X1_follow 26 [(0, vR (some 42)), (1, vI x1), (2, vI x2), (3, vI x3), (4, vI x4)] [] (mem (P, some 5, some 22) I J) Q := by
  refine st_iload (pc' := 28) dX1_follow_26 rfl (j := 4) rfl ?_
  refine st_iload_n (pc' := 29) dX1_follow_28 rfl rfl (j := 3) rfl ?_
  obtain ⟨e1, h⟩ := h
  obtain ⟨e2, h⟩ := h
  refine st_icmp_ge (tg := 81) (pc' := 32) dX1_follow_29 (by decide) rfl e1 e2 (fun c => ?_) (fun c => ?_)
  · replace h := h.1 c
    refine st_aload_n (pc' := 82) dX1_follow_81 rfl rfl (j := 0) rfl ?_
    refine G_X1_24_42 dX1_follow_82 (pc' := 85) rfl rfl ?_
    refine st_iload_n (pc' := 86) dX1_follow_85 rfl rfl (j := 1) rfl ?_
    refine st_aload_n (pc' := 87) dX1_follow_86 rfl rfl (j := 0) rfl ?_
    refine G_X1_44_42 dX1_follow_87 (pc' := 90) rfl rfl ?_
    refine st_iload_n (pc' := 91) dX1_follow_90 rfl rfl (j := 2) rfl ?_
    refine st_callV (pc' := 94) (kc := k - 1) (E' := LAY) (cal := m_X0_stopBy) (n := 1) (as := [vI x2]) (S := [vI x1, vR (some 47)]) dX1_follow_91 rfl l_X1_97 k_X0_stopBy rfl L_39 c_X0 rfl rfl (Nat.le_of_ble_eq_true rfl) (by omega) ⟨Nat.le_refl _, Nat.le_refl _, Nat.le_refl _, Nat.le_refl _⟩ (Q1 := fun r M' => WP k LAY m_X1_follow 94 [(0, vR (some 42)), (1, vI x1), (2, vI x2), (3, vI x3), (4, vI x4)] (r.toList ++ [vI x1, vR (some 47)]) M' Q) (WPm.of k_X0_stopBy.1 (Nat.le_of_ble_eq_true rfl) (B_X0_stopBy_0 (by omega) ?_)) (fun r M' q => q)
    refine ⟨fun c => ?_, fun c => ?_⟩
    · replace h := h.1 c
      obtain ⟨e3, h⟩ := h
      refine ⟨e3, ?_⟩
      obtain ⟨e4, h⟩ := h
      refine ⟨e4, ?_⟩
      change WP _ LAY m_X1_follow 94 [(0, vR (some 42)), (1, vI x1), (2, vI x2), (3, vI x3), (4, vI x4)] [vI (min x2 (gi I 41 ((gi I 39 4) - 1).toNat)), vI x1, vR (some 47)] (mem (P, some 5, some 22) I J) Q
      obtain ⟨e5, h⟩ := h
      refine st_iastore (pc' := 95) (M' := (mem (P, some 5, some 22) (si I 47 (x1).toNat (min x2 (gi I 41 ((gi I 39 4) - 1).toNat))) J)) dX1_follow_94 rfl L_47 (by decide) e5 rfl ?_
      refine st_iload_n (pc' := 96) dX1_follow_95 rfl rfl (j := 2) rfl ?_
      refine st_if_eq (tg := 109) (pc' := 99) dX1_follow_96 (by decide) rfl e4 (fun c => ?_) (fun c => ?_)
      · replace h := h.1 c
        refine st_aload_n (pc' := 110) dX1_follow_109 rfl rfl (j := 0) rfl ?_
        refine G_X1_27_42 dX1_follow_110 (pc' := 113) rfl rfl ?_
        refine st_iload_n (pc' := 114) dX1_follow_113 rfl rfl (j := 1) rfl ?_
        refine st_aload_n (pc' := 115) dX1_follow_114 rfl rfl (j := 0) rfl ?_
        refine G_X1_36_42 dX1_follow_115 (pc' := 118) rfl rfl ?_
        refine st_iload_n (pc' := 119) dX1_follow_118 rfl rfl (j := 1) rfl ?_
        refine st_iconst (pc' := 120) dX1_follow_119 rfl ?_
        refine st_callV (pc' := 123) (kc := k - 1) (E' := LAY) (cal := m_X2_of) (n := 2) (as := [vI x1, vI 3]) (S := [vI x1, vR (some 48)]) dX1_follow_120 rfl l_X1_66 k_X2_of rfl L_4 c_X2 rfl rfl (Nat.le_of_ble_eq_true rfl) (by omega) ⟨Nat.le_refl _, Nat.le_refl _, Nat.le_refl _, Nat.le_refl _⟩ (Q1 := fun r M' => WP k LAY m_X1_follow 123 [(0, vR (some 42)), (1, vI x1), (2, vI x2), (3, vI x3), (4, vI x4)] (r.toList ++ [vI x1, vR (some 48)]) M' Q) (WPm.of k_X2_of.1 (Nat.le_of_ble_eq_true rfl) (B_X2_of_0 (by omega) ?_)) (fun r M' q => q)
        obtain ⟨e6, h⟩ := h
        refine ⟨e6, ?_⟩
        change WP _ LAY m_X1_follow 123 [(0, vR (some 42)), (1, vI x1), (2, vI x2), (3, vI x3), (4, vI x4)] [vI (gi (si I 47 (x1).toNat (min x2 (gi I 41 ((gi I 39 4) - 1).toNat))) 19 ((3 + (x1 * 14)) + 3).toNat), vI x1, vR (some 48)] (mem (P, some 5, some 22) (si I 47 (x1).toNat (min x2 (gi I 41 ((gi I 39 4) - 1).toNat))) J) Q
        refine st_iastore (pc' := 124) (M' := (mem (P, some 5, some 22) (si (si I 47 (x1).toNat (min x2 (gi I 41 ((gi I 39 4) - 1).toNat))) 48 (x1).toNat (gi (si I 47 (x1).toNat (min x2 (gi I 41 ((gi I 39 4) - 1).toNat))) 19 ((3 + (x1 * 14)) + 3).toNat)) J)) dX1_follow_123 rfl L_48 (by decide) e5 rfl ?_
        refine st_aload_n (pc' := 125) dX1_follow_124 rfl rfl (j := 0) rfl ?_
        refine G_X1_30_42 dX1_follow_125 (pc' := 128) rfl rfl ?_
        refine st_iload_n (pc' := 129) dX1_follow_128 rfl rfl (j := 1) rfl ?_
        refine st_aload_n (pc' := 130) dX1_follow_129 rfl rfl (j := 0) rfl ?_
        refine G_X1_36_42 dX1_follow_130 (pc' := 133) rfl rfl ?_
        refine st_iload_n (pc' := 134) dX1_follow_133 rfl rfl (j := 1) rfl ?_
        refine st_iconst (pc' := 135) dX1_follow_134 rfl ?_
        refine st_callV (pc' := 138) (kc := k - 1) (E' := LAY) (cal := m_X2_of) (n := 2) (as := [vI x1, vI 4]) (S := [vI x1, vR (some 49)]) dX1_follow_135 rfl l_X1_66 k_X2_of rfl L_4 c_X2 rfl rfl (Nat.le_of_ble_eq_true rfl) (by omega) ⟨Nat.le_refl _, Nat.le_refl _, Nat.le_refl _, Nat.le_refl _⟩ (Q1 := fun r M' => WP k LAY m_X1_follow 138 [(0, vR (some 42)), (1, vI x1), (2, vI x2), (3, vI x3), (4, vI x4)] (r.toList ++ [vI x1, vR (some 49)]) M' Q) (WPm.of k_X2_of.1 (Nat.le_of_ble_eq_true rfl) (B_X2_of_0 (by omega) ?_)) (fun r M' q => q)
        obtain ⟨e7, h⟩ := h
        refine ⟨e7, ?_⟩
        change WP _ LAY m_X1_follow 138 [(0, vR (some 42)), (1, vI x1), (2, vI x2), (3, vI x3), (4, vI x4)] [vI (gi (si (si I 47 (x1).toNat (min x2 (gi I 41 ((gi I 39 4) - 1).toNat))) 48 (x1).toNat (gi (si I 47 (x1).toNat (min x2 (gi I 41 ((gi I 39 4) - 1).toNat))) 19 ((3 + (x1 * 14)) + 3).toNat)) 19 ((3 + (x1 * 14)) + 4).toNat), vI x1, vR (some 49)] (mem (P, some 5, some 22) (si (si I 47 (x1).toNat (min x2 (gi I 41 ((gi I 39 4) - 1).toNat))) 48 (x1).toNat (gi (si I 47 (x1).toNat (min x2 (gi I 41 ((gi I 39 4) - 1).toNat))) 19 ((3 + (x1 * 14)) + 3).toNat)) J) Q
        refine st_iastore (pc' := 139) (M' := (mem (P, some 5, some 22) (si (si (si I 47 (x1).toNat (min x2 (gi I 41 ((gi I 39 4) - 1).toNat))) 48 (x1).toNat (gi (si I 47 (x1).toNat (min x2 (gi I 41 ((gi I 39 4) - 1).toNat))) 19 ((3 + (x1 * 14)) + 3).toNat)) 49 (x1).toNat (gi (si (si I 47 (x1).toNat (min x2 (gi I 41 ((gi I 39 4) - 1).toNat))) 48 (x1).toNat (gi (si I 47 (x1).toNat (min x2 (gi I 41 ((gi I 39 4) - 1).toNat))) 19 ((3 + (x1 * 14)) + 3).toNat)) 19 ((3 + (x1 * 14)) + 4).toNat)) J)) dX1_follow_138 rfl L_49 (by decide) e5 rfl ?_
        refine st_goto (pc' := 229) dX1_follow_139 (by decide) ?_
        exact st_vret dX1_follow_229 rfl rfl h
      · replace h := h.2 c
        refine st_aload_n (pc' := 100) dX1_follow_99 rfl rfl (j := 0) rfl ?_
        refine G_X1_44_42 dX1_follow_100 (pc' := 103) rfl rfl ?_
        refine G_X1_100_39 dX1_follow_103 (pc' := 106) rfl rfl ?_
        rw [show gi (si I 47 (x1).toNat (min x2 (gi I 41 ((gi I 39 4) - 1).toNat))) 39 4 = (gi I 39 4) from (gi_cell _ _ _ _ (by decide))]
        refine st_if_ne (tg := 142) (pc' := 109) dX1_follow_106 (by decide) rfl (gi_in _ _ _) (fun c => ?_) (fun c => ?_)
        · replace h := h.1 c
          refine st_iload_n (pc' := 143) dX1_follow_142 rfl rfl (j := 3) rfl ?_
          refine st_aload_n (pc' := 144) dX1_follow_143 rfl rfl (j := 0) rfl ?_
          refine G_X1_44_42 dX1_follow_144 (pc' := 147) rfl rfl ?_
          refine G_X1_100_39 dX1_follow_147 (pc' := 150) rfl rfl ?_
          rw [show gi (si I 47 (x1).toNat (min x2 (gi I 41 ((gi I 39 4) - 1).toNat))) 39 4 = (gi I 39 4) from (gi_cell _ _ _ _ (by decide))]
          refine st_icmp_ge (tg := 215) (pc' := 153) dX1_follow_150 (by decide) rfl e2 (gi_in _ _ _) (fun c => ?_) (fun c => ?_)
          · replace h := h.1 c
            refine st_aload_n (pc' := 216) dX1_follow_215 rfl rfl (j := 0) rfl ?_
            refine G_X1_27_42 dX1_follow_216 (pc' := 219) rfl rfl ?_
            refine st_iload_n (pc' := 220) dX1_follow_219 rfl rfl (j := 1) rfl ?_
            refine st_iconst (pc' := 221) dX1_follow_220 rfl ?_
            refine st_iastore (pc' := 222) (M' := (mem (P, some 5, some 22) (si (si I 47 (x1).toNat (min x2 (gi I 41 ((gi I 39 4) - 1).toNat))) 48 (x1).toNat (-1)) J)) dX1_follow_221 rfl L_48 (by decide) e5 rfl ?_
            refine st_aload_n (pc' := 223) dX1_follow_222 rfl rfl (j := 0) rfl ?_
            refine G_X1_30_42 dX1_follow_223 (pc' := 226) rfl rfl ?_
            refine st_iload_n (pc' := 227) dX1_follow_226 rfl rfl (j := 1) rfl ?_
            refine st_iconst (pc' := 228) dX1_follow_227 rfl ?_
            refine st_iastore (pc' := 229) (M' := (mem (P, some 5, some 22) (si (si (si I 47 (x1).toNat (min x2 (gi I 41 ((gi I 39 4) - 1).toNat))) 48 (x1).toNat (-1)) 49 (x1).toNat 0) J)) dX1_follow_228 rfl L_49 (by decide) e5 rfl ?_
            exact st_vret dX1_follow_229 rfl rfl h
          · replace h := h.2 c
            refine st_aload_n (pc' := 154) dX1_follow_153 rfl rfl (j := 0) rfl ?_
            refine G_X1_44_42 dX1_follow_154 (pc' := 157) rfl rfl ?_
            refine st_iload_n (pc' := 158) dX1_follow_157 rfl rfl (j := 3) rfl ?_
            refine st_callV (pc' := 161) (kc := k - 1) (E' := LAY) (cal := m_X0_beginOf) (n := 1) (as := [vI x3]) (S := []) dX1_follow_158 rfl l_X1_104 k_X0_beginOf rfl L_39 c_X0 rfl rfl (Nat.le_of_ble_eq_true rfl) (by omega) ⟨Nat.le_refl _, Nat.le_refl _, Nat.le_refl _, Nat.le_refl _⟩ (Q1 := fun r M' => WP k LAY m_X1_follow 161 [(0, vR (some 42)), (1, vI x1), (2, vI x2), (3, vI x3), (4, vI x4)] (r.toList ++ []) M' Q) (WPm.of k_X0_beginOf.1 (Nat.le_of_ble_eq_true rfl) (B_X0_beginOf_0 (by omega) ?_)) (fun r M' q => q)
            refine ⟨e2, ?_⟩
            refine ⟨fun c => ?_, fun c => ?_⟩
            · replace h := h.1 c
              obtain ⟨e8, h⟩ := h
              refine ⟨e8, ?_⟩
              change WP _ LAY m_X1_follow 161 [(0, vR (some 42)), (1, vI x1), (2, vI x2), (3, vI x3), (4, vI x4)] [vI (gi (si I 47 (x1).toNat (min x2 (gi I 41 ((gi I 39 4) - 1).toNat))) 41 (x3 - 1).toNat)] (mem (P, some 5, some 22) (si I 47 (x1).toNat (min x2 (gi I 41 ((gi I 39 4) - 1).toNat))) J) Q
              refine st_iload_n (pc' := 162) dX1_follow_161 rfl rfl (j := 2) rfl ?_
              refine st_icmp_ge (tg := 215) (pc' := 165) dX1_follow_162 (by decide) rfl (gi_in _ _ _) e4 (fun c => ?_) (fun c => ?_)
              · replace h := h.1 c
                refine st_aload_n (pc' := 216) dX1_follow_215 rfl rfl (j := 0) rfl ?_
                refine G_X1_27_42 dX1_follow_216 (pc' := 219) rfl rfl ?_
                refine st_iload_n (pc' := 220) dX1_follow_219 rfl rfl (j := 1) rfl ?_
                refine st_iconst (pc' := 221) dX1_follow_220 rfl ?_
                refine st_iastore (pc' := 222) (M' := (mem (P, some 5, some 22) (si (si I 47 (x1).toNat (min x2 (gi I 41 ((gi I 39 4) - 1).toNat))) 48 (x1).toNat (-1)) J)) dX1_follow_221 rfl L_48 (by decide) e5 rfl ?_
                refine st_aload_n (pc' := 223) dX1_follow_222 rfl rfl (j := 0) rfl ?_
                refine G_X1_30_42 dX1_follow_223 (pc' := 226) rfl rfl ?_
                refine st_iload_n (pc' := 227) dX1_follow_226 rfl rfl (j := 1) rfl ?_
                refine st_iconst (pc' := 228) dX1_follow_227 rfl ?_
                refine st_iastore (pc' := 229) (M' := (mem (P, some 5, some 22) (si (si (si I 47 (x1).toNat (min x2 (gi I 41 ((gi I 39 4) - 1).toNat))) 48 (x1).toNat (-1)) 49 (x1).toNat 0) J)) dX1_follow_228 rfl L_49 (by decide) e5 rfl ?_
                exact st_vret dX1_follow_229 rfl rfl h
              · replace h := h.2 c
                refine st_aload_n (pc' := 166) dX1_follow_165 rfl rfl (j := 0) rfl ?_
                refine G_X1_27_42 dX1_follow_166 (pc' := 169) rfl rfl ?_
                refine st_iload_n (pc' := 170) dX1_follow_169 rfl rfl (j := 1) rfl ?_
                refine st_aload_n (pc' := 171) dX1_follow_170 rfl rfl (j := 0) rfl ?_
                refine G_X1_44_42 dX1_follow_171 (pc' := 174) rfl rfl ?_
                refine G_X1_94_39 dX1_follow_174 (pc' := 177) rfl rfl ?_
                refine st_iload_n (pc' := 178) dX1_follow_177 rfl rfl (j := 3) rfl ?_
                obtain ⟨e9, h⟩ := h
                refine st_iaload (pc' := 179) (v := (gi I 40 (x3).toNat)) dX1_follow_178 rfl L_40 (by decide) e9 (show gi (si I 47 (x1).toNat (min x2 (gi I 41 ((gi I 39 4) - 1).toNat))) 40 (x3).toNat = (gi I 40 (x3).toNat) from (gi_cell _ _ _ _ (by decide))) ?_
                refine st_iastore (pc' := 180) (M' := (mem (P, some 5, some 22) (si (si I 47 (x1).toNat (min x2 (gi I 41 ((gi I 39 4) - 1).toNat))) 48 (x1).toNat (gi I 40 (x3).toNat)) J)) dX1_follow_179 rfl L_48 (by decide) e5 rfl ?_
                refine st_aload_n (pc' := 181) dX1_follow_180 rfl rfl (j := 0) rfl ?_
                refine G_X1_30_42 dX1_follow_181 (pc' := 184) rfl rfl ?_
                refine st_iload_n (pc' := 185) dX1_follow_184 rfl rfl (j := 1) rfl ?_
                refine st_iload_n (pc' := 186) dX1_follow_185 rfl rfl (j := 3) rfl ?_
                refine st_if_ne (tg := 199) (pc' := 189) dX1_follow_186 (by decide) rfl e2 (fun c => ?_) (fun c => ?_)
                · replace h := h.1 c
                  refine st_iconst (pc' := 200) dX1_follow_199 rfl ?_
                  refine st_iload_n (pc' := 201) dX1_follow_200 rfl rfl (j := 2) rfl ?_
                  refine st_iadd (pc' := 202) dX1_follow_201 rfl ?_
                  refine st_aload_n (pc' := 203) dX1_follow_202 rfl rfl (j := 0) rfl ?_
                  refine G_X1_44_42 dX1_follow_203 (pc' := 206) rfl rfl ?_
                  refine st_iload_n (pc' := 207) dX1_follow_206 rfl rfl (j := 3) rfl ?_
                  refine st_callV (pc' := 210) (kc := k - 1) (E' := LAY) (cal := m_X0_beginOf) (n := 1) (as := [vI x3]) (S := [vI (0 + x2), vI x1, vR (some 49)]) dX1_follow_207 rfl l_X1_104 k_X0_beginOf rfl L_39 c_X0 rfl rfl (Nat.le_of_ble_eq_true rfl) (by omega) ⟨Nat.le_refl _, Nat.le_refl _, Nat.le_refl _, Nat.le_refl _⟩ (Q1 := fun r M' => WP k LAY m_X1_follow 210 [(0, vR (some 42)), (1, vI x1), (2, vI x2), (3, vI x3), (4, vI x4)] (r.toList ++ [vI (0 + x2), vI x1, vR (some 49)]) M' Q) (WPm.of k_X0_beginOf.1 (Nat.le_of_ble_eq_true rfl) (B_X0_beginOf_0 (by omega) ?_)) (fun r M' q => q)
                  refine ⟨e2, ?_⟩
                  refine ⟨fun c => ?_, fun c => ?_⟩
                  · replace h := h.1 c
                    refine ⟨e8, ?_⟩
                    change WP _ LAY m_X1_follow 210 [(0, vR (some 42)), (1, vI x1), (2, vI x2), (3, vI x3), (4, vI x4)] [vI (gi (si (si I 47 (x1).toNat (min x2 (gi I 41 ((gi I 39 4) - 1).toNat))) 48 (x1).toNat (gi I 40 (x3).toNat)) 41 (x3 - 1).toNat), vI (0 + x2), vI x1, vR (some 49)] (mem (P, some 5, some 22) (si (si I 47 (x1).toNat (min x2 (gi I 41 ((gi I 39 4) - 1).toNat))) 48 (x1).toNat (gi I 40 (x3).toNat)) J) Q
                    refine st_isub (pc' := 211) dX1_follow_210 rfl ?_
                    refine st_iastore (pc' := 212) (M' := (mem (P, some 5, some 22) (si (si (si I 47 (x1).toNat (min x2 (gi I 41 ((gi I 39 4) - 1).toNat))) 48 (x1).toNat (gi I 40 (x3).toNat)) 49 (x1).toNat ((0 + x2) - (gi (si (si I 47 (x1).toNat (min x2 (gi I 41 ((gi I 39 4) - 1).toNat))) 48 (x1).toNat (gi I 40 (x3).toNat)) 41 (x3 - 1).toNat))) J)) dX1_follow_211 rfl L_49 (by decide) e5 rfl ?_
                    refine st_goto (pc' := 229) dX1_follow_212 (by decide) ?_
                    exact st_vret dX1_follow_229 rfl rfl h
                  · replace h := h.2 c
                    change WP _ LAY m_X1_follow 210 [(0, vR (some 42)), (1, vI x1), (2, vI x2), (3, vI x3), (4, vI x4)] [vI 0, vI (0 + x2), vI x1, vR (some 49)] (mem (P, some 5, some 22) (si (si I 47 (x1).toNat (min x2 (gi I 41 ((gi I 39 4) - 1).toNat))) 48 (x1).toNat (gi I 40 (x3).toNat)) J) Q
                    refine st_isub (pc' := 211) dX1_follow_210 rfl ?_
                    refine st_iastore (pc' := 212) (M' := (mem (P, some 5, some 22) (si (si (si I 47 (x1).toNat (min x2 (gi I 41 ((gi I 39 4) - 1).toNat))) 48 (x1).toNat (gi I 40 (x3).toNat)) 49 (x1).toNat ((0 + x2) - 0)) J)) dX1_follow_211 rfl L_49 (by decide) e5 rfl ?_
                    refine st_goto (pc' := 229) dX1_follow_212 (by decide) ?_
                    exact st_vret dX1_follow_229 rfl rfl h
                · replace h := h.2 c
                  refine st_aload_n (pc' := 190) dX1_follow_189 rfl rfl (j := 0) rfl ?_
                  refine G_X1_44_42 dX1_follow_190 (pc' := 193) rfl rfl ?_
                  refine G_X1_107_39 dX1_follow_193 (pc' := 196) rfl rfl ?_
                  rw [show gi (si (si I 47 (x1).toNat (min x2 (gi I 41 ((gi I 39 4) - 1).toNat))) 48 (x1).toNat (gi I 40 (x3).toNat)) 39 5 = (gi I 39 5) from ((gi_cell _ _ _ _ (by decide)).trans (gi_cell _ _ _ _ (by decide)))]
                  refine st_goto (pc' := 200) dX1_follow_196 (by decide) ?_
                  refine st_iload_n (pc' := 201) dX1_follow_200 rfl rfl (j := 2) rfl ?_
                  refine st_iadd (pc' := 202) dX1_follow_201 rfl ?_
                  refine st_aload_n (pc' := 203) dX1_follow_202 rfl rfl (j := 0) rfl ?_
                  refine G_X1_44_42 dX1_follow_203 (pc' := 206) rfl rfl ?_
                  refine st_iload_n (pc' := 207) dX1_follow_206 rfl rfl (j := 3) rfl ?_
                  refine st_callV (pc' := 210) (kc := k - 1) (E' := LAY) (cal := m_X0_beginOf) (n := 1) (as := [vI x3]) (S := [vI ((gi I 39 5) + x2), vI x1, vR (some 49)]) dX1_follow_207 rfl l_X1_104 k_X0_beginOf rfl L_39 c_X0 rfl rfl (Nat.le_of_ble_eq_true rfl) (by omega) ⟨Nat.le_refl _, Nat.le_refl _, Nat.le_refl _, Nat.le_refl _⟩ (Q1 := fun r M' => WP k LAY m_X1_follow 210 [(0, vR (some 42)), (1, vI x1), (2, vI x2), (3, vI x3), (4, vI x4)] (r.toList ++ [vI ((gi I 39 5) + x2), vI x1, vR (some 49)]) M' Q) (WPm.of k_X0_beginOf.1 (Nat.le_of_ble_eq_true rfl) (B_X0_beginOf_0 (by omega) ?_)) (fun r M' q => q)
                  refine ⟨e2, ?_⟩
                  refine ⟨fun c => ?_, fun c => ?_⟩
                  · replace h := h.1 c
                    refine ⟨e8, ?_⟩
                    change WP _ LAY m_X1_follow 210 [(0, vR (some 42)), (1, vI x1), (2, vI x2), (3, vI x3), (4, vI x4)] [vI (gi (si (si I 47 (x1).toNat (min x2 (gi I 41 ((gi I 39 4) - 1).toNat))) 48 (x1).toNat (gi I 40 (x3).toNat)) 41 (x3 - 1).toNat), vI ((gi I 39 5) + x2), vI x1, vR (some 49)] (mem (P, some 5, some 22) (si (si I 47 (x1).toNat (min x2 (gi I 41 ((gi I 39 4) - 1).toNat))) 48 (x1).toNat (gi I 40 (x3).toNat)) J) Q
                    refine st_isub (pc' := 211) dX1_follow_210 rfl ?_
                    refine st_iastore (pc' := 212) (M' := (mem (P, some 5, some 22) (si (si (si I 47 (x1).toNat (min x2 (gi I 41 ((gi I 39 4) - 1).toNat))) 48 (x1).toNat (gi I 40 (x3).toNat)) 49 (x1).toNat (((gi I 39 5) + x2) - (gi (si (si I 47 (x1).toNat (min x2 (gi I 41 ((gi I 39 4) - 1).toNat))) 48 (x1).toNat (gi I 40 (x3).toNat)) 41 (x3 - 1).toNat))) J)) dX1_follow_211 rfl L_49 (by decide) e5 rfl ?_
                    refine st_goto (pc' := 229) dX1_follow_212 (by decide) ?_
                    exact st_vret dX1_follow_229 rfl rfl h
                  · replace h := h.2 c
                    change WP _ LAY m_X1_follow 210 [(0, vR (some 42)), (1, vI x1), (2, vI x2), (3, vI x3), (4, vI x4)] [vI 0, vI ((gi I 39 5) + x2), vI x1, vR (some 49)] (mem (P, some 5, some 22) (si (si I 47 (x1).toNat (min x2 (gi I 41 ((gi I 39 4) - 1).toNat))) 48 (x1).toNat (gi I 40 (x3).toNat)) J) Q
                    refine st_isub (pc' := 211) dX1_follow_210 rfl ?_
                    refine st_iastore (pc' := 212) (M' := (mem (P, some 5, some 22) (si (si (si I 47 (x1).toNat (min x2 (gi I 41 ((gi I 39 4) - 1).toNat))) 48 (x1).toNat (gi I 40 (x3).toNat)) 49 (x1).toNat (((gi I 39 5) + x2) - 0)) J)) dX1_follow_211 rfl L_49 (by decide) e5 rfl ?_
                    refine st_goto (pc' := 229) dX1_follow_212 (by decide) ?_
                    exact st_vret dX1_follow_229 rfl rfl h
            · replace h := h.2 c
              change WP _ LAY m_X1_follow 161 [(0, vR (some 42)), (1, vI x1), (2, vI x2), (3, vI x3), (4, vI x4)] [vI 0] (mem (P, some 5, some 22) (si I 47 (x1).toNat (min x2 (gi I 41 ((gi I 39 4) - 1).toNat))) J) Q
              refine st_iload_n (pc' := 162) dX1_follow_161 rfl rfl (j := 2) rfl ?_
              refine st_icmp_ge (tg := 215) (pc' := 165) dX1_follow_162 (by decide) rfl (by decide) e4 (fun c => ?_) (fun c => ?_)
              · replace h := h.1 c
                refine st_aload_n (pc' := 216) dX1_follow_215 rfl rfl (j := 0) rfl ?_
                refine G_X1_27_42 dX1_follow_216 (pc' := 219) rfl rfl ?_
                refine st_iload_n (pc' := 220) dX1_follow_219 rfl rfl (j := 1) rfl ?_
                refine st_iconst (pc' := 221) dX1_follow_220 rfl ?_
                refine st_iastore (pc' := 222) (M' := (mem (P, some 5, some 22) (si (si I 47 (x1).toNat (min x2 (gi I 41 ((gi I 39 4) - 1).toNat))) 48 (x1).toNat (-1)) J)) dX1_follow_221 rfl L_48 (by decide) e5 rfl ?_
                refine st_aload_n (pc' := 223) dX1_follow_222 rfl rfl (j := 0) rfl ?_
                refine G_X1_30_42 dX1_follow_223 (pc' := 226) rfl rfl ?_
                refine st_iload_n (pc' := 227) dX1_follow_226 rfl rfl (j := 1) rfl ?_
                refine st_iconst (pc' := 228) dX1_follow_227 rfl ?_
                refine st_iastore (pc' := 229) (M' := (mem (P, some 5, some 22) (si (si (si I 47 (x1).toNat (min x2 (gi I 41 ((gi I 39 4) - 1).toNat))) 48 (x1).toNat (-1)) 49 (x1).toNat 0) J)) dX1_follow_228 rfl L_49 (by decide) e5 rfl ?_
                exact st_vret dX1_follow_229 rfl rfl h
              · replace h := h.2 c
                refine st_aload_n (pc' := 166) dX1_follow_165 rfl rfl (j := 0) rfl ?_
                refine G_X1_27_42 dX1_follow_166 (pc' := 169) rfl rfl ?_
                refine st_iload_n (pc' := 170) dX1_follow_169 rfl rfl (j := 1) rfl ?_
                refine st_aload_n (pc' := 171) dX1_follow_170 rfl rfl (j := 0) rfl ?_
                refine G_X1_44_42 dX1_follow_171 (pc' := 174) rfl rfl ?_
                refine G_X1_94_39 dX1_follow_174 (pc' := 177) rfl rfl ?_
                refine st_iload_n (pc' := 178) dX1_follow_177 rfl rfl (j := 3) rfl ?_
                obtain ⟨e10, h⟩ := h
                refine st_iaload (pc' := 179) (v := (gi I 40 (x3).toNat)) dX1_follow_178 rfl L_40 (by decide) e10 (show gi (si I 47 (x1).toNat (min x2 (gi I 41 ((gi I 39 4) - 1).toNat))) 40 (x3).toNat = (gi I 40 (x3).toNat) from (gi_cell _ _ _ _ (by decide))) ?_
                refine st_iastore (pc' := 180) (M' := (mem (P, some 5, some 22) (si (si I 47 (x1).toNat (min x2 (gi I 41 ((gi I 39 4) - 1).toNat))) 48 (x1).toNat (gi I 40 (x3).toNat)) J)) dX1_follow_179 rfl L_48 (by decide) e5 rfl ?_
                refine st_aload_n (pc' := 181) dX1_follow_180 rfl rfl (j := 0) rfl ?_
                refine G_X1_30_42 dX1_follow_181 (pc' := 184) rfl rfl ?_
                refine st_iload_n (pc' := 185) dX1_follow_184 rfl rfl (j := 1) rfl ?_
                refine st_iload_n (pc' := 186) dX1_follow_185 rfl rfl (j := 3) rfl ?_
                refine st_if_ne (tg := 199) (pc' := 189) dX1_follow_186 (by decide) rfl e2 (fun c => ?_) (fun c => ?_)
                · replace h := h.1 c
                  refine st_iconst (pc' := 200) dX1_follow_199 rfl ?_
                  refine st_iload_n (pc' := 201) dX1_follow_200 rfl rfl (j := 2) rfl ?_
                  refine st_iadd (pc' := 202) dX1_follow_201 rfl ?_
                  refine st_aload_n (pc' := 203) dX1_follow_202 rfl rfl (j := 0) rfl ?_
                  refine G_X1_44_42 dX1_follow_203 (pc' := 206) rfl rfl ?_
                  refine st_iload_n (pc' := 207) dX1_follow_206 rfl rfl (j := 3) rfl ?_
                  refine st_callV (pc' := 210) (kc := k - 1) (E' := LAY) (cal := m_X0_beginOf) (n := 1) (as := [vI x3]) (S := [vI (0 + x2), vI x1, vR (some 49)]) dX1_follow_207 rfl l_X1_104 k_X0_beginOf rfl L_39 c_X0 rfl rfl (Nat.le_of_ble_eq_true rfl) (by omega) ⟨Nat.le_refl _, Nat.le_refl _, Nat.le_refl _, Nat.le_refl _⟩ (Q1 := fun r M' => WP k LAY m_X1_follow 210 [(0, vR (some 42)), (1, vI x1), (2, vI x2), (3, vI x3), (4, vI x4)] (r.toList ++ [vI (0 + x2), vI x1, vR (some 49)]) M' Q) (WPm.of k_X0_beginOf.1 (Nat.le_of_ble_eq_true rfl) (B_X0_beginOf_0 (by omega) ?_)) (fun r M' q => q)
                  refine ⟨e2, ?_⟩
                  refine ⟨fun c => ?_, fun c => ?_⟩
                  · replace h := h.1 c
                    obtain ⟨e11, h⟩ := h
                    refine ⟨e11, ?_⟩
                    change WP _ LAY m_X1_follow 210 [(0, vR (some 42)), (1, vI x1), (2, vI x2), (3, vI x3), (4, vI x4)] [vI (gi (si (si I 47 (x1).toNat (min x2 (gi I 41 ((gi I 39 4) - 1).toNat))) 48 (x1).toNat (gi I 40 (x3).toNat)) 41 (x3 - 1).toNat), vI (0 + x2), vI x1, vR (some 49)] (mem (P, some 5, some 22) (si (si I 47 (x1).toNat (min x2 (gi I 41 ((gi I 39 4) - 1).toNat))) 48 (x1).toNat (gi I 40 (x3).toNat)) J) Q
                    refine st_isub (pc' := 211) dX1_follow_210 rfl ?_
                    refine st_iastore (pc' := 212) (M' := (mem (P, some 5, some 22) (si (si (si I 47 (x1).toNat (min x2 (gi I 41 ((gi I 39 4) - 1).toNat))) 48 (x1).toNat (gi I 40 (x3).toNat)) 49 (x1).toNat ((0 + x2) - (gi (si (si I 47 (x1).toNat (min x2 (gi I 41 ((gi I 39 4) - 1).toNat))) 48 (x1).toNat (gi I 40 (x3).toNat)) 41 (x3 - 1).toNat))) J)) dX1_follow_211 rfl L_49 (by decide) e5 rfl ?_
                    refine st_goto (pc' := 229) dX1_follow_212 (by decide) ?_
                    exact st_vret dX1_follow_229 rfl rfl h
                  · replace h := h.2 c
                    change WP _ LAY m_X1_follow 210 [(0, vR (some 42)), (1, vI x1), (2, vI x2), (3, vI x3), (4, vI x4)] [vI 0, vI (0 + x2), vI x1, vR (some 49)] (mem (P, some 5, some 22) (si (si I 47 (x1).toNat (min x2 (gi I 41 ((gi I 39 4) - 1).toNat))) 48 (x1).toNat (gi I 40 (x3).toNat)) J) Q
                    refine st_isub (pc' := 211) dX1_follow_210 rfl ?_
                    refine st_iastore (pc' := 212) (M' := (mem (P, some 5, some 22) (si (si (si I 47 (x1).toNat (min x2 (gi I 41 ((gi I 39 4) - 1).toNat))) 48 (x1).toNat (gi I 40 (x3).toNat)) 49 (x1).toNat ((0 + x2) - 0)) J)) dX1_follow_211 rfl L_49 (by decide) e5 rfl ?_
                    refine st_goto (pc' := 229) dX1_follow_212 (by decide) ?_
                    exact st_vret dX1_follow_229 rfl rfl h
                · replace h := h.2 c
                  refine st_aload_n (pc' := 190) dX1_follow_189 rfl rfl (j := 0) rfl ?_
                  refine G_X1_44_42 dX1_follow_190 (pc' := 193) rfl rfl ?_
                  refine G_X1_107_39 dX1_follow_193 (pc' := 196) rfl rfl ?_
                  rw [show gi (si (si I 47 (x1).toNat (min x2 (gi I 41 ((gi I 39 4) - 1).toNat))) 48 (x1).toNat (gi I 40 (x3).toNat)) 39 5 = (gi I 39 5) from ((gi_cell _ _ _ _ (by decide)).trans (gi_cell _ _ _ _ (by decide)))]
                  refine st_goto (pc' := 200) dX1_follow_196 (by decide) ?_
                  refine st_iload_n (pc' := 201) dX1_follow_200 rfl rfl (j := 2) rfl ?_
                  refine st_iadd (pc' := 202) dX1_follow_201 rfl ?_
                  refine st_aload_n (pc' := 203) dX1_follow_202 rfl rfl (j := 0) rfl ?_
                  refine G_X1_44_42 dX1_follow_203 (pc' := 206) rfl rfl ?_
                  refine st_iload_n (pc' := 207) dX1_follow_206 rfl rfl (j := 3) rfl ?_
                  refine st_callV (pc' := 210) (kc := k - 1) (E' := LAY) (cal := m_X0_beginOf) (n := 1) (as := [vI x3]) (S := [vI ((gi I 39 5) + x2), vI x1, vR (some 49)]) dX1_follow_207 rfl l_X1_104 k_X0_beginOf rfl L_39 c_X0 rfl rfl (Nat.le_of_ble_eq_true rfl) (by omega) ⟨Nat.le_refl _, Nat.le_refl _, Nat.le_refl _, Nat.le_refl _⟩ (Q1 := fun r M' => WP k LAY m_X1_follow 210 [(0, vR (some 42)), (1, vI x1), (2, vI x2), (3, vI x3), (4, vI x4)] (r.toList ++ [vI ((gi I 39 5) + x2), vI x1, vR (some 49)]) M' Q) (WPm.of k_X0_beginOf.1 (Nat.le_of_ble_eq_true rfl) (B_X0_beginOf_0 (by omega) ?_)) (fun r M' q => q)
                  refine ⟨e2, ?_⟩
                  refine ⟨fun c => ?_, fun c => ?_⟩
                  · replace h := h.1 c
                    obtain ⟨e12, h⟩ := h
                    refine ⟨e12, ?_⟩
                    change WP _ LAY m_X1_follow 210 [(0, vR (some 42)), (1, vI x1), (2, vI x2), (3, vI x3), (4, vI x4)] [vI (gi (si (si I 47 (x1).toNat (min x2 (gi I 41 ((gi I 39 4) - 1).toNat))) 48 (x1).toNat (gi I 40 (x3).toNat)) 41 (x3 - 1).toNat), vI ((gi I 39 5) + x2), vI x1, vR (some 49)] (mem (P, some 5, some 22) (si (si I 47 (x1).toNat (min x2 (gi I 41 ((gi I 39 4) - 1).toNat))) 48 (x1).toNat (gi I 40 (x3).toNat)) J) Q
                    refine st_isub (pc' := 211) dX1_follow_210 rfl ?_
                    refine st_iastore (pc' := 212) (M' := (mem (P, some 5, some 22) (si (si (si I 47 (x1).toNat (min x2 (gi I 41 ((gi I 39 4) - 1).toNat))) 48 (x1).toNat (gi I 40 (x3).toNat)) 49 (x1).toNat (((gi I 39 5) + x2) - (gi (si (si I 47 (x1).toNat (min x2 (gi I 41 ((gi I 39 4) - 1).toNat))) 48 (x1).toNat (gi I 40 (x3).toNat)) 41 (x3 - 1).toNat))) J)) dX1_follow_211 rfl L_49 (by decide) e5 rfl ?_
                    refine st_goto (pc' := 229) dX1_follow_212 (by decide) ?_
                    exact st_vret dX1_follow_229 rfl rfl h
                  · replace h := h.2 c
                    change WP _ LAY m_X1_follow 210 [(0, vR (some 42)), (1, vI x1), (2, vI x2), (3, vI x3), (4, vI x4)] [vI 0, vI ((gi I 39 5) + x2), vI x1, vR (some 49)] (mem (P, some 5, some 22) (si (si I 47 (x1).toNat (min x2 (gi I 41 ((gi I 39 4) - 1).toNat))) 48 (x1).toNat (gi I 40 (x3).toNat)) J) Q
                    refine st_isub (pc' := 211) dX1_follow_210 rfl ?_
                    refine st_iastore (pc' := 212) (M' := (mem (P, some 5, some 22) (si (si (si I 47 (x1).toNat (min x2 (gi I 41 ((gi I 39 4) - 1).toNat))) 48 (x1).toNat (gi I 40 (x3).toNat)) 49 (x1).toNat (((gi I 39 5) + x2) - 0)) J)) dX1_follow_211 rfl L_49 (by decide) e5 rfl ?_
                    refine st_goto (pc' := 229) dX1_follow_212 (by decide) ?_
                    exact st_vret dX1_follow_229 rfl rfl h
        · replace h := h.2 c
          refine st_aload_n (pc' := 110) dX1_follow_109 rfl rfl (j := 0) rfl ?_
          refine G_X1_27_42 dX1_follow_110 (pc' := 113) rfl rfl ?_
          refine st_iload_n (pc' := 114) dX1_follow_113 rfl rfl (j := 1) rfl ?_
          refine st_aload_n (pc' := 115) dX1_follow_114 rfl rfl (j := 0) rfl ?_
          refine G_X1_36_42 dX1_follow_115 (pc' := 118) rfl rfl ?_
          refine st_iload_n (pc' := 119) dX1_follow_118 rfl rfl (j := 1) rfl ?_
          refine st_iconst (pc' := 120) dX1_follow_119 rfl ?_
          refine st_callV (pc' := 123) (kc := k - 1) (E' := LAY) (cal := m_X2_of) (n := 2) (as := [vI x1, vI 3]) (S := [vI x1, vR (some 48)]) dX1_follow_120 rfl l_X1_66 k_X2_of rfl L_4 c_X2 rfl rfl (Nat.le_of_ble_eq_true rfl) (by omega) ⟨Nat.le_refl _, Nat.le_refl _, Nat.le_refl _, Nat.le_refl _⟩ (Q1 := fun r M' => WP k LAY m_X1_follow 123 [(0, vR (some 42)), (1, vI x1), (2, vI x2), (3, vI x3), (4, vI x4)] (r.toList ++ [vI x1, vR (some 48)]) M' Q) (WPm.of k_X2_of.1 (Nat.le_of_ble_eq_true rfl) (B_X2_of_0 (by omega) ?_)) (fun r M' q => q)
          obtain ⟨e13, h⟩ := h
          refine ⟨e13, ?_⟩
          change WP _ LAY m_X1_follow 123 [(0, vR (some 42)), (1, vI x1), (2, vI x2), (3, vI x3), (4, vI x4)] [vI (gi (si I 47 (x1).toNat (min x2 (gi I 41 ((gi I 39 4) - 1).toNat))) 19 ((3 + (x1 * 14)) + 3).toNat), vI x1, vR (some 48)] (mem (P, some 5, some 22) (si I 47 (x1).toNat (min x2 (gi I 41 ((gi I 39 4) - 1).toNat))) J) Q
          refine st_iastore (pc' := 124) (M' := (mem (P, some 5, some 22) (si (si I 47 (x1).toNat (min x2 (gi I 41 ((gi I 39 4) - 1).toNat))) 48 (x1).toNat (gi (si I 47 (x1).toNat (min x2 (gi I 41 ((gi I 39 4) - 1).toNat))) 19 ((3 + (x1 * 14)) + 3).toNat)) J)) dX1_follow_123 rfl L_48 (by decide) e5 rfl ?_
          refine st_aload_n (pc' := 125) dX1_follow_124 rfl rfl (j := 0) rfl ?_
          refine G_X1_30_42 dX1_follow_125 (pc' := 128) rfl rfl ?_
          refine st_iload_n (pc' := 129) dX1_follow_128 rfl rfl (j := 1) rfl ?_
          refine st_aload_n (pc' := 130) dX1_follow_129 rfl rfl (j := 0) rfl ?_
          refine G_X1_36_42 dX1_follow_130 (pc' := 133) rfl rfl ?_
          refine st_iload_n (pc' := 134) dX1_follow_133 rfl rfl (j := 1) rfl ?_
          refine st_iconst (pc' := 135) dX1_follow_134 rfl ?_
          refine st_callV (pc' := 138) (kc := k - 1) (E' := LAY) (cal := m_X2_of) (n := 2) (as := [vI x1, vI 4]) (S := [vI x1, vR (some 49)]) dX1_follow_135 rfl l_X1_66 k_X2_of rfl L_4 c_X2 rfl rfl (Nat.le_of_ble_eq_true rfl) (by omega) ⟨Nat.le_refl _, Nat.le_refl _, Nat.le_refl _, Nat.le_refl _⟩ (Q1 := fun r M' => WP k LAY m_X1_follow 138 [(0, vR (some 42)), (1, vI x1), (2, vI x2), (3, vI x3), (4, vI x4)] (r.toList ++ [vI x1, vR (some 49)]) M' Q) (WPm.of k_X2_of.1 (Nat.le_of_ble_eq_true rfl) (B_X2_of_0 (by omega) ?_)) (fun r M' q => q)
          obtain ⟨e14, h⟩ := h
          refine ⟨e14, ?_⟩
          change WP _ LAY m_X1_follow 138 [(0, vR (some 42)), (1, vI x1), (2, vI x2), (3, vI x3), (4, vI x4)] [vI (gi (si (si I 47 (x1).toNat (min x2 (gi I 41 ((gi I 39 4) - 1).toNat))) 48 (x1).toNat (gi (si I 47 (x1).toNat (min x2 (gi I 41 ((gi I 39 4) - 1).toNat))) 19 ((3 + (x1 * 14)) + 3).toNat)) 19 ((3 + (x1 * 14)) + 4).toNat), vI x1, vR (some 49)] (mem (P, some 5, some 22) (si (si I 47 (x1).toNat (min x2 (gi I 41 ((gi I 39 4) - 1).toNat))) 48 (x1).toNat (gi (si I 47 (x1).toNat (min x2 (gi I 41 ((gi I 39 4) - 1).toNat))) 19 ((3 + (x1 * 14)) + 3).toNat)) J) Q
          refine st_iastore (pc' := 139) (M' := (mem (P, some 5, some 22) (si (si (si I 47 (x1).toNat (min x2 (gi I 41 ((gi I 39 4) - 1).toNat))) 48 (x1).toNat (gi (si I 47 (x1).toNat (min x2 (gi I 41 ((gi I 39 4) - 1).toNat))) 19 ((3 + (x1 * 14)) + 3).toNat)) 49 (x1).toNat (gi (si (si I 47 (x1).toNat (min x2 (gi I 41 ((gi I 39 4) - 1).toNat))) 48 (x1).toNat (gi (si I 47 (x1).toNat (min x2 (gi I 41 ((gi I 39 4) - 1).toNat))) 19 ((3 + (x1 * 14)) + 3).toNat)) 19 ((3 + (x1 * 14)) + 4).toNat)) J)) dX1_follow_138 rfl L_49 (by decide) e5 rfl ?_
          refine st_goto (pc' := 229) dX1_follow_139 (by decide) ?_
          exact st_vret dX1_follow_229 rfl rfl h
    · replace h := h.2 c
      change WP _ LAY m_X1_follow 94 [(0, vR (some 42)), (1, vI x1), (2, vI x2), (3, vI x3), (4, vI x4)] [vI 0, vI x1, vR (some 47)] (mem (P, some 5, some 22) I J) Q
      obtain ⟨e15, h⟩ := h
      refine st_iastore (pc' := 95) (M' := (mem (P, some 5, some 22) (si I 47 (x1).toNat 0) J)) dX1_follow_94 rfl L_47 (by decide) e15 rfl ?_
      refine st_iload_n (pc' := 96) dX1_follow_95 rfl rfl (j := 2) rfl ?_
      obtain ⟨e16, h⟩ := h
      refine st_if_eq (tg := 109) (pc' := 99) dX1_follow_96 (by decide) rfl e16 (fun c => ?_) (fun c => ?_)
      · replace h := h.1 c
        refine st_aload_n (pc' := 110) dX1_follow_109 rfl rfl (j := 0) rfl ?_
        refine G_X1_27_42 dX1_follow_110 (pc' := 113) rfl rfl ?_
        refine st_iload_n (pc' := 114) dX1_follow_113 rfl rfl (j := 1) rfl ?_
        refine st_aload_n (pc' := 115) dX1_follow_114 rfl rfl (j := 0) rfl ?_
        refine G_X1_36_42 dX1_follow_115 (pc' := 118) rfl rfl ?_
        refine st_iload_n (pc' := 119) dX1_follow_118 rfl rfl (j := 1) rfl ?_
        refine st_iconst (pc' := 120) dX1_follow_119 rfl ?_
        refine st_callV (pc' := 123) (kc := k - 1) (E' := LAY) (cal := m_X2_of) (n := 2) (as := [vI x1, vI 3]) (S := [vI x1, vR (some 48)]) dX1_follow_120 rfl l_X1_66 k_X2_of rfl L_4 c_X2 rfl rfl (Nat.le_of_ble_eq_true rfl) (by omega) ⟨Nat.le_refl _, Nat.le_refl _, Nat.le_refl _, Nat.le_refl _⟩ (Q1 := fun r M' => WP k LAY m_X1_follow 123 [(0, vR (some 42)), (1, vI x1), (2, vI x2), (3, vI x3), (4, vI x4)] (r.toList ++ [vI x1, vR (some 48)]) M' Q) (WPm.of k_X2_of.1 (Nat.le_of_ble_eq_true rfl) (B_X2_of_0 (by omega) ?_)) (fun r M' q => q)
        obtain ⟨e17, h⟩ := h
        refine ⟨e17, ?_⟩
        change WP _ LAY m_X1_follow 123 [(0, vR (some 42)), (1, vI x1), (2, vI x2), (3, vI x3), (4, vI x4)] [vI (gi (si I 47 (x1).toNat 0) 19 ((3 + (x1 * 14)) + 3).toNat), vI x1, vR (some 48)] (mem (P, some 5, some 22) (si I 47 (x1).toNat 0) J) Q
        refine st_iastore (pc' := 124) (M' := (mem (P, some 5, some 22) (si (si I 47 (x1).toNat 0) 48 (x1).toNat (gi (si I 47 (x1).toNat 0) 19 ((3 + (x1 * 14)) + 3).toNat)) J)) dX1_follow_123 rfl L_48 (by decide) e15 rfl ?_
        refine st_aload_n (pc' := 125) dX1_follow_124 rfl rfl (j := 0) rfl ?_
        refine G_X1_30_42 dX1_follow_125 (pc' := 128) rfl rfl ?_
        refine st_iload_n (pc' := 129) dX1_follow_128 rfl rfl (j := 1) rfl ?_
        refine st_aload_n (pc' := 130) dX1_follow_129 rfl rfl (j := 0) rfl ?_
        refine G_X1_36_42 dX1_follow_130 (pc' := 133) rfl rfl ?_
        refine st_iload_n (pc' := 134) dX1_follow_133 rfl rfl (j := 1) rfl ?_
        refine st_iconst (pc' := 135) dX1_follow_134 rfl ?_
        refine st_callV (pc' := 138) (kc := k - 1) (E' := LAY) (cal := m_X2_of) (n := 2) (as := [vI x1, vI 4]) (S := [vI x1, vR (some 49)]) dX1_follow_135 rfl l_X1_66 k_X2_of rfl L_4 c_X2 rfl rfl (Nat.le_of_ble_eq_true rfl) (by omega) ⟨Nat.le_refl _, Nat.le_refl _, Nat.le_refl _, Nat.le_refl _⟩ (Q1 := fun r M' => WP k LAY m_X1_follow 138 [(0, vR (some 42)), (1, vI x1), (2, vI x2), (3, vI x3), (4, vI x4)] (r.toList ++ [vI x1, vR (some 49)]) M' Q) (WPm.of k_X2_of.1 (Nat.le_of_ble_eq_true rfl) (B_X2_of_0 (by omega) ?_)) (fun r M' q => q)
        obtain ⟨e18, h⟩ := h
        refine ⟨e18, ?_⟩
        change WP _ LAY m_X1_follow 138 [(0, vR (some 42)), (1, vI x1), (2, vI x2), (3, vI x3), (4, vI x4)] [vI (gi (si (si I 47 (x1).toNat 0) 48 (x1).toNat (gi (si I 47 (x1).toNat 0) 19 ((3 + (x1 * 14)) + 3).toNat)) 19 ((3 + (x1 * 14)) + 4).toNat), vI x1, vR (some 49)] (mem (P, some 5, some 22) (si (si I 47 (x1).toNat 0) 48 (x1).toNat (gi (si I 47 (x1).toNat 0) 19 ((3 + (x1 * 14)) + 3).toNat)) J) Q
        refine st_iastore (pc' := 139) (M' := (mem (P, some 5, some 22) (si (si (si I 47 (x1).toNat 0) 48 (x1).toNat (gi (si I 47 (x1).toNat 0) 19 ((3 + (x1 * 14)) + 3).toNat)) 49 (x1).toNat (gi (si (si I 47 (x1).toNat 0) 48 (x1).toNat (gi (si I 47 (x1).toNat 0) 19 ((3 + (x1 * 14)) + 3).toNat)) 19 ((3 + (x1 * 14)) + 4).toNat)) J)) dX1_follow_138 rfl L_49 (by decide) e15 rfl ?_
        refine st_goto (pc' := 229) dX1_follow_139 (by decide) ?_
        exact st_vret dX1_follow_229 rfl rfl h
      · replace h := h.2 c
        refine st_aload_n (pc' := 100) dX1_follow_99 rfl rfl (j := 0) rfl ?_
        refine G_X1_44_42 dX1_follow_100 (pc' := 103) rfl rfl ?_
        refine G_X1_100_39 dX1_follow_103 (pc' := 106) rfl rfl ?_
        rw [show gi (si I 47 (x1).toNat 0) 39 4 = (gi I 39 4) from (gi_cell _ _ _ _ (by decide))]
        refine st_if_ne (tg := 142) (pc' := 109) dX1_follow_106 (by decide) rfl (gi_in _ _ _) (fun c => ?_) (fun c => ?_)
        · replace h := h.1 c
          refine st_iload_n (pc' := 143) dX1_follow_142 rfl rfl (j := 3) rfl ?_
          refine st_aload_n (pc' := 144) dX1_follow_143 rfl rfl (j := 0) rfl ?_
          refine G_X1_44_42 dX1_follow_144 (pc' := 147) rfl rfl ?_
          refine G_X1_100_39 dX1_follow_147 (pc' := 150) rfl rfl ?_
          rw [show gi (si I 47 (x1).toNat 0) 39 4 = (gi I 39 4) from (gi_cell _ _ _ _ (by decide))]
          refine st_icmp_ge (tg := 215) (pc' := 153) dX1_follow_150 (by decide) rfl e2 (gi_in _ _ _) (fun c => ?_) (fun c => ?_)
          · replace h := h.1 c
            refine st_aload_n (pc' := 216) dX1_follow_215 rfl rfl (j := 0) rfl ?_
            refine G_X1_27_42 dX1_follow_216 (pc' := 219) rfl rfl ?_
            refine st_iload_n (pc' := 220) dX1_follow_219 rfl rfl (j := 1) rfl ?_
            refine st_iconst (pc' := 221) dX1_follow_220 rfl ?_
            refine st_iastore (pc' := 222) (M' := (mem (P, some 5, some 22) (si (si I 47 (x1).toNat 0) 48 (x1).toNat (-1)) J)) dX1_follow_221 rfl L_48 (by decide) e15 rfl ?_
            refine st_aload_n (pc' := 223) dX1_follow_222 rfl rfl (j := 0) rfl ?_
            refine G_X1_30_42 dX1_follow_223 (pc' := 226) rfl rfl ?_
            refine st_iload_n (pc' := 227) dX1_follow_226 rfl rfl (j := 1) rfl ?_
            refine st_iconst (pc' := 228) dX1_follow_227 rfl ?_
            refine st_iastore (pc' := 229) (M' := (mem (P, some 5, some 22) (si (si (si I 47 (x1).toNat 0) 48 (x1).toNat (-1)) 49 (x1).toNat 0) J)) dX1_follow_228 rfl L_49 (by decide) e15 rfl ?_
            exact st_vret dX1_follow_229 rfl rfl h
          · replace h := h.2 c
            refine st_aload_n (pc' := 154) dX1_follow_153 rfl rfl (j := 0) rfl ?_
            refine G_X1_44_42 dX1_follow_154 (pc' := 157) rfl rfl ?_
            refine st_iload_n (pc' := 158) dX1_follow_157 rfl rfl (j := 3) rfl ?_
            refine st_callV (pc' := 161) (kc := k - 1) (E' := LAY) (cal := m_X0_beginOf) (n := 1) (as := [vI x3]) (S := []) dX1_follow_158 rfl l_X1_104 k_X0_beginOf rfl L_39 c_X0 rfl rfl (Nat.le_of_ble_eq_true rfl) (by omega) ⟨Nat.le_refl _, Nat.le_refl _, Nat.le_refl _, Nat.le_refl _⟩ (Q1 := fun r M' => WP k LAY m_X1_follow 161 [(0, vR (some 42)), (1, vI x1), (2, vI x2), (3, vI x3), (4, vI x4)] (r.toList ++ []) M' Q) (WPm.of k_X0_beginOf.1 (Nat.le_of_ble_eq_true rfl) (B_X0_beginOf_0 (by omega) ?_)) (fun r M' q => q)
            refine ⟨e2, ?_⟩
            refine ⟨fun c => ?_, fun c => ?_⟩
            · replace h := h.1 c
              obtain ⟨e19, h⟩ := h
              refine ⟨e19, ?_⟩
              change WP _ LAY m_X1_follow 161 [(0, vR (some 42)), (1, vI x1), (2, vI x2), (3, vI x3), (4, vI x4)] [vI (gi (si I 47 (x1).toNat 0) 41 (x3 - 1).toNat)] (mem (P, some 5, some 22) (si I 47 (x1).toNat 0) J) Q
              refine st_iload_n (pc' := 162) dX1_follow_161 rfl rfl (j := 2) rfl ?_
              refine st_icmp_ge (tg := 215) (pc' := 165) dX1_follow_162 (by decide) rfl (gi_in _ _ _) e16 (fun c => ?_) (fun c => ?_)
              · replace h := h.1 c
                refine st_aload_n (pc' := 216) dX1_follow_215 rfl rfl (j := 0) rfl ?_
                refine G_X1_27_42 dX1_follow_216 (pc' := 219) rfl rfl ?_
                refine st_iload_n (pc' := 220) dX1_follow_219 rfl rfl (j := 1) rfl ?_
                refine st_iconst (pc' := 221) dX1_follow_220 rfl ?_
                refine st_iastore (pc' := 222) (M' := (mem (P, some 5, some 22) (si (si I 47 (x1).toNat 0) 48 (x1).toNat (-1)) J)) dX1_follow_221 rfl L_48 (by decide) e15 rfl ?_
                refine st_aload_n (pc' := 223) dX1_follow_222 rfl rfl (j := 0) rfl ?_
                refine G_X1_30_42 dX1_follow_223 (pc' := 226) rfl rfl ?_
                refine st_iload_n (pc' := 227) dX1_follow_226 rfl rfl (j := 1) rfl ?_
                refine st_iconst (pc' := 228) dX1_follow_227 rfl ?_
                refine st_iastore (pc' := 229) (M' := (mem (P, some 5, some 22) (si (si (si I 47 (x1).toNat 0) 48 (x1).toNat (-1)) 49 (x1).toNat 0) J)) dX1_follow_228 rfl L_49 (by decide) e15 rfl ?_
                exact st_vret dX1_follow_229 rfl rfl h
              · replace h := h.2 c
                refine st_aload_n (pc' := 166) dX1_follow_165 rfl rfl (j := 0) rfl ?_
                refine G_X1_27_42 dX1_follow_166 (pc' := 169) rfl rfl ?_
                refine st_iload_n (pc' := 170) dX1_follow_169 rfl rfl (j := 1) rfl ?_
                refine st_aload_n (pc' := 171) dX1_follow_170 rfl rfl (j := 0) rfl ?_
                refine G_X1_44_42 dX1_follow_171 (pc' := 174) rfl rfl ?_
                refine G_X1_94_39 dX1_follow_174 (pc' := 177) rfl rfl ?_
                refine st_iload_n (pc' := 178) dX1_follow_177 rfl rfl (j := 3) rfl ?_
                obtain ⟨e20, h⟩ := h
                refine st_iaload (pc' := 179) (v := (gi I 40 (x3).toNat)) dX1_follow_178 rfl L_40 (by decide) e20 (show gi (si I 47 (x1).toNat 0) 40 (x3).toNat = (gi I 40 (x3).toNat) from (gi_cell _ _ _ _ (by decide))) ?_
                refine st_iastore (pc' := 180) (M' := (mem (P, some 5, some 22) (si (si I 47 (x1).toNat 0) 48 (x1).toNat (gi I 40 (x3).toNat)) J)) dX1_follow_179 rfl L_48 (by decide) e15 rfl ?_
                refine st_aload_n (pc' := 181) dX1_follow_180 rfl rfl (j := 0) rfl ?_
                refine G_X1_30_42 dX1_follow_181 (pc' := 184) rfl rfl ?_
                refine st_iload_n (pc' := 185) dX1_follow_184 rfl rfl (j := 1) rfl ?_
                refine st_iload_n (pc' := 186) dX1_follow_185 rfl rfl (j := 3) rfl ?_
                refine st_if_ne (tg := 199) (pc' := 189) dX1_follow_186 (by decide) rfl e2 (fun c => ?_) (fun c => ?_)
                · replace h := h.1 c
                  refine st_iconst (pc' := 200) dX1_follow_199 rfl ?_
                  refine st_iload_n (pc' := 201) dX1_follow_200 rfl rfl (j := 2) rfl ?_
                  refine st_iadd (pc' := 202) dX1_follow_201 rfl ?_
                  refine st_aload_n (pc' := 203) dX1_follow_202 rfl rfl (j := 0) rfl ?_
                  refine G_X1_44_42 dX1_follow_203 (pc' := 206) rfl rfl ?_
                  refine st_iload_n (pc' := 207) dX1_follow_206 rfl rfl (j := 3) rfl ?_
                  refine st_callV (pc' := 210) (kc := k - 1) (E' := LAY) (cal := m_X0_beginOf) (n := 1) (as := [vI x3]) (S := [vI (0 + x2), vI x1, vR (some 49)]) dX1_follow_207 rfl l_X1_104 k_X0_beginOf rfl L_39 c_X0 rfl rfl (Nat.le_of_ble_eq_true rfl) (by omega) ⟨Nat.le_refl _, Nat.le_refl _, Nat.le_refl _, Nat.le_refl _⟩ (Q1 := fun r M' => WP k LAY m_X1_follow 210 [(0, vR (some 42)), (1, vI x1), (2, vI x2), (3, vI x3), (4, vI x4)] (r.toList ++ [vI (0 + x2), vI x1, vR (some 49)]) M' Q) (WPm.of k_X0_beginOf.1 (Nat.le_of_ble_eq_true rfl) (B_X0_beginOf_0 (by omega) ?_)) (fun r M' q => q)
                  refine ⟨e2, ?_⟩
                  refine ⟨fun c => ?_, fun c => ?_⟩
                  · replace h := h.1 c
                    refine ⟨e19, ?_⟩
                    change WP _ LAY m_X1_follow 210 [(0, vR (some 42)), (1, vI x1), (2, vI x2), (3, vI x3), (4, vI x4)] [vI (gi (si (si I 47 (x1).toNat 0) 48 (x1).toNat (gi I 40 (x3).toNat)) 41 (x3 - 1).toNat), vI (0 + x2), vI x1, vR (some 49)] (mem (P, some 5, some 22) (si (si I 47 (x1).toNat 0) 48 (x1).toNat (gi I 40 (x3).toNat)) J) Q
                    refine st_isub (pc' := 211) dX1_follow_210 rfl ?_
                    refine st_iastore (pc' := 212) (M' := (mem (P, some 5, some 22) (si (si (si I 47 (x1).toNat 0) 48 (x1).toNat (gi I 40 (x3).toNat)) 49 (x1).toNat ((0 + x2) - (gi (si (si I 47 (x1).toNat 0) 48 (x1).toNat (gi I 40 (x3).toNat)) 41 (x3 - 1).toNat))) J)) dX1_follow_211 rfl L_49 (by decide) e15 rfl ?_
                    refine st_goto (pc' := 229) dX1_follow_212 (by decide) ?_
                    exact st_vret dX1_follow_229 rfl rfl h
                  · replace h := h.2 c
                    change WP _ LAY m_X1_follow 210 [(0, vR (some 42)), (1, vI x1), (2, vI x2), (3, vI x3), (4, vI x4)] [vI 0, vI (0 + x2), vI x1, vR (some 49)] (mem (P, some 5, some 22) (si (si I 47 (x1).toNat 0) 48 (x1).toNat (gi I 40 (x3).toNat)) J) Q
                    refine st_isub (pc' := 211) dX1_follow_210 rfl ?_
                    refine st_iastore (pc' := 212) (M' := (mem (P, some 5, some 22) (si (si (si I 47 (x1).toNat 0) 48 (x1).toNat (gi I 40 (x3).toNat)) 49 (x1).toNat ((0 + x2) - 0)) J)) dX1_follow_211 rfl L_49 (by decide) e15 rfl ?_
                    refine st_goto (pc' := 229) dX1_follow_212 (by decide) ?_
                    exact st_vret dX1_follow_229 rfl rfl h
                · replace h := h.2 c
                  refine st_aload_n (pc' := 190) dX1_follow_189 rfl rfl (j := 0) rfl ?_
                  refine G_X1_44_42 dX1_follow_190 (pc' := 193) rfl rfl ?_
                  refine G_X1_107_39 dX1_follow_193 (pc' := 196) rfl rfl ?_
                  rw [show gi (si (si I 47 (x1).toNat 0) 48 (x1).toNat (gi I 40 (x3).toNat)) 39 5 = (gi I 39 5) from ((gi_cell _ _ _ _ (by decide)).trans (gi_cell _ _ _ _ (by decide)))]
                  refine st_goto (pc' := 200) dX1_follow_196 (by decide) ?_
                  refine st_iload_n (pc' := 201) dX1_follow_200 rfl rfl (j := 2) rfl ?_
                  refine st_iadd (pc' := 202) dX1_follow_201 rfl ?_
                  refine st_aload_n (pc' := 203) dX1_follow_202 rfl rfl (j := 0) rfl ?_
                  refine G_X1_44_42 dX1_follow_203 (pc' := 206) rfl rfl ?_
                  refine st_iload_n (pc' := 207) dX1_follow_206 rfl rfl (j := 3) rfl ?_
                  refine st_callV (pc' := 210) (kc := k - 1) (E' := LAY) (cal := m_X0_beginOf) (n := 1) (as := [vI x3]) (S := [vI ((gi I 39 5) + x2), vI x1, vR (some 49)]) dX1_follow_207 rfl l_X1_104 k_X0_beginOf rfl L_39 c_X0 rfl rfl (Nat.le_of_ble_eq_true rfl) (by omega) ⟨Nat.le_refl _, Nat.le_refl _, Nat.le_refl _, Nat.le_refl _⟩ (Q1 := fun r M' => WP k LAY m_X1_follow 210 [(0, vR (some 42)), (1, vI x1), (2, vI x2), (3, vI x3), (4, vI x4)] (r.toList ++ [vI ((gi I 39 5) + x2), vI x1, vR (some 49)]) M' Q) (WPm.of k_X0_beginOf.1 (Nat.le_of_ble_eq_true rfl) (B_X0_beginOf_0 (by omega) ?_)) (fun r M' q => q)
                  refine ⟨e2, ?_⟩
                  refine ⟨fun c => ?_, fun c => ?_⟩
                  · replace h := h.1 c
                    refine ⟨e19, ?_⟩
                    change WP _ LAY m_X1_follow 210 [(0, vR (some 42)), (1, vI x1), (2, vI x2), (3, vI x3), (4, vI x4)] [vI (gi (si (si I 47 (x1).toNat 0) 48 (x1).toNat (gi I 40 (x3).toNat)) 41 (x3 - 1).toNat), vI ((gi I 39 5) + x2), vI x1, vR (some 49)] (mem (P, some 5, some 22) (si (si I 47 (x1).toNat 0) 48 (x1).toNat (gi I 40 (x3).toNat)) J) Q
                    refine st_isub (pc' := 211) dX1_follow_210 rfl ?_
                    refine st_iastore (pc' := 212) (M' := (mem (P, some 5, some 22) (si (si (si I 47 (x1).toNat 0) 48 (x1).toNat (gi I 40 (x3).toNat)) 49 (x1).toNat (((gi I 39 5) + x2) - (gi (si (si I 47 (x1).toNat 0) 48 (x1).toNat (gi I 40 (x3).toNat)) 41 (x3 - 1).toNat))) J)) dX1_follow_211 rfl L_49 (by decide) e15 rfl ?_
                    refine st_goto (pc' := 229) dX1_follow_212 (by decide) ?_
                    exact st_vret dX1_follow_229 rfl rfl h
                  · replace h := h.2 c
                    change WP _ LAY m_X1_follow 210 [(0, vR (some 42)), (1, vI x1), (2, vI x2), (3, vI x3), (4, vI x4)] [vI 0, vI ((gi I 39 5) + x2), vI x1, vR (some 49)] (mem (P, some 5, some 22) (si (si I 47 (x1).toNat 0) 48 (x1).toNat (gi I 40 (x3).toNat)) J) Q
                    refine st_isub (pc' := 211) dX1_follow_210 rfl ?_
                    refine st_iastore (pc' := 212) (M' := (mem (P, some 5, some 22) (si (si (si I 47 (x1).toNat 0) 48 (x1).toNat (gi I 40 (x3).toNat)) 49 (x1).toNat (((gi I 39 5) + x2) - 0)) J)) dX1_follow_211 rfl L_49 (by decide) e15 rfl ?_
                    refine st_goto (pc' := 229) dX1_follow_212 (by decide) ?_
                    exact st_vret dX1_follow_229 rfl rfl h
            · replace h := h.2 c
              change WP _ LAY m_X1_follow 161 [(0, vR (some 42)), (1, vI x1), (2, vI x2), (3, vI x3), (4, vI x4)] [vI 0] (mem (P, some 5, some 22) (si I 47 (x1).toNat 0) J) Q
              refine st_iload_n (pc' := 162) dX1_follow_161 rfl rfl (j := 2) rfl ?_
              refine st_icmp_ge (tg := 215) (pc' := 165) dX1_follow_162 (by decide) rfl (by decide) e16 (fun c => ?_) (fun c => ?_)
              · replace h := h.1 c
                refine st_aload_n (pc' := 216) dX1_follow_215 rfl rfl (j := 0) rfl ?_
                refine G_X1_27_42 dX1_follow_216 (pc' := 219) rfl rfl ?_
                refine st_iload_n (pc' := 220) dX1_follow_219 rfl rfl (j := 1) rfl ?_
                refine st_iconst (pc' := 221) dX1_follow_220 rfl ?_
                refine st_iastore (pc' := 222) (M' := (mem (P, some 5, some 22) (si (si I 47 (x1).toNat 0) 48 (x1).toNat (-1)) J)) dX1_follow_221 rfl L_48 (by decide) e15 rfl ?_
                refine st_aload_n (pc' := 223) dX1_follow_222 rfl rfl (j := 0) rfl ?_
                refine G_X1_30_42 dX1_follow_223 (pc' := 226) rfl rfl ?_
                refine st_iload_n (pc' := 227) dX1_follow_226 rfl rfl (j := 1) rfl ?_
                refine st_iconst (pc' := 228) dX1_follow_227 rfl ?_
                refine st_iastore (pc' := 229) (M' := (mem (P, some 5, some 22) (si (si (si I 47 (x1).toNat 0) 48 (x1).toNat (-1)) 49 (x1).toNat 0) J)) dX1_follow_228 rfl L_49 (by decide) e15 rfl ?_
                exact st_vret dX1_follow_229 rfl rfl h
              · replace h := h.2 c
                refine st_aload_n (pc' := 166) dX1_follow_165 rfl rfl (j := 0) rfl ?_
                refine G_X1_27_42 dX1_follow_166 (pc' := 169) rfl rfl ?_
                refine st_iload_n (pc' := 170) dX1_follow_169 rfl rfl (j := 1) rfl ?_
                refine st_aload_n (pc' := 171) dX1_follow_170 rfl rfl (j := 0) rfl ?_
                refine G_X1_44_42 dX1_follow_171 (pc' := 174) rfl rfl ?_
                refine G_X1_94_39 dX1_follow_174 (pc' := 177) rfl rfl ?_
                refine st_iload_n (pc' := 178) dX1_follow_177 rfl rfl (j := 3) rfl ?_
                obtain ⟨e21, h⟩ := h
                refine st_iaload (pc' := 179) (v := (gi I 40 (x3).toNat)) dX1_follow_178 rfl L_40 (by decide) e21 (show gi (si I 47 (x1).toNat 0) 40 (x3).toNat = (gi I 40 (x3).toNat) from (gi_cell _ _ _ _ (by decide))) ?_
                refine st_iastore (pc' := 180) (M' := (mem (P, some 5, some 22) (si (si I 47 (x1).toNat 0) 48 (x1).toNat (gi I 40 (x3).toNat)) J)) dX1_follow_179 rfl L_48 (by decide) e15 rfl ?_
                refine st_aload_n (pc' := 181) dX1_follow_180 rfl rfl (j := 0) rfl ?_
                refine G_X1_30_42 dX1_follow_181 (pc' := 184) rfl rfl ?_
                refine st_iload_n (pc' := 185) dX1_follow_184 rfl rfl (j := 1) rfl ?_
                refine st_iload_n (pc' := 186) dX1_follow_185 rfl rfl (j := 3) rfl ?_
                refine st_if_ne (tg := 199) (pc' := 189) dX1_follow_186 (by decide) rfl e2 (fun c => ?_) (fun c => ?_)
                · replace h := h.1 c
                  refine st_iconst (pc' := 200) dX1_follow_199 rfl ?_
                  refine st_iload_n (pc' := 201) dX1_follow_200 rfl rfl (j := 2) rfl ?_
                  refine st_iadd (pc' := 202) dX1_follow_201 rfl ?_
                  refine st_aload_n (pc' := 203) dX1_follow_202 rfl rfl (j := 0) rfl ?_
                  refine G_X1_44_42 dX1_follow_203 (pc' := 206) rfl rfl ?_
                  refine st_iload_n (pc' := 207) dX1_follow_206 rfl rfl (j := 3) rfl ?_
                  refine st_callV (pc' := 210) (kc := k - 1) (E' := LAY) (cal := m_X0_beginOf) (n := 1) (as := [vI x3]) (S := [vI (0 + x2), vI x1, vR (some 49)]) dX1_follow_207 rfl l_X1_104 k_X0_beginOf rfl L_39 c_X0 rfl rfl (Nat.le_of_ble_eq_true rfl) (by omega) ⟨Nat.le_refl _, Nat.le_refl _, Nat.le_refl _, Nat.le_refl _⟩ (Q1 := fun r M' => WP k LAY m_X1_follow 210 [(0, vR (some 42)), (1, vI x1), (2, vI x2), (3, vI x3), (4, vI x4)] (r.toList ++ [vI (0 + x2), vI x1, vR (some 49)]) M' Q) (WPm.of k_X0_beginOf.1 (Nat.le_of_ble_eq_true rfl) (B_X0_beginOf_0 (by omega) ?_)) (fun r M' q => q)
                  refine ⟨e2, ?_⟩
                  refine ⟨fun c => ?_, fun c => ?_⟩
                  · replace h := h.1 c
                    obtain ⟨e22, h⟩ := h
                    refine ⟨e22, ?_⟩
                    change WP _ LAY m_X1_follow 210 [(0, vR (some 42)), (1, vI x1), (2, vI x2), (3, vI x3), (4, vI x4)] [vI (gi (si (si I 47 (x1).toNat 0) 48 (x1).toNat (gi I 40 (x3).toNat)) 41 (x3 - 1).toNat), vI (0 + x2), vI x1, vR (some 49)] (mem (P, some 5, some 22) (si (si I 47 (x1).toNat 0) 48 (x1).toNat (gi I 40 (x3).toNat)) J) Q
                    refine st_isub (pc' := 211) dX1_follow_210 rfl ?_
                    refine st_iastore (pc' := 212) (M' := (mem (P, some 5, some 22) (si (si (si I 47 (x1).toNat 0) 48 (x1).toNat (gi I 40 (x3).toNat)) 49 (x1).toNat ((0 + x2) - (gi (si (si I 47 (x1).toNat 0) 48 (x1).toNat (gi I 40 (x3).toNat)) 41 (x3 - 1).toNat))) J)) dX1_follow_211 rfl L_49 (by decide) e15 rfl ?_
                    refine st_goto (pc' := 229) dX1_follow_212 (by decide) ?_
                    exact st_vret dX1_follow_229 rfl rfl h
                  · replace h := h.2 c
                    change WP _ LAY m_X1_follow 210 [(0, vR (some 42)), (1, vI x1), (2, vI x2), (3, vI x3), (4, vI x4)] [vI 0, vI (0 + x2), vI x1, vR (some 49)] (mem (P, some 5, some 22) (si (si I 47 (x1).toNat 0) 48 (x1).toNat (gi I 40 (x3).toNat)) J) Q
                    refine st_isub (pc' := 211) dX1_follow_210 rfl ?_
                    refine st_iastore (pc' := 212) (M' := (mem (P, some 5, some 22) (si (si (si I 47 (x1).toNat 0) 48 (x1).toNat (gi I 40 (x3).toNat)) 49 (x1).toNat ((0 + x2) - 0)) J)) dX1_follow_211 rfl L_49 (by decide) e15 rfl ?_
                    refine st_goto (pc' := 229) dX1_follow_212 (by decide) ?_
                    exact st_vret dX1_follow_229 rfl rfl h
                · replace h := h.2 c
                  refine st_aload_n (pc' := 190) dX1_follow_189 rfl rfl (j := 0) rfl ?_
                  refine G_X1_44_42 dX1_follow_190 (pc' := 193) rfl rfl ?_
                  refine G_X1_107_39 dX1_follow_193 (pc' := 196) rfl rfl ?_
                  rw [show gi (si (si I 47 (x1).toNat 0) 48 (x1).toNat (gi I 40 (x3).toNat)) 39 5 = (gi I 39 5) from ((gi_cell _ _ _ _ (by decide)).trans (gi_cell _ _ _ _ (by decide)))]
                  refine st_goto (pc' := 200) dX1_follow_196 (by decide) ?_
                  refine st_iload_n (pc' := 201) dX1_follow_200 rfl rfl (j := 2) rfl ?_
                  refine st_iadd (pc' := 202) dX1_follow_201 rfl ?_
                  refine st_aload_n (pc' := 203) dX1_follow_202 rfl rfl (j := 0) rfl ?_
                  refine G_X1_44_42 dX1_follow_203 (pc' := 206) rfl rfl ?_
                  refine st_iload_n (pc' := 207) dX1_follow_206 rfl rfl (j := 3) rfl ?_
                  refine st_callV (pc' := 210) (kc := k - 1) (E' := LAY) (cal := m_X0_beginOf) (n := 1) (as := [vI x3]) (S := [vI ((gi I 39 5) + x2), vI x1, vR (some 49)]) dX1_follow_207 rfl l_X1_104 k_X0_beginOf rfl L_39 c_X0 rfl rfl (Nat.le_of_ble_eq_true rfl) (by omega) ⟨Nat.le_refl _, Nat.le_refl _, Nat.le_refl _, Nat.le_refl _⟩ (Q1 := fun r M' => WP k LAY m_X1_follow 210 [(0, vR (some 42)), (1, vI x1), (2, vI x2), (3, vI x3), (4, vI x4)] (r.toList ++ [vI ((gi I 39 5) + x2), vI x1, vR (some 49)]) M' Q) (WPm.of k_X0_beginOf.1 (Nat.le_of_ble_eq_true rfl) (B_X0_beginOf_0 (by omega) ?_)) (fun r M' q => q)
                  refine ⟨e2, ?_⟩
                  refine ⟨fun c => ?_, fun c => ?_⟩
                  · replace h := h.1 c
                    obtain ⟨e23, h⟩ := h
                    refine ⟨e23, ?_⟩
                    change WP _ LAY m_X1_follow 210 [(0, vR (some 42)), (1, vI x1), (2, vI x2), (3, vI x3), (4, vI x4)] [vI (gi (si (si I 47 (x1).toNat 0) 48 (x1).toNat (gi I 40 (x3).toNat)) 41 (x3 - 1).toNat), vI ((gi I 39 5) + x2), vI x1, vR (some 49)] (mem (P, some 5, some 22) (si (si I 47 (x1).toNat 0) 48 (x1).toNat (gi I 40 (x3).toNat)) J) Q
                    refine st_isub (pc' := 211) dX1_follow_210 rfl ?_
                    refine st_iastore (pc' := 212) (M' := (mem (P, some 5, some 22) (si (si (si I 47 (x1).toNat 0) 48 (x1).toNat (gi I 40 (x3).toNat)) 49 (x1).toNat (((gi I 39 5) + x2) - (gi (si (si I 47 (x1).toNat 0) 48 (x1).toNat (gi I 40 (x3).toNat)) 41 (x3 - 1).toNat))) J)) dX1_follow_211 rfl L_49 (by decide) e15 rfl ?_
                    refine st_goto (pc' := 229) dX1_follow_212 (by decide) ?_
                    exact st_vret dX1_follow_229 rfl rfl h
                  · replace h := h.2 c
                    change WP _ LAY m_X1_follow 210 [(0, vR (some 42)), (1, vI x1), (2, vI x2), (3, vI x3), (4, vI x4)] [vI 0, vI ((gi I 39 5) + x2), vI x1, vR (some 49)] (mem (P, some 5, some 22) (si (si I 47 (x1).toNat 0) 48 (x1).toNat (gi I 40 (x3).toNat)) J) Q
                    refine st_isub (pc' := 211) dX1_follow_210 rfl ?_
                    refine st_iastore (pc' := 212) (M' := (mem (P, some 5, some 22) (si (si (si I 47 (x1).toNat 0) 48 (x1).toNat (gi I 40 (x3).toNat)) 49 (x1).toNat (((gi I 39 5) + x2) - 0)) J)) dX1_follow_211 rfl L_49 (by decide) e15 rfl ?_
                    refine st_goto (pc' := 229) dX1_follow_212 (by decide) ?_
                    exact st_vret dX1_follow_229 rfl rfl h
        · replace h := h.2 c
          refine st_aload_n (pc' := 110) dX1_follow_109 rfl rfl (j := 0) rfl ?_
          refine G_X1_27_42 dX1_follow_110 (pc' := 113) rfl rfl ?_
          refine st_iload_n (pc' := 114) dX1_follow_113 rfl rfl (j := 1) rfl ?_
          refine st_aload_n (pc' := 115) dX1_follow_114 rfl rfl (j := 0) rfl ?_
          refine G_X1_36_42 dX1_follow_115 (pc' := 118) rfl rfl ?_
          refine st_iload_n (pc' := 119) dX1_follow_118 rfl rfl (j := 1) rfl ?_
          refine st_iconst (pc' := 120) dX1_follow_119 rfl ?_
          refine st_callV (pc' := 123) (kc := k - 1) (E' := LAY) (cal := m_X2_of) (n := 2) (as := [vI x1, vI 3]) (S := [vI x1, vR (some 48)]) dX1_follow_120 rfl l_X1_66 k_X2_of rfl L_4 c_X2 rfl rfl (Nat.le_of_ble_eq_true rfl) (by omega) ⟨Nat.le_refl _, Nat.le_refl _, Nat.le_refl _, Nat.le_refl _⟩ (Q1 := fun r M' => WP k LAY m_X1_follow 123 [(0, vR (some 42)), (1, vI x1), (2, vI x2), (3, vI x3), (4, vI x4)] (r.toList ++ [vI x1, vR (some 48)]) M' Q) (WPm.of k_X2_of.1 (Nat.le_of_ble_eq_true rfl) (B_X2_of_0 (by omega) ?_)) (fun r M' q => q)
          obtain ⟨e24, h⟩ := h
          refine ⟨e24, ?_⟩
          change WP _ LAY m_X1_follow 123 [(0, vR (some 42)), (1, vI x1), (2, vI x2), (3, vI x3), (4, vI x4)] [vI (gi (si I 47 (x1).toNat 0) 19 ((3 + (x1 * 14)) + 3).toNat), vI x1, vR (some 48)] (mem (P, some 5, some 22) (si I 47 (x1).toNat 0) J) Q
          refine st_iastore (pc' := 124) (M' := (mem (P, some 5, some 22) (si (si I 47 (x1).toNat 0) 48 (x1).toNat (gi (si I 47 (x1).toNat 0) 19 ((3 + (x1 * 14)) + 3).toNat)) J)) dX1_follow_123 rfl L_48 (by decide) e15 rfl ?_
          refine st_aload_n (pc' := 125) dX1_follow_124 rfl rfl (j := 0) rfl ?_
          refine G_X1_30_42 dX1_follow_125 (pc' := 128) rfl rfl ?_
          refine st_iload_n (pc' := 129) dX1_follow_128 rfl rfl (j := 1) rfl ?_
          refine st_aload_n (pc' := 130) dX1_follow_129 rfl rfl (j := 0) rfl ?_
          refine G_X1_36_42 dX1_follow_130 (pc' := 133) rfl rfl ?_
          refine st_iload_n (pc' := 134) dX1_follow_133 rfl rfl (j := 1) rfl ?_
          refine st_iconst (pc' := 135) dX1_follow_134 rfl ?_
          refine st_callV (pc' := 138) (kc := k - 1) (E' := LAY) (cal := m_X2_of) (n := 2) (as := [vI x1, vI 4]) (S := [vI x1, vR (some 49)]) dX1_follow_135 rfl l_X1_66 k_X2_of rfl L_4 c_X2 rfl rfl (Nat.le_of_ble_eq_true rfl) (by omega) ⟨Nat.le_refl _, Nat.le_refl _, Nat.le_refl _, Nat.le_refl _⟩ (Q1 := fun r M' => WP k LAY m_X1_follow 138 [(0, vR (some 42)), (1, vI x1), (2, vI x2), (3, vI x3), (4, vI x4)] (r.toList ++ [vI x1, vR (some 49)]) M' Q) (WPm.of k_X2_of.1 (Nat.le_of_ble_eq_true rfl) (B_X2_of_0 (by omega) ?_)) (fun r M' q => q)
          obtain ⟨e25, h⟩ := h
          refine ⟨e25, ?_⟩
          change WP _ LAY m_X1_follow 138 [(0, vR (some 42)), (1, vI x1), (2, vI x2), (3, vI x3), (4, vI x4)] [vI (gi (si (si I 47 (x1).toNat 0) 48 (x1).toNat (gi (si I 47 (x1).toNat 0) 19 ((3 + (x1 * 14)) + 3).toNat)) 19 ((3 + (x1 * 14)) + 4).toNat), vI x1, vR (some 49)] (mem (P, some 5, some 22) (si (si I 47 (x1).toNat 0) 48 (x1).toNat (gi (si I 47 (x1).toNat 0) 19 ((3 + (x1 * 14)) + 3).toNat)) J) Q
          refine st_iastore (pc' := 139) (M' := (mem (P, some 5, some 22) (si (si (si I 47 (x1).toNat 0) 48 (x1).toNat (gi (si I 47 (x1).toNat 0) 19 ((3 + (x1 * 14)) + 3).toNat)) 49 (x1).toNat (gi (si (si I 47 (x1).toNat 0) 48 (x1).toNat (gi (si I 47 (x1).toNat 0) 19 ((3 + (x1 * 14)) + 3).toNat)) 19 ((3 + (x1 * 14)) + 4).toNat)) J)) dX1_follow_138 rfl L_49 (by decide) e15 rfl ?_
          refine st_goto (pc' := 229) dX1_follow_139 (by decide) ?_
          exact st_vret dX1_follow_229 rfl rfl h
  · replace h := h.2 c
    refine st_aload_n (pc' := 33) dX1_follow_32 rfl rfl (j := 0) rfl ?_
    refine G_X1_33_42 dX1_follow_33 (pc' := 36) rfl rfl ?_
    refine st_iload_n (pc' := 37) dX1_follow_36 rfl rfl (j := 1) rfl ?_
    refine st_bipush (pc' := 39) dX1_follow_37 rfl (by decide) ?_
    refine st_imul (pc' := 40) dX1_follow_39 rfl ?_
    refine st_iload (pc' := 42) dX1_follow_40 rfl (j := 4) rfl ?_
    refine st_iadd (pc' := 43) dX1_follow_42 rfl ?_
    refine st_aload_n (pc' := 44) dX1_follow_43 rfl rfl (j := 0) rfl ?_
    refine G_X1_44_42 dX1_follow_44 (pc' := 47) rfl rfl ?_
    refine G_X1_94_39 dX1_follow_47 (pc' := 50) rfl rfl ?_
    refine st_iload (pc' := 52) dX1_follow_50 rfl (j := 4) rfl ?_
    obtain ⟨e26, h⟩ := h
    refine st_iaload (pc' := 53) (v := (gi I 40 (x4).toNat)) dX1_follow_52 rfl L_40 (by decide) e26 (show gi I 40 (x4).toNat = (gi I 40 (x4).toNat) from rfl) ?_
    obtain ⟨e27, h⟩ := h
    refine st_iastore (pc' := 54) (M' := (mem (P, some 5, some 22) (si I 50 ((x1 * 8) + x4).toNat (gi I 40 (x4).toNat)) J)) dX1_follow_53 rfl L_50 (by decide) e27 rfl ?_
    refine st_aload_n (pc' := 55) dX1_follow_54 rfl rfl (j := 0) rfl ?_
    refine G_X1_21_42 dX1_follow_55 (pc' := 58) rfl rfl ?_
    refine st_iload_n (pc' := 59) dX1_follow_58 rfl rfl (j := 1) rfl ?_
    refine st_dup2 (pc' := 60) dX1_follow_59 rfl rfl rfl ?_
    obtain ⟨e28, h⟩ := h
    refine st_iaload (pc' := 61) (v := (gi I 46 (x1).toNat)) dX1_follow_60 rfl L_46 (by decide) e28 (show gi (si I 50 ((x1 * 8) + x4).toNat (gi I 40 (x4).toNat)) 46 (x1).toNat = (gi I 46 (x1).toNat) from (gi_cell _ _ _ _ (by decide))) ?_
    refine st_iconst (pc' := 62) dX1_follow_61 rfl ?_
    refine st_aload_n (pc' := 63) dX1_follow_62 rfl rfl (j := 0) rfl ?_
    refine G_X1_44_42 dX1_follow_63 (pc' := 66) rfl rfl ?_
    refine G_X1_94_39 dX1_follow_66 (pc' := 69) rfl rfl ?_
    refine st_iload (pc' := 71) dX1_follow_69 rfl (j := 4) rfl ?_
    refine st_iaload (pc' := 72) (v := (gi I 40 (x4).toNat)) dX1_follow_71 rfl L_40 (by decide) e26 (show gi (si I 50 ((x1 * 8) + x4).toNat (gi I 40 (x4).toNat)) 40 (x4).toNat = (gi I 40 (x4).toNat) from (gi_cell _ _ _ _ (by decide))) ?_
    refine st_ishl (pc' := 73) (z := (shl32 1 (gi I 40 (x4).toNat))) dX1_follow_72 rfl rfl ?_
    refine st_ior (pc' := 74) (z := (or32 (gi I 46 (x1).toNat) (shl32 1 (gi I 40 (x4).toNat)))) dX1_follow_73 rfl rfl ?_
    refine st_iastore (pc' := 75) (M' := (mem (P, some 5, some 22) (si (si I 50 ((x1 * 8) + x4).toNat (gi I 40 (x4).toNat)) 46 (x1).toNat (or32 (gi I 46 (x1).toNat) (shl32 1 (gi I 40 (x4).toNat)))) J)) dX1_follow_74 rfl L_46 (by decide) e28 rfl ?_
    refine st_iinc (pc' := 78) (L' := [(4, vI (x4 + 1)), (0, vR (some 42)), (1, vI x1), (2, vI x2), (3, vI x3)]) (j := 4) dX1_follow_75 rfl (by decide) rfl rfl ?_
    refine st_goto (pc' := 26) dX1_follow_78 (by decide) ?_
    refine WP_sub (L' := [(0, vR (some 42)), (1, vI x1), (2, vI x2), (3, vI x3), (4, vI (x4 + 1))]) [1, 2, 3, 4, 0] rfl ?_
    exact h
set_option maxRecDepth 20000 in
set_option maxHeartbeats 4000000 in
theorem B_X1_foresee_0 {k : Nat} {P : Option Nat} {I : Nat → Nat → Int32} {J : Nat → Nat → Int64} {x1 : Int} {Q : Option AV → Mem → Prop} (hk : 0 ≤ k) (h : WP k LAY m_X1_foresee 2 [(0, vR (some 42)), (1, vI x1), (2, vI 0)] [] (mem (P, some 5, some 22) I J) Q) : WP k LAY m_X1_foresee 0 [(0, vR (some 42)), (1, vI x1)] [] (mem (P, some 5, some 22) I J) Q := by
  refine st_iconst (pc' := 1) dX1_foresee_0 rfl ?_
  refine st_istore_n (pc' := 2) (L' := [(2, vI 0), (0, vR (some 42)), (1, vI x1)]) dX1_foresee_1 rfl rfl (by decide) rfl ?_
  refine WP_sub (L' := [(0, vR (some 42)), (1, vI x1), (2, vI 0)]) [1, 2, 0] rfl ?_
  exact h
set_option maxRecDepth 20000 in
set_option maxHeartbeats 4000000 in
theorem B_X1_foresee_2 {k : Nat} {P : Option Nat} {I : Nat → Nat → Int32} {J : Nat → Nat → Int64} {x1 : Int} {x2 : Int} {Q : Option AV → Mem → Prop} (hk : 1 ≤ k) (h : inR x2 ∧ (((gi I 6 3) ≤ x2 → (WP k LAY m_X1_foresee 53 [(0, vR (some 42)), (1, vI x1), (2, vI 0)] [] (mem (P, some 5, some 22) I J) Q)) ∧ (¬ (gi I 6 3) ≤ x2 → ((0 ≤ x2 ∧ x2 < 5) ∧ (inR x1 ∧ ((¬ x2 = x1 → (WPm (k - 1) LAY m_X9_lightAt [vR (some 36), vI x2, vI ((gi I 15 (x2).toNat) + 0)] (mem (P, some 5, some 22) I J) (retI (fun v4 I5 J6 => WP k LAY m_X1_foresee 2 [(0, vR (some 42)), (1, vI x1), (2, vI (x2 + 1))] [] (mem (P, some 5, some 22) (si (si I5 43 (x2).toNat v4) 44 (x2).toNat 0) J6) Q) (P, some 5, some 22)))) ∧ (x2 = x1 → (WPm (k - 1) LAY m_X9_lightAt [vR (some 36), vI x2, vI ((gi I 15 (x2).toNat) + 3)] (mem (P, some 5, some 22) I J) (retI (fun v7 I8 J9 => WP k LAY m_X1_foresee 2 [(0, vR (some 42)), (1, vI x1), (2, vI (x2 + 1))] [] (mem (P, some 5, some 22) (si (si I8 43 (x2).toNat v7) 44 (x2).toNat 0) J9) Q) (P, some 5, some 22)))))))))) : WP k LAY m_X1_foresee 2 [(0, vR (some 42)), (1, vI x1), (2, vI x2)] [] (mem (P, some 5, some 22) I J) Q := by
  refine st_iload_n (pc' := 3) dX1_foresee_2 rfl rfl (j := 2) rfl ?_
  refine st_aload_n (pc' := 4) dX1_foresee_3 rfl rfl (j := 0) rfl ?_
  refine G_X1_36_42 dX1_foresee_4 (pc' := 7) rfl rfl ?_
  refine G_X1_48_4 dX1_foresee_7 (pc' := 10) rfl rfl ?_
  refine G_X1_54_5 dX1_foresee_10 (pc' := 13) rfl rfl ?_
  refine st_iconst (pc' := 14) dX1_foresee_13 rfl ?_
  refine st_iaload (pc' := 15) (v := (gi I 6 3)) dX1_foresee_14 rfl L_6 (by decide) (by decide) (show gi I 6 3 = (gi I 6 3) from rfl) ?_
  obtain ⟨e1, h⟩ := h
  refine st_icmp_ge (tg := 51) (pc' := 18) dX1_foresee_15 (by decide) rfl e1 (gi_in _ _ _) (fun c => ?_) (fun c => ?_)
  · replace h := h.1 c
    refine st_iconst (pc' := 52) dX1_foresee_51 rfl ?_
    refine st_istore_n (pc' := 53) (L' := [(2, vI 0), (0, vR (some 42)), (1, vI x1)]) dX1_foresee_52 rfl rfl (by decide) rfl ?_
    refine WP_sub (L' := [(0, vR (some 42)), (1, vI x1), (2, vI 0)]) [1, 2, 0] rfl ?_
    exact h
  · replace h := h.2 c
    refine st_aload_n (pc' := 19) dX1_foresee_18 rfl rfl (j := 0) rfl ?_
    refine G_X1_9_42 dX1_foresee_19 (pc' := 22) rfl rfl ?_
    refine st_iload_n (pc' := 23) dX1_foresee_22 rfl rfl (j := 2) rfl ?_
    refine st_aload_n (pc' := 24) dX1_foresee_23 rfl rfl (j := 0) rfl ?_
    refine G_X1_40_42 dX1_foresee_24 (pc' := 27) rfl rfl ?_
    refine st_iload_n (pc' := 28) dX1_foresee_27 rfl rfl (j := 2) rfl ?_
    refine st_aload_n (pc' := 29) dX1_foresee_28 rfl rfl (j := 0) rfl ?_
    refine st_iload_n (pc' := 30) dX1_foresee_29 rfl rfl (j := 2) rfl ?_
    refine st_iload_n (pc' := 31) dX1_foresee_30 rfl rfl (j := 1) rfl ?_
    refine st_callV (pc' := 34) (kc := k - 1) (E' := LAY) (cal := m_X1_draftAt) (n := 2) (as := [vI x2, vI x1]) (S := [vI x2, vR (some 36), vI x2, vR (some 43)]) dX1_foresee_31 rfl l_X1_57 k_X1_draftAt rfl L_42 c_X1 rfl rfl (Nat.le_of_ble_eq_true rfl) (by omega) ⟨Nat.le_refl _, Nat.le_refl _, Nat.le_refl _, Nat.le_refl _⟩ (Q1 := fun r M' => WP k LAY m_X1_foresee 34 [(0, vR (some 42)), (1, vI x1), (2, vI x2)] (r.toList ++ [vI x2, vR (some 36), vI x2, vR (some 43)]) M' Q) (WPm.of k_X1_draftAt.1 (Nat.le_of_ble_eq_true rfl) (B_X1_draftAt_0 (by omega) ?_)) (fun r M' q => q)
    obtain ⟨e2, h⟩ := h
    refine ⟨e2, ?_⟩
    obtain ⟨e3, h⟩ := h
    refine ⟨e3, ?_⟩
    refine ⟨fun c => ?_, fun c => ?_⟩
    · replace h := h.1 c
      change WP _ LAY m_X1_foresee 34 [(0, vR (some 42)), (1, vI x1), (2, vI x2)] [vI ((gi I 15 (x2).toNat) + 0), vI x2, vR (some 36), vI x2, vR (some 43)] (mem (P, some 5, some 22) I J) Q
      refine st_callV (pc' := 37) (kc := k - 1) (E' := LAY) (cal := m_X9_lightAt) (n := 2) (as := [vI x2, vI ((gi I 15 (x2).toNat) + 0)]) (S := [vI x2, vR (some 43)]) dX1_foresee_34 rfl l_X1_61 k_X9_lightAt rfl L_36 c_X9 rfl rfl (Nat.le_of_ble_eq_true rfl) (by omega) ⟨Nat.le_refl _, Nat.le_refl _, Nat.le_refl _, Nat.le_refl _⟩ h (fun r M' q => ?_)
      obtain ⟨v4, I5, J6, rfl, rfl, h⟩ := q
      change WP _ LAY m_X1_foresee 37 [(0, vR (some 42)), (1, vI x1), (2, vI x2)] [vI v4, vI x2, vR (some 43)] (mem (P, some 5, some 22) I5 J6) Q
      refine st_iastore (pc' := 38) (M' := (mem (P, some 5, some 22) (si I5 43 (x2).toNat v4) J6)) dX1_foresee_37 rfl L_43 (by decide) e2 rfl ?_
      refine st_aload_n (pc' := 39) dX1_foresee_38 rfl rfl (j := 0) rfl ?_
      refine G_X1_15_42 dX1_foresee_39 (pc' := 42) rfl rfl ?_
      refine st_iload_n (pc' := 43) dX1_foresee_42 rfl rfl (j := 2) rfl ?_
      refine st_iconst (pc' := 44) dX1_foresee_43 rfl ?_
      refine st_iastore (pc' := 45) (M' := (mem (P, some 5, some 22) (si (si I5 43 (x2).toNat v4) 44 (x2).toNat 0) J6)) dX1_foresee_44 rfl L_44 (by decide) e2 rfl ?_
      refine st_iinc (pc' := 48) (L' := [(2, vI (x2 + 1)), (0, vR (some 42)), (1, vI x1)]) (j := 2) dX1_foresee_45 rfl (by decide) rfl rfl ?_
      refine st_goto (pc' := 2) dX1_foresee_48 (by decide) ?_
      refine WP_sub (L' := [(0, vR (some 42)), (1, vI x1), (2, vI (x2 + 1))]) [1, 2, 0] rfl ?_
      exact h
    · replace h := h.2 c
      change WP _ LAY m_X1_foresee 34 [(0, vR (some 42)), (1, vI x1), (2, vI x2)] [vI ((gi I 15 (x2).toNat) + 3), vI x2, vR (some 36), vI x2, vR (some 43)] (mem (P, some 5, some 22) I J) Q
      refine st_callV (pc' := 37) (kc := k - 1) (E' := LAY) (cal := m_X9_lightAt) (n := 2) (as := [vI x2, vI ((gi I 15 (x2).toNat) + 3)]) (S := [vI x2, vR (some 43)]) dX1_foresee_34 rfl l_X1_61 k_X9_lightAt rfl L_36 c_X9 rfl rfl (Nat.le_of_ble_eq_true rfl) (by omega) ⟨Nat.le_refl _, Nat.le_refl _, Nat.le_refl _, Nat.le_refl _⟩ h (fun r M' q => ?_)
      obtain ⟨v7, I8, J9, rfl, rfl, h⟩ := q
      change WP _ LAY m_X1_foresee 37 [(0, vR (some 42)), (1, vI x1), (2, vI x2)] [vI v7, vI x2, vR (some 43)] (mem (P, some 5, some 22) I8 J9) Q
      refine st_iastore (pc' := 38) (M' := (mem (P, some 5, some 22) (si I8 43 (x2).toNat v7) J9)) dX1_foresee_37 rfl L_43 (by decide) e2 rfl ?_
      refine st_aload_n (pc' := 39) dX1_foresee_38 rfl rfl (j := 0) rfl ?_
      refine G_X1_15_42 dX1_foresee_39 (pc' := 42) rfl rfl ?_
      refine st_iload_n (pc' := 43) dX1_foresee_42 rfl rfl (j := 2) rfl ?_
      refine st_iconst (pc' := 44) dX1_foresee_43 rfl ?_
      refine st_iastore (pc' := 45) (M' := (mem (P, some 5, some 22) (si (si I8 43 (x2).toNat v7) 44 (x2).toNat 0) J9)) dX1_foresee_44 rfl L_44 (by decide) e2 rfl ?_
      refine st_iinc (pc' := 48) (L' := [(2, vI (x2 + 1)), (0, vR (some 42)), (1, vI x1)]) (j := 2) dX1_foresee_45 rfl (by decide) rfl rfl ?_
      refine st_goto (pc' := 2) dX1_foresee_48 (by decide) ?_
      refine WP_sub (L' := [(0, vR (some 42)), (1, vI x1), (2, vI (x2 + 1))]) [1, 2, 0] rfl ?_
      exact h
set_option maxRecDepth 20000 in
set_option maxHeartbeats 4000000 in
theorem B_X1_foresee_53 {k : Nat} {P : Option Nat} {I : Nat → Nat → Int32} {J : Nat → Nat → Int64} {x1 : Int} {x2 : Int} {Q : Option AV → Mem → Prop} (hk : 1 ≤ k) (h : inR x2 ∧ (((gi I 6 2) ≤ x2 → (Q none (mem (P, some 5, some 22) I J))) ∧ (¬ (gi I 6 2) ≤ x2 → ((0 ≤ ((3 + (x2 * 14)) + 0) ∧ ((3 + (x2 * 14)) + 0) < 87) ∧ ((0 ≤ (gi I 19 ((3 + (x2 * 14)) + 0).toNat) ∧ (gi I 19 ((3 + (x2 * 14)) + 0).toNat) < 5) ∧ (inR x1 ∧ ((¬ (gi I 19 ((3 + (x2 * 14)) + 0).toNat) = x1 → (WPm (k - 1) LAY m_X2_sittingAt [vR (some 4), vI (gi I 19 ((3 + (x2 * 14)) + 0).toNat)] (mem (P, some 5, some 22) I J) (retI (fun v5 I6 J7 => WPm (k - 1) LAY m_X0_lay [vR (some 39), vI x2, vI ((gi I 15 (gi I 19 ((3 + (x2 * 14)) + 0).toNat).toNat) + 0), vI v5, vI 1] (mem (P, some 5, some 22) I6 J7) (retV (fun I9 J10 => WPm (k - 1) LAY m_X1_follow [vR (some 42), vI x2, vI (gi I9 43 (gi I 19 ((3 + (x2 * 14)) + 0).toNat).toNat)] (mem (P, some 5, some 22) I9 J10) (retV (fun I12 J13 => (0 ≤ x2 ∧ x2 < 6) ∧ (WP k LAY m_X1_foresee 53 [(0, vR (some 42)), (1, vI x1), (2, vI (x2 + 1))] [] (mem (P, some 5, some 22) (si I12 44 (gi I 19 ((3 + (x2 * 14)) + 0).toNat).toNat (max (gi I12 44 (gi I 19 ((3 + (x2 * 14)) + 0).toNat).toNat) (gi I12 47 (x2).toNat))) J13) Q)) (P, some 5, some 22))) (P, some 5, some 22))) (P, some 5, some 22)))) ∧ ((gi I 19 ((3 + (x2 * 14)) + 0).toNat) = x1 → (WPm (k - 1) LAY m_X2_sittingAt [vR (some 4), vI (gi I 19 ((3 + (x2 * 14)) + 0).toNat)] (mem (P, some 5, some 22) I J) (retI (fun v15 I16 J17 => WPm (k - 1) LAY m_X0_lay [vR (some 39), vI x2, vI ((gi I 15 (gi I 19 ((3 + (x2 * 14)) + 0).toNat).toNat) + 3), vI v15, vI 1] (mem (P, some 5, some 22) I16 J17) (retV (fun I19 J20 => WPm (k - 1) LAY m_X1_follow [vR (some 42), vI x2, vI (gi I19 43 (gi I 19 ((3 + (x2 * 14)) + 0).toNat).toNat)] (mem (P, some 5, some 22) I19 J20) (retV (fun I22 J23 => (0 ≤ x2 ∧ x2 < 6) ∧ (WP k LAY m_X1_foresee 53 [(0, vR (some 42)), (1, vI x1), (2, vI (x2 + 1))] [] (mem (P, some 5, some 22) (si I22 44 (gi I 19 ((3 + (x2 * 14)) + 0).toNat).toNat (max (gi I22 44 (gi I 19 ((3 + (x2 * 14)) + 0).toNat).toNat) (gi I22 47 (x2).toNat))) J23) Q)) (P, some 5, some 22))) (P, some 5, some 22))) (P, some 5, some 22))))))))))) : WP k LAY m_X1_foresee 53 [(0, vR (some 42)), (1, vI x1), (2, vI x2)] [] (mem (P, some 5, some 22) I J) Q := by
  refine st_iload_n (pc' := 54) dX1_foresee_53 rfl rfl (j := 2) rfl ?_
  refine st_aload_n (pc' := 55) dX1_foresee_54 rfl rfl (j := 0) rfl ?_
  refine G_X1_36_42 dX1_foresee_55 (pc' := 58) rfl rfl ?_
  refine G_X1_48_4 dX1_foresee_58 (pc' := 61) rfl rfl ?_
  refine G_X1_54_5 dX1_foresee_61 (pc' := 64) rfl rfl ?_
  refine st_iconst (pc' := 65) dX1_foresee_64 rfl ?_
  refine st_iaload (pc' := 66) (v := (gi I 6 2)) dX1_foresee_65 rfl L_6 (by decide) (by decide) (show gi I 6 2 = (gi I 6 2) from rfl) ?_
  obtain ⟨e1, h⟩ := h
  refine st_icmp_ge (tg := 140) (pc' := 69) dX1_foresee_66 (by decide) rfl e1 (gi_in _ _ _) (fun c => ?_) (fun c => ?_)
  · replace h := h.1 c
    exact st_vret dX1_foresee_140 rfl rfl h
  · replace h := h.2 c
    refine st_aload_n (pc' := 70) dX1_foresee_69 rfl rfl (j := 0) rfl ?_
    refine G_X1_36_42 dX1_foresee_70 (pc' := 73) rfl rfl ?_
    refine st_iload_n (pc' := 74) dX1_foresee_73 rfl rfl (j := 2) rfl ?_
    refine st_iconst (pc' := 75) dX1_foresee_74 rfl ?_
    refine st_callV (pc' := 78) (kc := k - 1) (E' := LAY) (cal := m_X2_of) (n := 2) (as := [vI x2, vI 0]) (S := []) dX1_foresee_75 rfl l_X1_66 k_X2_of rfl L_4 c_X2 rfl rfl (Nat.le_of_ble_eq_true rfl) (by omega) ⟨Nat.le_refl _, Nat.le_refl _, Nat.le_refl _, Nat.le_refl _⟩ (Q1 := fun r M' => WP k LAY m_X1_foresee 78 [(0, vR (some 42)), (1, vI x1), (2, vI x2)] (r.toList ++ []) M' Q) (WPm.of k_X2_of.1 (Nat.le_of_ble_eq_true rfl) (B_X2_of_0 (by omega) ?_)) (fun r M' q => q)
    obtain ⟨e2, h⟩ := h
    refine ⟨e2, ?_⟩
    change WP _ LAY m_X1_foresee 78 [(0, vR (some 42)), (1, vI x1), (2, vI x2)] [vI (gi I 19 ((3 + (x2 * 14)) + 0).toNat)] (mem (P, some 5, some 22) I J) Q
    refine st_istore_n (pc' := 79) (L' := [(3, vI (gi I 19 ((3 + (x2 * 14)) + 0).toNat)), (0, vR (some 42)), (1, vI x1), (2, vI x2)]) dX1_foresee_78 rfl rfl (by decide) rfl ?_
    refine st_aload_n (pc' := 80) dX1_foresee_79 rfl rfl (j := 1) rfl ?_
    refine G_X1_44_42 dX1_foresee_80 (pc' := 83) rfl rfl ?_
    refine st_iload_n (pc' := 84) dX1_foresee_83 rfl rfl (j := 3) rfl ?_
    refine st_aload_n (pc' := 85) dX1_foresee_84 rfl rfl (j := 1) rfl ?_
    refine st_iload_n (pc' := 86) dX1_foresee_85 rfl rfl (j := 0) rfl ?_
    refine st_iload_n (pc' := 87) dX1_foresee_86 rfl rfl (j := 2) rfl ?_
    refine st_callV (pc' := 90) (kc := k - 1) (E' := LAY) (cal := m_X1_draftAt) (n := 2) (as := [vI (gi I 19 ((3 + (x2 * 14)) + 0).toNat), vI x1]) (S := [vI x2, vR (some 39)]) dX1_foresee_87 rfl l_X1_57 k_X1_draftAt rfl L_42 c_X1 rfl rfl (Nat.le_of_ble_eq_true rfl) (by omega) ⟨Nat.le_refl _, Nat.le_refl _, Nat.le_refl _, Nat.le_refl _⟩ (Q1 := fun r M' => WP k LAY m_X1_foresee 90 [(3, vI (gi I 19 ((3 + (x2 * 14)) + 0).toNat)), (0, vR (some 42)), (1, vI x1), (2, vI x2)] (r.toList ++ [vI x2, vR (some 39)]) M' Q) (WPm.of k_X1_draftAt.1 (Nat.le_of_ble_eq_true rfl) (B_X1_draftAt_0 (by omega) ?_)) (fun r M' q => q)
    obtain ⟨e3, h⟩ := h
    refine ⟨e3, ?_⟩
    obtain ⟨e4, h⟩ := h
    refine ⟨e4, ?_⟩
    refine ⟨fun c => ?_, fun c => ?_⟩
    · replace h := h.1 c
      change WP _ LAY m_X1_foresee 90 [(3, vI (gi I 19 ((3 + (x2 * 14)) + 0).toNat)), (0, vR (some 42)), (1, vI x1), (2, vI x2)] [vI ((gi I 15 (gi I 19 ((3 + (x2 * 14)) + 0).toNat).toNat) + 0), vI x2, vR (some 39)] (mem (P, some 5, some 22) I J) Q
      refine st_aload_n (pc' := 91) dX1_foresee_90 rfl rfl (j := 1) rfl ?_
      refine G_X1_36_42 dX1_foresee_91 (pc' := 94) rfl rfl ?_
      refine st_iload_n (pc' := 95) dX1_foresee_94 rfl rfl (j := 0) rfl ?_
      refine st_callV (pc' := 98) (kc := k - 1) (E' := LAY) (cal := m_X2_sittingAt) (n := 1) (as := [vI (gi I 19 ((3 + (x2 * 14)) + 0).toNat)]) (S := [vI ((gi I 15 (gi I 19 ((3 + (x2 * 14)) + 0).toNat).toNat) + 0), vI x2, vR (some 39)]) dX1_foresee_95 rfl l_X1_69 k_X2_sittingAt rfl L_4 c_X2 rfl rfl (Nat.le_of_ble_eq_true rfl) (by omega) ⟨Nat.le_refl _, Nat.le_refl _, Nat.le_refl _, Nat.le_refl _⟩ h (fun r M' q => ?_)
      obtain ⟨v5, I6, J7, rfl, rfl, h⟩ := q
      change WP _ LAY m_X1_foresee 98 [(3, vI (gi I 19 ((3 + (x2 * 14)) + 0).toNat)), (0, vR (some 42)), (1, vI x1), (2, vI x2)] [vI v5, vI ((gi I 15 (gi I 19 ((3 + (x2 * 14)) + 0).toNat).toNat) + 0), vI x2, vR (some 39)] (mem (P, some 5, some 22) I6 J7) Q
      refine st_iconst (pc' := 99) dX1_foresee_98 rfl ?_
      refine st_callV (pc' := 102) (kc := k - 1) (E' := LAY) (cal := m_X0_lay) (n := 4) (as := [vI x2, vI ((gi I 15 (gi I 19 ((3 + (x2 * 14)) + 0).toNat).toNat) + 0), vI v5, vI 1]) (S := []) dX1_foresee_99 rfl l_X1_73 k_X0_lay rfl L_39 c_X0 rfl rfl (Nat.le_of_ble_eq_true rfl) (by omega) ⟨Nat.le_refl _, Nat.le_refl _, Nat.le_refl _, Nat.le_refl _⟩ h (fun r M' q => ?_)
      obtain ⟨I9, J10, rfl, rfl, h⟩ := q
      change WP _ LAY m_X1_foresee 102 [(3, vI (gi I 19 ((3 + (x2 * 14)) + 0).toNat)), (0, vR (some 42)), (1, vI x1), (2, vI x2)] [] (mem (P, some 5, some 22) I9 J10) Q
      refine st_aload_n (pc' := 103) dX1_foresee_102 rfl rfl (j := 1) rfl ?_
      refine st_iload_n (pc' := 104) dX1_foresee_103 rfl rfl (j := 3) rfl ?_
      refine st_aload_n (pc' := 105) dX1_foresee_104 rfl rfl (j := 1) rfl ?_
      refine G_X1_9_42 dX1_foresee_105 (pc' := 108) rfl rfl ?_
      refine st_iload_n (pc' := 109) dX1_foresee_108 rfl rfl (j := 0) rfl ?_
      refine st_iaload (pc' := 110) (v := (gi I9 43 (gi I 19 ((3 + (x2 * 14)) + 0).toNat).toNat)) dX1_foresee_109 rfl L_43 (by decide) e3 (show gi I9 43 (gi I 19 ((3 + (x2 * 14)) + 0).toNat).toNat = (gi I9 43 (gi I 19 ((3 + (x2 * 14)) + 0).toNat).toNat) from rfl) ?_
      refine st_callV (pc' := 113) (kc := k - 1) (E' := LAY) (cal := m_X1_follow) (n := 2) (as := [vI x2, vI (gi I9 43 (gi I 19 ((3 + (x2 * 14)) + 0).toNat).toNat)]) (S := []) dX1_foresee_110 rfl l_X1_79 k_X1_follow rfl L_42 c_X1 rfl rfl (Nat.le_of_ble_eq_true rfl) (by omega) ⟨Nat.le_refl _, Nat.le_refl _, Nat.le_refl _, Nat.le_refl _⟩ h (fun r M' q => ?_)
      obtain ⟨I12, J13, rfl, rfl, h⟩ := q
      change WP _ LAY m_X1_foresee 113 [(3, vI (gi I 19 ((3 + (x2 * 14)) + 0).toNat)), (0, vR (some 42)), (1, vI x1), (2, vI x2)] [] (mem (P, some 5, some 22) I12 J13) Q
      refine st_aload_n (pc' := 114) dX1_foresee_113 rfl rfl (j := 1) rfl ?_
      refine G_X1_15_42 dX1_foresee_114 (pc' := 117) rfl rfl ?_
      refine st_iload_n (pc' := 118) dX1_foresee_117 rfl rfl (j := 0) rfl ?_
      refine st_aload_n (pc' := 119) dX1_foresee_118 rfl rfl (j := 1) rfl ?_
      refine G_X1_15_42 dX1_foresee_119 (pc' := 122) rfl rfl ?_
      refine st_iload_n (pc' := 123) dX1_foresee_122 rfl rfl (j := 0) rfl ?_
      refine st_iaload (pc' := 124) (v := (gi I12 44 (gi I 19 ((3 + (x2 * 14)) + 0).toNat).toNat)) dX1_foresee_123 rfl L_44 (by decide) e3 (show gi I12 44 (gi I 19 ((3 + (x2 * 14)) + 0).toNat).toNat = (gi I12 44 (gi I 19 ((3 + (x2 * 14)) + 0).toNat).toNat) from rfl) ?_
      refine st_aload_n (pc' := 125) dX1_foresee_124 rfl rfl (j := 1) rfl ?_
      refine G_X1_24_42 dX1_foresee_125 (pc' := 128) rfl rfl ?_
      refine st_iload_n (pc' := 129) dX1_foresee_128 rfl rfl (j := 3) rfl ?_
      obtain ⟨e14, h⟩ := h
      refine st_iaload (pc' := 130) (v := (gi I12 47 (x2).toNat)) dX1_foresee_129 rfl L_47 (by decide) e14 (show gi I12 47 (x2).toNat = (gi I12 47 (x2).toNat) from rfl) ?_
      refine st_callS (pc' := 133) (kc := k - 1) (E' := LAY) (cal := m_J9_max_7cf53) (n := 2) (as := [vI (gi I12 44 (gi I 19 ((3 + (x2 * 14)) + 0).toNat).toNat), vI (gi I12 47 (x2).toNat)]) (S := [vI (gi I 19 ((3 + (x2 * 14)) + 0).toNat), vR (some 44)]) dX1_foresee_130 rfl l_X1_83 k_J9_max_7cf53 rfl rfl (Nat.le_of_ble_eq_true rfl) (by omega) ⟨Nat.le_refl _, Nat.le_refl _, Nat.le_refl _, Nat.le_refl _⟩ (Q1 := fun r M' => WP k LAY m_X1_foresee 133 [(3, vI (gi I 19 ((3 + (x2 * 14)) + 0).toNat)), (0, vR (some 42)), (1, vI x1), (2, vI x2)] (r.toList ++ [vI (gi I 19 ((3 + (x2 * 14)) + 0).toNat), vR (some 44)]) M' Q) (S_J9_max (by omega) (gi_in _ _ _) (gi_in _ _ _) ?_) (fun r M' q => q)
      change WP _ LAY m_X1_foresee 133 [(3, vI (gi I 19 ((3 + (x2 * 14)) + 0).toNat)), (0, vR (some 42)), (1, vI x1), (2, vI x2)] [vI (max (gi I12 44 (gi I 19 ((3 + (x2 * 14)) + 0).toNat).toNat) (gi I12 47 (x2).toNat)), vI (gi I 19 ((3 + (x2 * 14)) + 0).toNat), vR (some 44)] (mem (P, some 5, some 22) I12 J13) Q
      refine st_iastore (pc' := 134) (M' := (mem (P, some 5, some 22) (si I12 44 (gi I 19 ((3 + (x2 * 14)) + 0).toNat).toNat (max (gi I12 44 (gi I 19 ((3 + (x2 * 14)) + 0).toNat).toNat) (gi I12 47 (x2).toNat))) J13)) dX1_foresee_133 rfl L_44 (by decide) e3 rfl ?_
      refine st_iinc (pc' := 137) (L' := [(2, vI (x2 + 1)), (3, vI (gi I 19 ((3 + (x2 * 14)) + 0).toNat)), (0, vR (some 42)), (1, vI x1)]) (j := 3) dX1_foresee_134 rfl (by decide) rfl rfl ?_
      refine st_goto (pc' := 53) dX1_foresee_137 (by decide) ?_
      refine WP_sub (L' := [(0, vR (some 42)), (1, vI x1), (2, vI (x2 + 1))]) [2, 3, 0] rfl ?_
      exact h
    · replace h := h.2 c
      change WP _ LAY m_X1_foresee 90 [(3, vI (gi I 19 ((3 + (x2 * 14)) + 0).toNat)), (0, vR (some 42)), (1, vI x1), (2, vI x2)] [vI ((gi I 15 (gi I 19 ((3 + (x2 * 14)) + 0).toNat).toNat) + 3), vI x2, vR (some 39)] (mem (P, some 5, some 22) I J) Q
      refine st_aload_n (pc' := 91) dX1_foresee_90 rfl rfl (j := 1) rfl ?_
      refine G_X1_36_42 dX1_foresee_91 (pc' := 94) rfl rfl ?_
      refine st_iload_n (pc' := 95) dX1_foresee_94 rfl rfl (j := 0) rfl ?_
      refine st_callV (pc' := 98) (kc := k - 1) (E' := LAY) (cal := m_X2_sittingAt) (n := 1) (as := [vI (gi I 19 ((3 + (x2 * 14)) + 0).toNat)]) (S := [vI ((gi I 15 (gi I 19 ((3 + (x2 * 14)) + 0).toNat).toNat) + 3), vI x2, vR (some 39)]) dX1_foresee_95 rfl l_X1_69 k_X2_sittingAt rfl L_4 c_X2 rfl rfl (Nat.le_of_ble_eq_true rfl) (by omega) ⟨Nat.le_refl _, Nat.le_refl _, Nat.le_refl _, Nat.le_refl _⟩ h (fun r M' q => ?_)
      obtain ⟨v15, I16, J17, rfl, rfl, h⟩ := q
      change WP _ LAY m_X1_foresee 98 [(3, vI (gi I 19 ((3 + (x2 * 14)) + 0).toNat)), (0, vR (some 42)), (1, vI x1), (2, vI x2)] [vI v15, vI ((gi I 15 (gi I 19 ((3 + (x2 * 14)) + 0).toNat).toNat) + 3), vI x2, vR (some 39)] (mem (P, some 5, some 22) I16 J17) Q
      refine st_iconst (pc' := 99) dX1_foresee_98 rfl ?_
      refine st_callV (pc' := 102) (kc := k - 1) (E' := LAY) (cal := m_X0_lay) (n := 4) (as := [vI x2, vI ((gi I 15 (gi I 19 ((3 + (x2 * 14)) + 0).toNat).toNat) + 3), vI v15, vI 1]) (S := []) dX1_foresee_99 rfl l_X1_73 k_X0_lay rfl L_39 c_X0 rfl rfl (Nat.le_of_ble_eq_true rfl) (by omega) ⟨Nat.le_refl _, Nat.le_refl _, Nat.le_refl _, Nat.le_refl _⟩ h (fun r M' q => ?_)
      obtain ⟨I19, J20, rfl, rfl, h⟩ := q
      change WP _ LAY m_X1_foresee 102 [(3, vI (gi I 19 ((3 + (x2 * 14)) + 0).toNat)), (0, vR (some 42)), (1, vI x1), (2, vI x2)] [] (mem (P, some 5, some 22) I19 J20) Q
      refine st_aload_n (pc' := 103) dX1_foresee_102 rfl rfl (j := 1) rfl ?_
      refine st_iload_n (pc' := 104) dX1_foresee_103 rfl rfl (j := 3) rfl ?_
      refine st_aload_n (pc' := 105) dX1_foresee_104 rfl rfl (j := 1) rfl ?_
      refine G_X1_9_42 dX1_foresee_105 (pc' := 108) rfl rfl ?_
      refine st_iload_n (pc' := 109) dX1_foresee_108 rfl rfl (j := 0) rfl ?_
      refine st_iaload (pc' := 110) (v := (gi I19 43 (gi I 19 ((3 + (x2 * 14)) + 0).toNat).toNat)) dX1_foresee_109 rfl L_43 (by decide) e3 (show gi I19 43 (gi I 19 ((3 + (x2 * 14)) + 0).toNat).toNat = (gi I19 43 (gi I 19 ((3 + (x2 * 14)) + 0).toNat).toNat) from rfl) ?_
      refine st_callV (pc' := 113) (kc := k - 1) (E' := LAY) (cal := m_X1_follow) (n := 2) (as := [vI x2, vI (gi I19 43 (gi I 19 ((3 + (x2 * 14)) + 0).toNat).toNat)]) (S := []) dX1_foresee_110 rfl l_X1_79 k_X1_follow rfl L_42 c_X1 rfl rfl (Nat.le_of_ble_eq_true rfl) (by omega) ⟨Nat.le_refl _, Nat.le_refl _, Nat.le_refl _, Nat.le_refl _⟩ h (fun r M' q => ?_)
      obtain ⟨I22, J23, rfl, rfl, h⟩ := q
      change WP _ LAY m_X1_foresee 113 [(3, vI (gi I 19 ((3 + (x2 * 14)) + 0).toNat)), (0, vR (some 42)), (1, vI x1), (2, vI x2)] [] (mem (P, some 5, some 22) I22 J23) Q
      refine st_aload_n (pc' := 114) dX1_foresee_113 rfl rfl (j := 1) rfl ?_
      refine G_X1_15_42 dX1_foresee_114 (pc' := 117) rfl rfl ?_
      refine st_iload_n (pc' := 118) dX1_foresee_117 rfl rfl (j := 0) rfl ?_
      refine st_aload_n (pc' := 119) dX1_foresee_118 rfl rfl (j := 1) rfl ?_
      refine G_X1_15_42 dX1_foresee_119 (pc' := 122) rfl rfl ?_
      refine st_iload_n (pc' := 123) dX1_foresee_122 rfl rfl (j := 0) rfl ?_
      refine st_iaload (pc' := 124) (v := (gi I22 44 (gi I 19 ((3 + (x2 * 14)) + 0).toNat).toNat)) dX1_foresee_123 rfl L_44 (by decide) e3 (show gi I22 44 (gi I 19 ((3 + (x2 * 14)) + 0).toNat).toNat = (gi I22 44 (gi I 19 ((3 + (x2 * 14)) + 0).toNat).toNat) from rfl) ?_
      refine st_aload_n (pc' := 125) dX1_foresee_124 rfl rfl (j := 1) rfl ?_
      refine G_X1_24_42 dX1_foresee_125 (pc' := 128) rfl rfl ?_
      refine st_iload_n (pc' := 129) dX1_foresee_128 rfl rfl (j := 3) rfl ?_
      obtain ⟨e24, h⟩ := h
      refine st_iaload (pc' := 130) (v := (gi I22 47 (x2).toNat)) dX1_foresee_129 rfl L_47 (by decide) e24 (show gi I22 47 (x2).toNat = (gi I22 47 (x2).toNat) from rfl) ?_
      refine st_callS (pc' := 133) (kc := k - 1) (E' := LAY) (cal := m_J9_max_7cf53) (n := 2) (as := [vI (gi I22 44 (gi I 19 ((3 + (x2 * 14)) + 0).toNat).toNat), vI (gi I22 47 (x2).toNat)]) (S := [vI (gi I 19 ((3 + (x2 * 14)) + 0).toNat), vR (some 44)]) dX1_foresee_130 rfl l_X1_83 k_J9_max_7cf53 rfl rfl (Nat.le_of_ble_eq_true rfl) (by omega) ⟨Nat.le_refl _, Nat.le_refl _, Nat.le_refl _, Nat.le_refl _⟩ (Q1 := fun r M' => WP k LAY m_X1_foresee 133 [(3, vI (gi I 19 ((3 + (x2 * 14)) + 0).toNat)), (0, vR (some 42)), (1, vI x1), (2, vI x2)] (r.toList ++ [vI (gi I 19 ((3 + (x2 * 14)) + 0).toNat), vR (some 44)]) M' Q) (S_J9_max (by omega) (gi_in _ _ _) (gi_in _ _ _) ?_) (fun r M' q => q)
      change WP _ LAY m_X1_foresee 133 [(3, vI (gi I 19 ((3 + (x2 * 14)) + 0).toNat)), (0, vR (some 42)), (1, vI x1), (2, vI x2)] [vI (max (gi I22 44 (gi I 19 ((3 + (x2 * 14)) + 0).toNat).toNat) (gi I22 47 (x2).toNat)), vI (gi I 19 ((3 + (x2 * 14)) + 0).toNat), vR (some 44)] (mem (P, some 5, some 22) I22 J23) Q
      refine st_iastore (pc' := 134) (M' := (mem (P, some 5, some 22) (si I22 44 (gi I 19 ((3 + (x2 * 14)) + 0).toNat).toNat (max (gi I22 44 (gi I 19 ((3 + (x2 * 14)) + 0).toNat).toNat) (gi I22 47 (x2).toNat))) J23)) dX1_foresee_133 rfl L_44 (by decide) e3 rfl ?_
      refine st_iinc (pc' := 137) (L' := [(2, vI (x2 + 1)), (3, vI (gi I 19 ((3 + (x2 * 14)) + 0).toNat)), (0, vR (some 42)), (1, vI x1)]) (j := 3) dX1_foresee_134 rfl (by decide) rfl rfl ?_
      refine st_goto (pc' := 53) dX1_foresee_137 (by decide) ?_
      refine WP_sub (L' := [(0, vR (some 42)), (1, vI x1), (2, vI (x2 + 1))]) [2, 3, 0] rfl ?_
      exact h
set_option maxRecDepth 20000 in
set_option maxHeartbeats 4000000 in
theorem B_X1_allWax_0 {k : Nat} {P : Option Nat} {I : Nat → Nat → Int32} {J : Nat → Nat → Int64}  {Q : Option AV → Mem → Prop} (hk : 0 ≤ k) (h : WP k LAY m_X1_allWax 4 [(0, vR (some 42)), (1, vI 0), (2, vI 0)] [] (mem (P, some 5, some 22) I J) Q) : WP k LAY m_X1_allWax 0 [(0, vR (some 42))] [] (mem (P, some 5, some 22) I J) Q := by
  refine st_iconst (pc' := 1) dX1_allWax_0 rfl ?_
  refine st_istore_n (pc' := 2) (L' := [(1, vI 0), (0, vR (some 42))]) dX1_allWax_1 rfl rfl (by decide) rfl ?_
  refine st_iconst (pc' := 3) dX1_allWax_2 rfl ?_
  refine st_istore_n (pc' := 4) (L' := [(2, vI 0), (1, vI 0), (0, vR (some 42))]) dX1_allWax_3 rfl rfl (by decide) rfl ?_
  refine WP_sub (L' := [(0, vR (some 42)), (1, vI 0), (2, vI 0)]) [2, 1, 0] rfl ?_
  exact h
set_option maxRecDepth 20000 in
set_option maxHeartbeats 4000000 in
theorem B_X1_allWax_4 {k : Nat} {P : Option Nat} {I : Nat → Nat → Int32} {J : Nat → Nat → Int64} {x1 : Int} {x2 : Int} {Q : Option AV → Mem → Prop} (hk : 0 ≤ k) (h : inR x2 ∧ (((gi I 6 3) ≤ x2 → (Q (some (vI x1)) (mem (P, some 5, some 22) I J))) ∧ (¬ (gi I 6 3) ≤ x2 → ((0 ≤ x2 ∧ x2 < 5) ∧ (WP k LAY m_X1_allWax 4 [(0, vR (some 42)), (1, vI (x1 + ((gi I 43 (x2).toNat) - (gi I 44 (x2).toNat)))), (2, vI (x2 + 1))] [] (mem (P, some 5, some 22) I J) Q))))) : WP k LAY m_X1_allWax 4 [(0, vR (some 42)), (1, vI x1), (2, vI x2)] [] (mem (P, some 5, some 22) I J) Q := by
  refine st_iload_n (pc' := 5) dX1_allWax_4 rfl rfl (j := 2) rfl ?_
  refine st_aload_n (pc' := 6) dX1_allWax_5 rfl rfl (j := 0) rfl ?_
  refine G_X1_36_42 dX1_allWax_6 (pc' := 9) rfl rfl ?_
  refine G_X1_48_4 dX1_allWax_9 (pc' := 12) rfl rfl ?_
  refine G_X1_54_5 dX1_allWax_12 (pc' := 15) rfl rfl ?_
  refine st_iconst (pc' := 16) dX1_allWax_15 rfl ?_
  refine st_iaload (pc' := 17) (v := (gi I 6 3)) dX1_allWax_16 rfl L_6 (by decide) (by decide) (show gi I 6 3 = (gi I 6 3) from rfl) ?_
  obtain ⟨e1, h⟩ := h
  refine st_icmp_ge (tg := 42) (pc' := 20) dX1_allWax_17 (by decide) rfl e1 (gi_in _ _ _) (fun c => ?_) (fun c => ?_)
  · replace h := h.1 c
    refine st_iload_n (pc' := 43) dX1_allWax_42 rfl rfl (j := 1) rfl ?_
    exact st_iret (ty := .int) dX1_allWax_43 rfl rfl rfl h
  · replace h := h.2 c
    refine st_iload_n (pc' := 21) dX1_allWax_20 rfl rfl (j := 1) rfl ?_
    refine st_aload_n (pc' := 22) dX1_allWax_21 rfl rfl (j := 0) rfl ?_
    refine G_X1_9_42 dX1_allWax_22 (pc' := 25) rfl rfl ?_
    refine st_iload_n (pc' := 26) dX1_allWax_25 rfl rfl (j := 2) rfl ?_
    obtain ⟨e2, h⟩ := h
    refine st_iaload (pc' := 27) (v := (gi I 43 (x2).toNat)) dX1_allWax_26 rfl L_43 (by decide) e2 (show gi I 43 (x2).toNat = (gi I 43 (x2).toNat) from rfl) ?_
    refine st_aload_n (pc' := 28) dX1_allWax_27 rfl rfl (j := 0) rfl ?_
    refine G_X1_15_42 dX1_allWax_28 (pc' := 31) rfl rfl ?_
    refine st_iload_n (pc' := 32) dX1_allWax_31 rfl rfl (j := 2) rfl ?_
    refine st_iaload (pc' := 33) (v := (gi I 44 (x2).toNat)) dX1_allWax_32 rfl L_44 (by decide) e2 (show gi I 44 (x2).toNat = (gi I 44 (x2).toNat) from rfl) ?_
    refine st_isub (pc' := 34) dX1_allWax_33 rfl ?_
    refine st_iadd (pc' := 35) dX1_allWax_34 rfl ?_
    refine st_istore_n (pc' := 36) (L' := [(1, vI (x1 + ((gi I 43 (x2).toNat) - (gi I 44 (x2).toNat)))), (0, vR (some 42)), (2, vI x2)]) dX1_allWax_35 rfl rfl (by decide) rfl ?_
    refine st_iinc (pc' := 39) (L' := [(2, vI (x2 + 1)), (1, vI (x1 + ((gi I 43 (x2).toNat) - (gi I 44 (x2).toNat)))), (0, vR (some 42))]) (j := 2) dX1_allWax_36 rfl (by decide) rfl rfl ?_
    refine st_goto (pc' := 4) dX1_allWax_39 (by decide) ?_
    refine WP_sub (L' := [(0, vR (some 42)), (1, vI (x1 + ((gi I 43 (x2).toNat) - (gi I 44 (x2).toNat)))), (2, vI (x2 + 1))]) [2, 1, 0] rfl ?_
    exact h
set_option maxRecDepth 20000 in
set_option maxHeartbeats 4000000 in
theorem B_X1_happen_0 {k : Nat} {P : Option Nat} {I : Nat → Nat → Int32} {J : Nat → Nat → Int64}  {Q : Option AV → Mem → Prop} (hk : 1 ≤ k) (h : WPm (k - 1) LAY m_X1_allWax [vR (some 42)] (mem (P, some 5, some 22) (si I 19 0 ((gi I 19 0) + 1)) J) (retI (fun v1 I2 J3 => inR ((gi I 19 1) + v1) ∧ (WP k LAY m_X1_happen 44 [(0, vR (some 42)), (1, vI 0)] [] (mem (P, some 5, some 22) (si I2 19 1 (min 9999 ((gi I 19 1) + v1))) J3) Q)) (P, some 5, some 22))) : WP k LAY m_X1_happen 0 [(0, vR (some 42))] [] (mem (P, some 5, some 22) I J) Q := by
  refine st_aload_n (pc' := 1) dX1_happen_0 rfl rfl (j := 0) rfl ?_
  refine G_X1_36_42 dX1_happen_1 (pc' := 4) rfl rfl ?_
  refine G_X1_110_4 dX1_happen_4 (pc' := 7) rfl rfl ?_
  refine st_iconst (pc' := 8) dX1_happen_7 rfl ?_
  refine st_dup2 (pc' := 9) dX1_happen_8 rfl rfl rfl ?_
  refine st_iaload (pc' := 10) (v := (gi I 19 0)) dX1_happen_9 rfl L_19 (by decide) (by decide) (show gi I 19 0 = (gi I 19 0) from rfl) ?_
  refine st_iconst (pc' := 11) dX1_happen_10 rfl ?_
  refine st_iadd (pc' := 12) dX1_happen_11 rfl ?_
  refine st_iastore (pc' := 13) (M' := (mem (P, some 5, some 22) (si I 19 0 ((gi I 19 0) + 1)) J)) dX1_happen_12 rfl L_19 (by decide) (by decide) rfl ?_
  refine st_aload_n (pc' := 14) dX1_happen_13 rfl rfl (j := 0) rfl ?_
  refine G_X1_36_42 dX1_happen_14 (pc' := 17) rfl rfl ?_
  refine G_X1_110_4 dX1_happen_17 (pc' := 20) rfl rfl ?_
  refine st_iconst (pc' := 21) dX1_happen_20 rfl ?_
  refine st_sipush (pc' := 24) dX1_happen_21 rfl (by decide) ?_
  refine st_aload_n (pc' := 25) dX1_happen_24 rfl rfl (j := 0) rfl ?_
  refine G_X1_36_42 dX1_happen_25 (pc' := 28) rfl rfl ?_
  refine G_X1_110_4 dX1_happen_28 (pc' := 31) rfl rfl ?_
  refine st_iconst (pc' := 32) dX1_happen_31 rfl ?_
  refine st_iaload (pc' := 33) (v := (gi I 19 1)) dX1_happen_32 rfl L_19 (by decide) (by decide) (show gi (si I 19 0 ((gi I 19 0) + 1)) 19 1 = (gi I 19 1) from (gi_idx _ _ _ (by decide))) ?_
  refine st_aload_n (pc' := 34) dX1_happen_33 rfl rfl (j := 0) rfl ?_
  refine st_callV (pc' := 37) (kc := k - 1) (E' := LAY) (cal := m_X1_allWax) (n := 0) (as := []) (S := [vI (gi I 19 1), vI 9999, vI 1, vR (some 19)]) dX1_happen_34 rfl l_X1_113 k_X1_allWax rfl L_42 c_X1 rfl rfl (Nat.le_of_ble_eq_true rfl) (by omega) ⟨Nat.le_refl _, Nat.le_refl _, Nat.le_refl _, Nat.le_refl _⟩ h (fun r M' q => ?_)
  obtain ⟨v1, I2, J3, rfl, rfl, h⟩ := q
  change WP _ LAY m_X1_happen 37 [(0, vR (some 42))] [vI v1, vI (gi I 19 1), vI 9999, vI 1, vR (some 19)] (mem (P, some 5, some 22) I2 J3) Q
  refine st_iadd (pc' := 38) dX1_happen_37 rfl ?_
  obtain ⟨e4, h⟩ := h
  refine st_callS (pc' := 41) (kc := k - 1) (E' := LAY) (cal := m_J9_min_7cf53) (n := 2) (as := [vI 9999, vI ((gi I 19 1) + v1)]) (S := [vI 1, vR (some 19)]) dX1_happen_38 rfl l_X1_117 k_J9_min_7cf53 rfl rfl (Nat.le_of_ble_eq_true rfl) (by omega) ⟨Nat.le_refl _, Nat.le_refl _, Nat.le_refl _, Nat.le_refl _⟩ (Q1 := fun r M' => WP k LAY m_X1_happen 41 [(0, vR (some 42))] (r.toList ++ [vI 1, vR (some 19)]) M' Q) (S_J9_min (by omega) (by decide) e4 ?_) (fun r M' q => q)
  change WP _ LAY m_X1_happen 41 [(0, vR (some 42))] [vI (min 9999 ((gi I 19 1) + v1)), vI 1, vR (some 19)] (mem (P, some 5, some 22) I2 J3) Q
  refine st_iastore (pc' := 42) (M' := (mem (P, some 5, some 22) (si I2 19 1 (min 9999 ((gi I 19 1) + v1))) J3)) dX1_happen_41 rfl L_19 (by decide) (by decide) rfl ?_
  refine st_iconst (pc' := 43) dX1_happen_42 rfl ?_
  refine st_istore_n (pc' := 44) (L' := [(1, vI 0), (0, vR (some 42))]) dX1_happen_43 rfl rfl (by decide) rfl ?_
  refine WP_sub (L' := [(0, vR (some 42)), (1, vI 0)]) [1, 0] rfl ?_
  exact h
set_option maxRecDepth 20000 in
set_option maxHeartbeats 4000000 in
theorem B_X1_happen_44 {k : Nat} {P : Option Nat} {I : Nat → Nat → Int32} {J : Nat → Nat → Int64} {x1 : Int} {Q : Option AV → Mem → Prop} (hk : 1 ≤ k) (h : inR x1 ∧ (((gi I 6 2) ≤ x1 → (Q none (mem (P, some 5, some 22) I J))) ∧ (¬ (gi I 6 2) ≤ x1 → ((0 ≤ ((3 + (x1 * 14)) + 1) ∧ ((3 + (x1 * 14)) + 1) < 87) ∧ ((0 ≤ x1 ∧ x1 < 6) ∧ (WP k LAY m_X1_happen 87 [(0, vR (some 42)), (1, vI x1), (2, vI 0)] [] (mem (P, some 5, some 22) (si I 19 ((3 + (x1 * 14)) + 1).toNat (or32 (gi I 19 ((3 + (x1 * 14)) + 1).toNat) (gi I 46 (x1).toNat))) J) Q)))))) : WP k LAY m_X1_happen 44 [(0, vR (some 42)), (1, vI x1)] [] (mem (P, some 5, some 22) I J) Q := by
  refine st_iload_n (pc' := 45) dX1_happen_44 rfl rfl (j := 1) rfl ?_
  refine st_aload_n (pc' := 46) dX1_happen_45 rfl rfl (j := 0) rfl ?_
  refine G_X1_36_42 dX1_happen_46 (pc' := 49) rfl rfl ?_
  refine G_X1_48_4 dX1_happen_49 (pc' := 52) rfl rfl ?_
  refine G_X1_54_5 dX1_happen_52 (pc' := 55) rfl rfl ?_
  refine st_iconst (pc' := 56) dX1_happen_55 rfl ?_
  refine st_iaload (pc' := 57) (v := (gi I 6 2)) dX1_happen_56 rfl L_6 (by decide) (by decide) (show gi I 6 2 = (gi I 6 2) from rfl) ?_
  obtain ⟨e1, h⟩ := h
  refine st_icmp_ge (tg := 169) (pc' := 60) dX1_happen_57 (by decide) rfl e1 (gi_in _ _ _) (fun c => ?_) (fun c => ?_)
  · replace h := h.1 c
    exact st_vret dX1_happen_169 rfl rfl h
  · replace h := h.2 c
    refine st_aload_n (pc' := 61) dX1_happen_60 rfl rfl (j := 0) rfl ?_
    refine G_X1_36_42 dX1_happen_61 (pc' := 64) rfl rfl ?_
    refine st_iload_n (pc' := 65) dX1_happen_64 rfl rfl (j := 1) rfl ?_
    refine st_iconst (pc' := 66) dX1_happen_65 rfl ?_
    refine st_aload_n (pc' := 67) dX1_happen_66 rfl rfl (j := 0) rfl ?_
    refine G_X1_36_42 dX1_happen_67 (pc' := 70) rfl rfl ?_
    refine st_iload_n (pc' := 71) dX1_happen_70 rfl rfl (j := 1) rfl ?_
    refine st_iconst (pc' := 72) dX1_happen_71 rfl ?_
    refine st_callV (pc' := 75) (kc := k - 1) (E' := LAY) (cal := m_X2_of) (n := 2) (as := [vI x1, vI 1]) (S := [vI 1, vI x1, vR (some 4)]) dX1_happen_72 rfl l_X1_66 k_X2_of rfl L_4 c_X2 rfl rfl (Nat.le_of_ble_eq_true rfl) (by omega) ⟨Nat.le_refl _, Nat.le_refl _, Nat.le_refl _, Nat.le_refl _⟩ (Q1 := fun r M' => WP k LAY m_X1_happen 75 [(0, vR (some 42)), (1, vI x1)] (r.toList ++ [vI 1, vI x1, vR (some 4)]) M' Q) (WPm.of k_X2_of.1 (Nat.le_of_ble_eq_true rfl) (B_X2_of_0 (by omega) ?_)) (fun r M' q => q)
    obtain ⟨e2, h⟩ := h
    refine ⟨e2, ?_⟩
    change WP _ LAY m_X1_happen 75 [(0, vR (some 42)), (1, vI x1)] [vI (gi I 19 ((3 + (x1 * 14)) + 1).toNat), vI 1, vI x1, vR (some 4)] (mem (P, some 5, some 22) I J) Q
    refine st_aload_n (pc' := 76) dX1_happen_75 rfl rfl (j := 0) rfl ?_
    refine G_X1_21_42 dX1_happen_76 (pc' := 79) rfl rfl ?_
    refine st_iload_n (pc' := 80) dX1_happen_79 rfl rfl (j := 1) rfl ?_
    obtain ⟨e3, h⟩ := h
    refine st_iaload (pc' := 81) (v := (gi I 46 (x1).toNat)) dX1_happen_80 rfl L_46 (by decide) e3 (show gi I 46 (x1).toNat = (gi I 46 (x1).toNat) from rfl) ?_
    refine st_ior (pc' := 82) (z := (or32 (gi I 19 ((3 + (x1 * 14)) + 1).toNat) (gi I 46 (x1).toNat))) dX1_happen_81 rfl rfl ?_
    refine st_callV (pc' := 85) (kc := k - 1) (E' := LAY) (cal := m_X2_set) (n := 3) (as := [vI x1, vI 1, vI (or32 (gi I 19 ((3 + (x1 * 14)) + 1).toNat) (gi I 46 (x1).toNat))]) (S := []) dX1_happen_82 rfl l_X1_120 k_X2_set rfl L_4 c_X2 rfl rfl (Nat.le_of_ble_eq_true rfl) (by omega) ⟨Nat.le_refl _, Nat.le_refl _, Nat.le_refl _, Nat.le_refl _⟩ (Q1 := fun r M' => WP k LAY m_X1_happen 85 [(0, vR (some 42)), (1, vI x1)] (r.toList ++ []) M' Q) (WPm.of k_X2_set.1 (Nat.le_of_ble_eq_true rfl) (B_X2_set_0 (by omega) ?_)) (fun r M' q => q)
    refine ⟨e2, ?_⟩
    change WP _ LAY m_X1_happen 85 [(0, vR (some 42)), (1, vI x1)] [] (mem (P, some 5, some 22) (si I 19 ((3 + (x1 * 14)) + 1).toNat (or32 (gi I 19 ((3 + (x1 * 14)) + 1).toNat) (gi I 46 (x1).toNat))) J) Q
    refine st_iconst (pc' := 86) dX1_happen_85 rfl ?_
    refine st_istore_n (pc' := 87) (L' := [(2, vI 0), (0, vR (some 42)), (1, vI x1)]) dX1_happen_86 rfl rfl (by decide) rfl ?_
    refine WP_sub (L' := [(0, vR (some 42)), (1, vI x1), (2, vI 0)]) [1, 2, 0] rfl ?_
    exact h
set_option maxRecDepth 20000 in
set_option maxHeartbeats 4000000 in
theorem B_X1_happen_87 {k : Nat} {P : Option Nat} {I : Nat → Nat → Int32} {J : Nat → Nat → Int64} {x1 : Int} {x2 : Int} {Q : Option AV → Mem → Prop} (hk : 1 ≤ k) (h : (0 ≤ x1 ∧ x1 < 6) ∧ (inR x2 ∧ (((gi I 45 (x1).toNat) ≤ x2 → ((0 ≤ ((3 + (x1 * 14)) + 3) ∧ ((3 + (x1 * 14)) + 3) < 87) ∧ ((0 ≤ ((3 + (x1 * 14)) + 4) ∧ ((3 + (x1 * 14)) + 4) < 87) ∧ (WP k LAY m_X1_happen 44 [(0, vR (some 42)), (1, vI (x1 + 1))] [] (mem (P, some 5, some 22) (si (si I 19 ((3 + (x1 * 14)) + 3).toNat (gi I 48 (x1).toNat)) 19 ((3 + (x1 * 14)) + 4).toNat (gi I 49 (x1).toNat)) J) Q)))) ∧ (¬ (gi I 45 (x1).toNat) ≤ x2 → ((0 ≤ ((x1 * 8) + x2) ∧ ((x1 * 8) + x2) < 48) ∧ (WPm (k - 1) LAY m_X2_strike [vR (some 4), vI x1, vI (gi I 50 ((x1 * 8) + x2).toNat)] (mem (P, some 5, some 22) I J) (retV (fun I7 J8 => (84 ≤ (gi I7 19 2) → (WP k LAY m_X1_happen 87 [(0, vR (some 42)), (1, vI x1), (2, vI (x2 + 1))] [] (mem (P, some 5, some 22) I7 J8) Q)) ∧ (¬ 84 ≤ (gi I7 19 2) → ((0 ≤ (gi I7 19 2) ∧ (gi I7 19 2) < 84) ∧ (WP k LAY m_X1_happen 87 [(0, vR (some 42)), (1, vI x1), (2, vI (x2 + 1))] [] (mem (P, some 5, some 22) (si (si I7 20 (gi I7 19 2).toNat (or32 (or32 (shl32 (gi I7 19 0) 7) (shl32 x1 4)) (gi I 50 ((x1 * 8) + x2).toNat))) 19 2 ((gi I7 19 2) + 1)) J8) Q)))) (P, some 5, some 22)))))))) : WP k LAY m_X1_happen 87 [(0, vR (some 42)), (1, vI x1), (2, vI x2)] [] (mem (P, some 5, some 22) I J) Q := by
  refine st_iload_n (pc' := 88) dX1_happen_87 rfl rfl (j := 2) rfl ?_
  refine st_aload_n (pc' := 89) dX1_happen_88 rfl rfl (j := 0) rfl ?_
  refine G_X1_18_42 dX1_happen_89 (pc' := 92) rfl rfl ?_
  refine st_iload_n (pc' := 93) dX1_happen_92 rfl rfl (j := 1) rfl ?_
  obtain ⟨e1, h⟩ := h
  refine st_iaload (pc' := 94) (v := (gi I 45 (x1).toNat)) dX1_happen_93 rfl L_45 (by decide) e1 (show gi I 45 (x1).toNat = (gi I 45 (x1).toNat) from rfl) ?_
  obtain ⟨e2, h⟩ := h
  refine st_icmp_ge (tg := 133) (pc' := 97) dX1_happen_94 (by decide) rfl e2 (gi_in _ _ _) (fun c => ?_) (fun c => ?_)
  · replace h := h.1 c
    refine st_aload_n (pc' := 134) dX1_happen_133 rfl rfl (j := 0) rfl ?_
    refine G_X1_36_42 dX1_happen_134 (pc' := 137) rfl rfl ?_
    refine st_iload_n (pc' := 138) dX1_happen_137 rfl rfl (j := 1) rfl ?_
    refine st_iconst (pc' := 139) dX1_happen_138 rfl ?_
    refine st_aload_n (pc' := 140) dX1_happen_139 rfl rfl (j := 0) rfl ?_
    refine G_X1_27_42 dX1_happen_140 (pc' := 143) rfl rfl ?_
    refine st_iload_n (pc' := 144) dX1_happen_143 rfl rfl (j := 1) rfl ?_
    refine st_iaload (pc' := 145) (v := (gi I 48 (x1).toNat)) dX1_happen_144 rfl L_48 (by decide) e1 (show gi I 48 (x1).toNat = (gi I 48 (x1).toNat) from rfl) ?_
    refine st_callV (pc' := 148) (kc := k - 1) (E' := LAY) (cal := m_X2_set) (n := 3) (as := [vI x1, vI 3, vI (gi I 48 (x1).toNat)]) (S := []) dX1_happen_145 rfl l_X1_120 k_X2_set rfl L_4 c_X2 rfl rfl (Nat.le_of_ble_eq_true rfl) (by omega) ⟨Nat.le_refl _, Nat.le_refl _, Nat.le_refl _, Nat.le_refl _⟩ (Q1 := fun r M' => WP k LAY m_X1_happen 148 [(0, vR (some 42)), (1, vI x1), (2, vI x2)] (r.toList ++ []) M' Q) (WPm.of k_X2_set.1 (Nat.le_of_ble_eq_true rfl) (B_X2_set_0 (by omega) ?_)) (fun r M' q => q)
    obtain ⟨e3, h⟩ := h
    refine ⟨e3, ?_⟩
    change WP _ LAY m_X1_happen 148 [(0, vR (some 42)), (1, vI x1), (2, vI x2)] [] (mem (P, some 5, some 22) (si I 19 ((3 + (x1 * 14)) + 3).toNat (gi I 48 (x1).toNat)) J) Q
    refine st_aload_n (pc' := 149) dX1_happen_148 rfl rfl (j := 0) rfl ?_
    refine G_X1_36_42 dX1_happen_149 (pc' := 152) rfl rfl ?_
    refine st_iload_n (pc' := 153) dX1_happen_152 rfl rfl (j := 1) rfl ?_
    refine st_iconst (pc' := 154) dX1_happen_153 rfl ?_
    refine st_aload_n (pc' := 155) dX1_happen_154 rfl rfl (j := 0) rfl ?_
    refine G_X1_30_42 dX1_happen_155 (pc' := 158) rfl rfl ?_
    refine st_iload_n (pc' := 159) dX1_happen_158 rfl rfl (j := 1) rfl ?_
    refine st_iaload (pc' := 160) (v := (gi I 49 (x1).toNat)) dX1_happen_159 rfl L_49 (by decide) e1 (show gi (si I 19 ((3 + (x1 * 14)) + 3).toNat (gi I 48 (x1).toNat)) 49 (x1).toNat = (gi I 49 (x1).toNat) from (gi_cell _ _ _ _ (by decide))) ?_
    refine st_callV (pc' := 163) (kc := k - 1) (E' := LAY) (cal := m_X2_set) (n := 3) (as := [vI x1, vI 4, vI (gi I 49 (x1).toNat)]) (S := []) dX1_happen_160 rfl l_X1_120 k_X2_set rfl L_4 c_X2 rfl rfl (Nat.le_of_ble_eq_true rfl) (by omega) ⟨Nat.le_refl _, Nat.le_refl _, Nat.le_refl _, Nat.le_refl _⟩ (Q1 := fun r M' => WP k LAY m_X1_happen 163 [(0, vR (some 42)), (1, vI x1), (2, vI x2)] (r.toList ++ []) M' Q) (WPm.of k_X2_set.1 (Nat.le_of_ble_eq_true rfl) (B_X2_set_0 (by omega) ?_)) (fun r M' q => q)
    obtain ⟨e4, h⟩ := h
    refine ⟨e4, ?_⟩
    change WP _ LAY m_X1_happen 163 [(0, vR (some 42)), (1, vI x1), (2, vI x2)] [] (mem (P, some 5, some 22) (si (si I 19 ((3 + (x1 * 14)) + 3).toNat (gi I 48 (x1).toNat)) 19 ((3 + (x1 * 14)) + 4).toNat (gi I 49 (x1).toNat)) J) Q
    refine st_iinc (pc' := 166) (L' := [(1, vI (x1 + 1)), (0, vR (some 42)), (2, vI x2)]) (j := 1) dX1_happen_163 rfl (by decide) rfl rfl ?_
    refine st_goto (pc' := 44) dX1_happen_166 (by decide) ?_
    refine WP_sub (L' := [(0, vR (some 42)), (1, vI (x1 + 1))]) [1, 0] rfl ?_
    exact h
  · replace h := h.2 c
    refine st_aload_n (pc' := 98) dX1_happen_97 rfl rfl (j := 0) rfl ?_
    refine G_X1_33_42 dX1_happen_98 (pc' := 101) rfl rfl ?_
    refine st_iload_n (pc' := 102) dX1_happen_101 rfl rfl (j := 1) rfl ?_
    refine st_bipush (pc' := 104) dX1_happen_102 rfl (by decide) ?_
    refine st_imul (pc' := 105) dX1_happen_104 rfl ?_
    refine st_iload_n (pc' := 106) dX1_happen_105 rfl rfl (j := 2) rfl ?_
    refine st_iadd (pc' := 107) dX1_happen_106 rfl ?_
    obtain ⟨e5, h⟩ := h
    refine st_iaload (pc' := 108) (v := (gi I 50 ((x1 * 8) + x2).toNat)) dX1_happen_107 rfl L_50 (by decide) e5 (show gi I 50 ((x1 * 8) + x2).toNat = (gi I 50 ((x1 * 8) + x2).toNat) from rfl) ?_
    refine st_istore_n (pc' := 109) (L' := [(3, vI (gi I 50 ((x1 * 8) + x2).toNat)), (0, vR (some 42)), (1, vI x1), (2, vI x2)]) dX1_happen_108 rfl rfl (by decide) rfl ?_
    refine st_aload_n (pc' := 110) dX1_happen_109 rfl rfl (j := 1) rfl ?_
    refine G_X1_36_42 dX1_happen_110 (pc' := 113) rfl rfl ?_
    refine st_iload_n (pc' := 114) dX1_happen_113 rfl rfl (j := 2) rfl ?_
    refine st_iload_n (pc' := 115) dX1_happen_114 rfl rfl (j := 0) rfl ?_
    refine st_callV (pc' := 118) (kc := k - 1) (E' := LAY) (cal := m_X2_strike) (n := 2) (as := [vI x1, vI (gi I 50 ((x1 * 8) + x2).toNat)]) (S := []) dX1_happen_115 rfl l_X1_124 k_X2_strike rfl L_4 c_X2 rfl rfl (Nat.le_of_ble_eq_true rfl) (by omega) ⟨Nat.le_refl _, Nat.le_refl _, Nat.le_refl _, Nat.le_refl _⟩ h (fun r M' q => ?_)
    obtain ⟨I7, J8, rfl, rfl, h⟩ := q
    change WP _ LAY m_X1_happen 118 [(3, vI (gi I 50 ((x1 * 8) + x2).toNat)), (0, vR (some 42)), (1, vI x1), (2, vI x2)] [] (mem (P, some 5, some 22) I7 J8) Q
    refine st_aload_n (pc' := 119) dX1_happen_118 rfl rfl (j := 1) rfl ?_
    refine G_X1_36_42 dX1_happen_119 (pc' := 122) rfl rfl ?_
    refine st_iload_n (pc' := 123) dX1_happen_122 rfl rfl (j := 2) rfl ?_
    refine st_iload_n (pc' := 124) dX1_happen_123 rfl rfl (j := 0) rfl ?_
    refine st_callV (pc' := 127) (kc := k - 1) (E' := LAY) (cal := m_X2_keep) (n := 2) (as := [vI x1, vI (gi I 50 ((x1 * 8) + x2).toNat)]) (S := []) dX1_happen_124 rfl l_X1_127 k_X2_keep rfl L_4 c_X2 rfl rfl (Nat.le_of_ble_eq_true rfl) (by omega) ⟨Nat.le_refl _, Nat.le_refl _, Nat.le_refl _, Nat.le_refl _⟩ (Q1 := fun r M' => WP k LAY m_X1_happen 127 [(3, vI (gi I 50 ((x1 * 8) + x2).toNat)), (0, vR (some 42)), (1, vI x1), (2, vI x2)] (r.toList ++ []) M' Q) (WPm.of k_X2_keep.1 (Nat.le_of_ble_eq_true rfl) (B_X2_keep_0 (by omega) ?_)) (fun r M' q => q)
    refine ⟨fun c => ?_, fun c => ?_⟩
    · replace h := h.1 c
      change WP _ LAY m_X1_happen 127 [(3, vI (gi I 50 ((x1 * 8) + x2).toNat)), (0, vR (some 42)), (1, vI x1), (2, vI x2)] [] (mem (P, some 5, some 22) I7 J8) Q
      refine st_iinc (pc' := 130) (L' := [(2, vI (x2 + 1)), (3, vI (gi I 50 ((x1 * 8) + x2).toNat)), (0, vR (some 42)), (1, vI x1)]) (j := 3) dX1_happen_127 rfl (by decide) rfl rfl ?_
      refine st_goto (pc' := 87) dX1_happen_130 (by decide) ?_
      refine WP_sub (L' := [(0, vR (some 42)), (1, vI x1), (2, vI (x2 + 1))]) [2, 3, 0] rfl ?_
      exact h
    · replace h := h.2 c
      obtain ⟨e9, h⟩ := h
      refine ⟨e9, ?_⟩
      change WP _ LAY m_X1_happen 127 [(3, vI (gi I 50 ((x1 * 8) + x2).toNat)), (0, vR (some 42)), (1, vI x1), (2, vI x2)] [] (mem (P, some 5, some 22) (si (si I7 20 (gi I7 19 2).toNat (or32 (or32 (shl32 (gi I7 19 0) 7) (shl32 x1 4)) (gi I 50 ((x1 * 8) + x2).toNat))) 19 2 ((gi I7 19 2) + 1)) J8) Q
      refine st_iinc (pc' := 130) (L' := [(2, vI (x2 + 1)), (3, vI (gi I 50 ((x1 * 8) + x2).toNat)), (0, vR (some 42)), (1, vI x1)]) (j := 3) dX1_happen_127 rfl (by decide) rfl rfl ?_
      refine st_goto (pc' := 87) dX1_happen_130 (by decide) ?_
      refine WP_sub (L' := [(0, vR (some 42)), (1, vI x1), (2, vI (x2 + 1))]) [2, 3, 0] rfl ?_
      exact h
set_option maxRecDepth 20000 in
set_option maxHeartbeats 4000000 in
theorem B_X1_allRead_0 {k : Nat} {P : Option Nat} {I : Nat → Nat → Int32} {J : Nat → Nat → Int64}  {Q : Option AV → Mem → Prop} (hk : 0 ≤ k) (h : WP k LAY m_X1_allRead 4 [(0, vR (some 42)), (1, vI 0), (2, vI 0)] [] (mem (P, some 5, some 22) I J) Q) : WP k LAY m_X1_allRead 0 [(0, vR (some 42))] [] (mem (P, some 5, some 22) I J) Q := by
  refine st_iconst (pc' := 1) dX1_allRead_0 rfl ?_
  refine st_istore_n (pc' := 2) (L' := [(1, vI 0), (0, vR (some 42))]) dX1_allRead_1 rfl rfl (by decide) rfl ?_
  refine st_iconst (pc' := 3) dX1_allRead_2 rfl ?_
  refine st_istore_n (pc' := 4) (L' := [(2, vI 0), (1, vI 0), (0, vR (some 42))]) dX1_allRead_3 rfl rfl (by decide) rfl ?_
  refine WP_sub (L' := [(0, vR (some 42)), (1, vI 0), (2, vI 0)]) [2, 1, 0] rfl ?_
  exact h
set_option maxRecDepth 20000 in
set_option maxHeartbeats 4000000 in
theorem B_X1_allRead_4 {k : Nat} {P : Option Nat} {I : Nat → Nat → Int32} {J : Nat → Nat → Int64} {x1 : Int} {x2 : Int} {Q : Option AV → Mem → Prop} (hk : 0 ≤ k) (h : inR x2 ∧ (((gi I 6 2) ≤ x2 → (Q (some (vI x1)) (mem (P, some 5, some 22) I J))) ∧ (¬ (gi I 6 2) ≤ x2 → ((0 ≤ x2 ∧ x2 < 6) ∧ (WP k LAY m_X1_allRead 4 [(0, vR (some 42)), (1, vI (x1 + (gi I 45 (x2).toNat))), (2, vI (x2 + 1))] [] (mem (P, some 5, some 22) I J) Q))))) : WP k LAY m_X1_allRead 4 [(0, vR (some 42)), (1, vI x1), (2, vI x2)] [] (mem (P, some 5, some 22) I J) Q := by
  refine st_iload_n (pc' := 5) dX1_allRead_4 rfl rfl (j := 2) rfl ?_
  refine st_aload_n (pc' := 6) dX1_allRead_5 rfl rfl (j := 0) rfl ?_
  refine G_X1_36_42 dX1_allRead_6 (pc' := 9) rfl rfl ?_
  refine G_X1_48_4 dX1_allRead_9 (pc' := 12) rfl rfl ?_
  refine G_X1_54_5 dX1_allRead_12 (pc' := 15) rfl rfl ?_
  refine st_iconst (pc' := 16) dX1_allRead_15 rfl ?_
  refine st_iaload (pc' := 17) (v := (gi I 6 2)) dX1_allRead_16 rfl L_6 (by decide) (by decide) (show gi I 6 2 = (gi I 6 2) from rfl) ?_
  obtain ⟨e1, h⟩ := h
  refine st_icmp_ge (tg := 35) (pc' := 20) dX1_allRead_17 (by decide) rfl e1 (gi_in _ _ _) (fun c => ?_) (fun c => ?_)
  · replace h := h.1 c
    refine st_iload_n (pc' := 36) dX1_allRead_35 rfl rfl (j := 1) rfl ?_
    exact st_iret (ty := .int) dX1_allRead_36 rfl rfl rfl h
  · replace h := h.2 c
    refine st_iload_n (pc' := 21) dX1_allRead_20 rfl rfl (j := 1) rfl ?_
    refine st_aload_n (pc' := 22) dX1_allRead_21 rfl rfl (j := 0) rfl ?_
    refine G_X1_18_42 dX1_allRead_22 (pc' := 25) rfl rfl ?_
    refine st_iload_n (pc' := 26) dX1_allRead_25 rfl rfl (j := 2) rfl ?_
    obtain ⟨e2, h⟩ := h
    refine st_iaload (pc' := 27) (v := (gi I 45 (x2).toNat)) dX1_allRead_26 rfl L_45 (by decide) e2 (show gi I 45 (x2).toNat = (gi I 45 (x2).toNat) from rfl) ?_
    refine st_iadd (pc' := 28) dX1_allRead_27 rfl ?_
    refine st_istore_n (pc' := 29) (L' := [(1, vI (x1 + (gi I 45 (x2).toNat))), (0, vR (some 42)), (2, vI x2)]) dX1_allRead_28 rfl rfl (by decide) rfl ?_
    refine st_iinc (pc' := 32) (L' := [(2, vI (x2 + 1)), (1, vI (x1 + (gi I 45 (x2).toNat))), (0, vR (some 42))]) (j := 2) dX1_allRead_29 rfl (by decide) rfl rfl ?_
    refine st_goto (pc' := 4) dX1_allRead_32 (by decide) ?_
    refine WP_sub (L' := [(0, vR (some 42)), (1, vI (x1 + (gi I 45 (x2).toNat))), (2, vI (x2 + 1))]) [2, 1, 0] rfl ?_
    exact h
set_option maxRecDepth 20000 in
set_option maxHeartbeats 4000000 in
theorem B_X1_allLight_0 {k : Nat} {P : Option Nat} {I : Nat → Nat → Int32} {J : Nat → Nat → Int64}  {Q : Option AV → Mem → Prop} (hk : 0 ≤ k) (h : WP k LAY m_X1_allLight 4 [(0, vR (some 42)), (1, vI 0), (2, vI 0)] [] (mem (P, some 5, some 22) I J) Q) : WP k LAY m_X1_allLight 0 [(0, vR (some 42))] [] (mem (P, some 5, some 22) I J) Q := by
  refine st_iconst (pc' := 1) dX1_allLight_0 rfl ?_
  refine st_istore_n (pc' := 2) (L' := [(1, vI 0), (0, vR (some 42))]) dX1_allLight_1 rfl rfl (by decide) rfl ?_
  refine st_iconst (pc' := 3) dX1_allLight_2 rfl ?_
  refine st_istore_n (pc' := 4) (L' := [(2, vI 0), (1, vI 0), (0, vR (some 42))]) dX1_allLight_3 rfl rfl (by decide) rfl ?_
  refine WP_sub (L' := [(0, vR (some 42)), (1, vI 0), (2, vI 0)]) [2, 1, 0] rfl ?_
  exact h
set_option maxRecDepth 20000 in
set_option maxHeartbeats 4000000 in
theorem B_X1_allLight_4 {k : Nat} {P : Option Nat} {I : Nat → Nat → Int32} {J : Nat → Nat → Int64} {x1 : Int} {x2 : Int} {Q : Option AV → Mem → Prop} (hk : 0 ≤ k) (h : inR x2 ∧ (((gi I 6 3) ≤ x2 → (Q (some (vI x1)) (mem (P, some 5, some 22) I J))) ∧ (¬ (gi I 6 3) ≤ x2 → ((0 ≤ x2 ∧ x2 < 5) ∧ (WP k LAY m_X1_allLight 4 [(0, vR (some 42)), (1, vI (x1 + (gi I 43 (x2).toNat))), (2, vI (x2 + 1))] [] (mem (P, some 5, some 22) I J) Q))))) : WP k LAY m_X1_allLight 4 [(0, vR (some 42)), (1, vI x1), (2, vI x2)] [] (mem (P, some 5, some 22) I J) Q := by
  refine st_iload_n (pc' := 5) dX1_allLight_4 rfl rfl (j := 2) rfl ?_
  refine st_aload_n (pc' := 6) dX1_allLight_5 rfl rfl (j := 0) rfl ?_
  refine G_X1_36_42 dX1_allLight_6 (pc' := 9) rfl rfl ?_
  refine G_X1_48_4 dX1_allLight_9 (pc' := 12) rfl rfl ?_
  refine G_X1_54_5 dX1_allLight_12 (pc' := 15) rfl rfl ?_
  refine st_iconst (pc' := 16) dX1_allLight_15 rfl ?_
  refine st_iaload (pc' := 17) (v := (gi I 6 3)) dX1_allLight_16 rfl L_6 (by decide) (by decide) (show gi I 6 3 = (gi I 6 3) from rfl) ?_
  obtain ⟨e1, h⟩ := h
  refine st_icmp_ge (tg := 35) (pc' := 20) dX1_allLight_17 (by decide) rfl e1 (gi_in _ _ _) (fun c => ?_) (fun c => ?_)
  · replace h := h.1 c
    refine st_iload_n (pc' := 36) dX1_allLight_35 rfl rfl (j := 1) rfl ?_
    exact st_iret (ty := .int) dX1_allLight_36 rfl rfl rfl h
  · replace h := h.2 c
    refine st_iload_n (pc' := 21) dX1_allLight_20 rfl rfl (j := 1) rfl ?_
    refine st_aload_n (pc' := 22) dX1_allLight_21 rfl rfl (j := 0) rfl ?_
    refine G_X1_9_42 dX1_allLight_22 (pc' := 25) rfl rfl ?_
    refine st_iload_n (pc' := 26) dX1_allLight_25 rfl rfl (j := 2) rfl ?_
    obtain ⟨e2, h⟩ := h
    refine st_iaload (pc' := 27) (v := (gi I 43 (x2).toNat)) dX1_allLight_26 rfl L_43 (by decide) e2 (show gi I 43 (x2).toNat = (gi I 43 (x2).toNat) from rfl) ?_
    refine st_iadd (pc' := 28) dX1_allLight_27 rfl ?_
    refine st_istore_n (pc' := 29) (L' := [(1, vI (x1 + (gi I 43 (x2).toNat))), (0, vR (some 42)), (2, vI x2)]) dX1_allLight_28 rfl rfl (by decide) rfl ?_
    refine st_iinc (pc' := 32) (L' := [(2, vI (x2 + 1)), (1, vI (x1 + (gi I 43 (x2).toNat))), (0, vR (some 42))]) (j := 2) dX1_allLight_29 rfl (by decide) rfl rfl ?_
    refine st_goto (pc' := 4) dX1_allLight_32 (by decide) ?_
    refine WP_sub (L' := [(0, vR (some 42)), (1, vI (x1 + (gi I 43 (x2).toNat))), (2, vI (x2 + 1))]) [2, 1, 0] rfl ?_
    exact h
set_option maxRecDepth 20000 in
set_option maxHeartbeats 4000000 in
theorem B_X1_idle_0 {k : Nat} {P : Option Nat} {I : Nat → Nat → Int32} {J : Nat → Nat → Int64}  {Q : Option AV → Mem → Prop} (hk : 0 ≤ k) (h : WP k LAY m_X1_idle 4 [(0, vR (some 42)), (1, vI 0), (2, vI 0)] [] (mem (P, some 5, some 22) I J) Q) : WP k LAY m_X1_idle 0 [(0, vR (some 42))] [] (mem (P, some 5, some 22) I J) Q := by
  refine st_iconst (pc' := 1) dX1_idle_0 rfl ?_
  refine st_istore_n (pc' := 2) (L' := [(1, vI 0), (0, vR (some 42))]) dX1_idle_1 rfl rfl (by decide) rfl ?_
  refine st_iconst (pc' := 3) dX1_idle_2 rfl ?_
  refine st_istore_n (pc' := 4) (L' := [(2, vI 0), (1, vI 0), (0, vR (some 42))]) dX1_idle_3 rfl rfl (by decide) rfl ?_
  refine WP_sub (L' := [(0, vR (some 42)), (1, vI 0), (2, vI 0)]) [2, 1, 0] rfl ?_
  exact h
set_option maxRecDepth 20000 in
set_option maxHeartbeats 4000000 in
theorem B_X1_idle_4 {k : Nat} {P : Option Nat} {I : Nat → Nat → Int32} {J : Nat → Nat → Int64} {x1 : Int} {x2 : Int} {Q : Option AV → Mem → Prop} (hk : 0 ≤ k) (h : inR x2 ∧ (((gi I 6 2) ≤ x2 → (Q (some (vI x1)) (mem (P, some 5, some 22) I J))) ∧ (¬ (gi I 6 2) ≤ x2 → ((0 ≤ x2 ∧ x2 < 6) ∧ ((¬ (gi I 45 (x2).toNat) = 0 → (WP k LAY m_X1_idle 4 [(0, vR (some 42)), (1, vI x1), (2, vI (x2 + 1))] [] (mem (P, some 5, some 22) I J) Q)) ∧ ((gi I 45 (x2).toNat) = 0 → (WP k LAY m_X1_idle 4 [(0, vR (some 42)), (1, vI (x1 + 1)), (2, vI (x2 + 1))] [] (mem (P, some 5, some 22) I J) Q))))))) : WP k LAY m_X1_idle 4 [(0, vR (some 42)), (1, vI x1), (2, vI x2)] [] (mem (P, some 5, some 22) I J) Q := by
  refine st_iload_n (pc' := 5) dX1_idle_4 rfl rfl (j := 2) rfl ?_
  refine st_aload_n (pc' := 6) dX1_idle_5 rfl rfl (j := 0) rfl ?_
  refine G_X1_36_42 dX1_idle_6 (pc' := 9) rfl rfl ?_
  refine G_X1_48_4 dX1_idle_9 (pc' := 12) rfl rfl ?_
  refine G_X1_54_5 dX1_idle_12 (pc' := 15) rfl rfl ?_
  refine st_iconst (pc' := 16) dX1_idle_15 rfl ?_
  refine st_iaload (pc' := 17) (v := (gi I 6 2)) dX1_idle_16 rfl L_6 (by decide) (by decide) (show gi I 6 2 = (gi I 6 2) from rfl) ?_
  obtain ⟨e1, h⟩ := h
  refine st_icmp_ge (tg := 38) (pc' := 20) dX1_idle_17 (by decide) rfl e1 (gi_in _ _ _) (fun c => ?_) (fun c => ?_)
  · replace h := h.1 c
    refine st_iload_n (pc' := 39) dX1_idle_38 rfl rfl (j := 1) rfl ?_
    exact st_iret (ty := .int) dX1_idle_39 rfl rfl rfl h
  · replace h := h.2 c
    refine st_aload_n (pc' := 21) dX1_idle_20 rfl rfl (j := 0) rfl ?_
    refine G_X1_18_42 dX1_idle_21 (pc' := 24) rfl rfl ?_
    refine st_iload_n (pc' := 25) dX1_idle_24 rfl rfl (j := 2) rfl ?_
    obtain ⟨e2, h⟩ := h
    refine st_iaload (pc' := 26) (v := (gi I 45 (x2).toNat)) dX1_idle_25 rfl L_45 (by decide) e2 (show gi I 45 (x2).toNat = (gi I 45 (x2).toNat) from rfl) ?_
    refine st_if_ne (tg := 32) (pc' := 29) dX1_idle_26 (by decide) rfl (gi_in _ _ _) (fun c => ?_) (fun c => ?_)
    · replace h := h.1 c
      refine st_iinc (pc' := 35) (L' := [(2, vI (x2 + 1)), (0, vR (some 42)), (1, vI x1)]) (j := 2) dX1_idle_32 rfl (by decide) rfl rfl ?_
      refine st_goto (pc' := 4) dX1_idle_35 (by decide) ?_
      refine WP_sub (L' := [(0, vR (some 42)), (1, vI x1), (2, vI (x2 + 1))]) [1, 2, 0] rfl ?_
      exact h
    · replace h := h.2 c
      refine st_iinc (pc' := 32) (L' := [(1, vI (x1 + 1)), (0, vR (some 42)), (2, vI x2)]) (j := 1) dX1_idle_29 rfl (by decide) rfl rfl ?_
      refine st_iinc (pc' := 35) (L' := [(2, vI (x2 + 1)), (1, vI (x1 + 1)), (0, vR (some 42))]) (j := 2) dX1_idle_32 rfl (by decide) rfl rfl ?_
      refine st_goto (pc' := 4) dX1_idle_35 (by decide) ?_
      refine WP_sub (L' := [(0, vR (some 42)), (1, vI (x1 + 1)), (2, vI (x2 + 1))]) [2, 1, 0] rfl ?_
      exact h
end WX1

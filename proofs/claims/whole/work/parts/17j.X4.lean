section WX4
set_option maxRecDepth 20000 in
set_option maxHeartbeats 4000000 in
theorem B_X4_put_0 {k : Nat} {P : Option Nat} {I : Nat → Nat → Int32} {J : Nat → Nat → Int64} {x1 : Int} {Q : Option AV → Mem → Prop} (hk : 0 ≤ k) (h : (107 ≤ (gi I 70 2) → (Q none (mem (P, some 5, some 22) I J))) ∧ (¬ 107 ≤ (gi I 70 2) → ((0 ≤ (gi I 70 2) ∧ (gi I 70 2) < 107) ∧ (Q none (mem (P, some 5, some 22) (si (si I 71 (gi I 70 2).toNat x1) 70 2 ((gi I 70 2) + 1)) J))))) : WP k LAY m_X4_put 0 [(0, vR (some 70)), (1, vI x1)] [] (mem (P, some 5, some 22) I J) Q := by
  refine st_aload_n (pc' := 1) dX4_put_0 rfl rfl (j := 0) rfl ?_
  refine G_X4_18_70 dX4_put_1 (pc' := 4) rfl rfl ?_
  refine st_bipush (pc' := 6) dX4_put_4 rfl (by decide) ?_
  refine st_icmp_ge (tg := 29) (pc' := 9) dX4_put_6 (by decide) rfl (gi_in _ _ _) (by decide) (fun c => ?_) (fun c => ?_)
  · replace h := h.1 c
    exact st_vret dX4_put_29 rfl rfl h
  · replace h := h.2 c
    refine st_aload_n (pc' := 10) dX4_put_9 rfl rfl (j := 0) rfl ?_
    refine G_X4_9_70 dX4_put_10 (pc' := 13) rfl rfl ?_
    refine st_aload_n (pc' := 14) dX4_put_13 rfl rfl (j := 0) rfl ?_
    refine G_X4_18_70 dX4_put_14 (pc' := 17) rfl rfl ?_
    refine st_iload_n (pc' := 18) dX4_put_17 rfl rfl (j := 1) rfl ?_
    obtain ⟨e1, h⟩ := h
    refine st_iastore (pc' := 19) (M' := (mem (P, some 5, some 22) (si I 71 (gi I 70 2).toNat x1) J)) dX4_put_18 rfl L_71 (by decide) e1 rfl ?_
    refine st_aload_n (pc' := 20) dX4_put_19 rfl rfl (j := 0) rfl ?_
    refine st_dup (pc' := 21) dX4_put_20 rfl rfl ?_
    refine G_X4_18_70 dX4_put_21 (pc' := 24) rfl rfl ?_
    rw [show gi (si I 71 (gi I 70 2).toNat x1) 70 2 = (gi I 70 2) from (gi_cell _ _ _ _ (by decide))]
    refine st_iconst (pc' := 25) dX4_put_24 rfl ?_
    refine st_iadd (pc' := 26) dX4_put_25 rfl ?_
    refine P_X4_18_70 dX4_put_26 (pc' := 29) rfl rfl ?_
    exact st_vret dX4_put_29 rfl rfl h
set_option maxRecDepth 20000 in
set_option maxHeartbeats 4000000 in
theorem B_X4_putTwo_0 {k : Nat} {P : Option Nat} {I : Nat → Nat → Int32} {J : Nat → Nat → Int64} {x1 : Int} {Q : Option AV → Mem → Prop} (hk : 1 ≤ k) (h : (107 ≤ (gi I 70 2) → ((107 ≤ (gi I 70 2) → (Q none (mem (P, some 5, some 22) I J))) ∧ (¬ 107 ≤ (gi I 70 2) → ((0 ≤ (gi I 70 2) ∧ (gi I 70 2) < 107) ∧ (Q none (mem (P, some 5, some 22) (si (si I 71 (gi I 70 2).toNat (and32 x1 255)) 70 2 ((gi I 70 2) + 1)) J)))))) ∧ (¬ 107 ≤ (gi I 70 2) → ((0 ≤ (gi I 70 2) ∧ (gi I 70 2) < 107) ∧ ((107 ≤ (gi (si (si I 71 (gi I 70 2).toNat (shr32 x1 8)) 70 2 ((gi I 70 2) + 1)) 70 2) → (Q none (mem (P, some 5, some 22) (si (si I 71 (gi I 70 2).toNat (shr32 x1 8)) 70 2 ((gi I 70 2) + 1)) J))) ∧ (¬ 107 ≤ (gi (si (si I 71 (gi I 70 2).toNat (shr32 x1 8)) 70 2 ((gi I 70 2) + 1)) 70 2) → ((0 ≤ (gi (si (si I 71 (gi I 70 2).toNat (shr32 x1 8)) 70 2 ((gi I 70 2) + 1)) 70 2) ∧ (gi (si (si I 71 (gi I 70 2).toNat (shr32 x1 8)) 70 2 ((gi I 70 2) + 1)) 70 2) < 107) ∧ (Q none (mem (P, some 5, some 22) (si (si (si (si I 71 (gi I 70 2).toNat (shr32 x1 8)) 70 2 ((gi I 70 2) + 1)) 71 (gi (si (si I 71 (gi I 70 2).toNat (shr32 x1 8)) 70 2 ((gi I 70 2) + 1)) 70 2).toNat (and32 x1 255)) 70 2 ((gi (si (si I 71 (gi I 70 2).toNat (shr32 x1 8)) 70 2 ((gi I 70 2) + 1)) 70 2) + 1)) J)))))))) : WP k LAY m_X4_putTwo 0 [(0, vR (some 70)), (1, vI x1)] [] (mem (P, some 5, some 22) I J) Q := by
  refine st_aload_n (pc' := 1) dX4_putTwo_0 rfl rfl (j := 0) rfl ?_
  refine st_iload_n (pc' := 2) dX4_putTwo_1 rfl rfl (j := 1) rfl ?_
  refine st_bipush (pc' := 4) dX4_putTwo_2 rfl (by decide) ?_
  refine st_ishr (pc' := 5) (z := (shr32 x1 8)) dX4_putTwo_4 rfl rfl ?_
  refine st_callV (pc' := 8) (kc := k - 1) (E' := LAY) (cal := m_X4_put) (n := 1) (as := [vI (shr32 x1 8)]) (S := []) dX4_putTwo_5 rfl l_X4_42 k_X4_put rfl L_70 c_X4 rfl rfl (Nat.le_of_ble_eq_true rfl) (by omega) ⟨Nat.le_refl _, Nat.le_refl _, Nat.le_refl _, Nat.le_refl _⟩ (Q1 := fun r M' => WP k LAY m_X4_putTwo 8 [(0, vR (some 70)), (1, vI x1)] (r.toList ++ []) M' Q) (WPm.of k_X4_put.1 (Nat.le_of_ble_eq_true rfl) (B_X4_put_0 (by omega) ?_)) (fun r M' q => q)
  refine ⟨fun c => ?_, fun c => ?_⟩
  · replace h := h.1 c
    change WP _ LAY m_X4_putTwo 8 [(0, vR (some 70)), (1, vI x1)] [] (mem (P, some 5, some 22) I J) Q
    refine st_aload_n (pc' := 9) dX4_putTwo_8 rfl rfl (j := 0) rfl ?_
    refine st_iload_n (pc' := 10) dX4_putTwo_9 rfl rfl (j := 1) rfl ?_
    refine st_sipush (pc' := 13) dX4_putTwo_10 rfl (by decide) ?_
    refine st_iand (pc' := 14) (z := (and32 x1 255)) dX4_putTwo_13 rfl rfl ?_
    refine st_callV (pc' := 17) (kc := k - 1) (E' := LAY) (cal := m_X4_put) (n := 1) (as := [vI (and32 x1 255)]) (S := []) dX4_putTwo_14 rfl l_X4_42 k_X4_put rfl L_70 c_X4 rfl rfl (Nat.le_of_ble_eq_true rfl) (by omega) ⟨Nat.le_refl _, Nat.le_refl _, Nat.le_refl _, Nat.le_refl _⟩ (Q1 := fun r M' => WP k LAY m_X4_putTwo 17 [(0, vR (some 70)), (1, vI x1)] (r.toList ++ []) M' Q) (WPm.of k_X4_put.1 (Nat.le_of_ble_eq_true rfl) (B_X4_put_0 (by omega) ?_)) (fun r M' q => q)
    refine ⟨fun c => ?_, fun c => ?_⟩
    · replace h := h.1 c
      change WP _ LAY m_X4_putTwo 17 [(0, vR (some 70)), (1, vI x1)] [] (mem (P, some 5, some 22) I J) Q
      exact st_vret dX4_putTwo_17 rfl rfl h
    · replace h := h.2 c
      obtain ⟨e1, h⟩ := h
      refine ⟨e1, ?_⟩
      change WP _ LAY m_X4_putTwo 17 [(0, vR (some 70)), (1, vI x1)] [] (mem (P, some 5, some 22) (si (si I 71 (gi I 70 2).toNat (and32 x1 255)) 70 2 ((gi I 70 2) + 1)) J) Q
      exact st_vret dX4_putTwo_17 rfl rfl h
  · replace h := h.2 c
    obtain ⟨e2, h⟩ := h
    refine ⟨e2, ?_⟩
    change WP _ LAY m_X4_putTwo 8 [(0, vR (some 70)), (1, vI x1)] [] (mem (P, some 5, some 22) (si (si I 71 (gi I 70 2).toNat (shr32 x1 8)) 70 2 ((gi I 70 2) + 1)) J) Q
    refine st_aload_n (pc' := 9) dX4_putTwo_8 rfl rfl (j := 0) rfl ?_
    refine st_iload_n (pc' := 10) dX4_putTwo_9 rfl rfl (j := 1) rfl ?_
    refine st_sipush (pc' := 13) dX4_putTwo_10 rfl (by decide) ?_
    refine st_iand (pc' := 14) (z := (and32 x1 255)) dX4_putTwo_13 rfl rfl ?_
    refine st_callV (pc' := 17) (kc := k - 1) (E' := LAY) (cal := m_X4_put) (n := 1) (as := [vI (and32 x1 255)]) (S := []) dX4_putTwo_14 rfl l_X4_42 k_X4_put rfl L_70 c_X4 rfl rfl (Nat.le_of_ble_eq_true rfl) (by omega) ⟨Nat.le_refl _, Nat.le_refl _, Nat.le_refl _, Nat.le_refl _⟩ (Q1 := fun r M' => WP k LAY m_X4_putTwo 17 [(0, vR (some 70)), (1, vI x1)] (r.toList ++ []) M' Q) (WPm.of k_X4_put.1 (Nat.le_of_ble_eq_true rfl) (B_X4_put_0 (by omega) ?_)) (fun r M' q => q)
    refine ⟨fun c => ?_, fun c => ?_⟩
    · replace h := h.1 c
      change WP _ LAY m_X4_putTwo 17 [(0, vR (some 70)), (1, vI x1)] [] (mem (P, some 5, some 22) (si (si I 71 (gi I 70 2).toNat (shr32 x1 8)) 70 2 ((gi I 70 2) + 1)) J) Q
      exact st_vret dX4_putTwo_17 rfl rfl h
    · replace h := h.2 c
      obtain ⟨e3, h⟩ := h
      refine ⟨e3, ?_⟩
      change WP _ LAY m_X4_putTwo 17 [(0, vR (some 70)), (1, vI x1)] [] (mem (P, some 5, some 22) (si (si (si (si I 71 (gi I 70 2).toNat (shr32 x1 8)) 70 2 ((gi I 70 2) + 1)) 71 (gi (si (si I 71 (gi I 70 2).toNat (shr32 x1 8)) 70 2 ((gi I 70 2) + 1)) 70 2).toNat (and32 x1 255)) 70 2 ((gi (si (si I 71 (gi I 70 2).toNat (shr32 x1 8)) 70 2 ((gi I 70 2) + 1)) 70 2) + 1)) J) Q
      exact st_vret dX4_putTwo_17 rfl rfl h
set_option maxRecDepth 20000 in
set_option maxHeartbeats 4000000 in
theorem B_X4_write_0 {k : Nat} {P : Option Nat} {I : Nat → Nat → Int32} {J : Nat → Nat → Int64}  {Q : Option AV → Mem → Prop} (hk : 1 ≤ k) (h : WPm (k - 1) LAY m_X4_putTwo [vR (some 70), vI (gi I 19 0)] (mem (P, some 5, some 22) (si I 70 2 0) J) (retV (fun I2 J3 => WPm (k - 1) LAY m_X4_putTwo [vR (some 70), vI (gi I2 19 1)] (mem (P, some 5, some 22) I2 J3) (retV (fun I5 J6 => WP k LAY m_X4_write 27 [(0, vR (some 70)), (1, vR (some 4)), (2, vI 0)] [] (mem (P, some 5, some 22) I5 J6) Q) (P, some 5, some 22))) (P, some 5, some 22))) : WP k LAY m_X4_write 0 [(0, vR (some 70)), (1, vR (some 4))] [] (mem (P, some 5, some 22) I J) Q := by
  refine st_aload_n (pc' := 1) dX4_write_0 rfl rfl (j := 0) rfl ?_
  refine st_iconst (pc' := 2) dX4_write_1 rfl ?_
  refine P_X4_18_70 dX4_write_2 (pc' := 5) rfl rfl ?_
  refine st_aload_n (pc' := 6) dX4_write_5 rfl rfl (j := 0) rfl ?_
  refine st_aload_n (pc' := 7) dX4_write_6 rfl rfl (j := 1) rfl ?_
  refine G_X4_22_4 dX4_write_7 (pc' := 10) rfl rfl ?_
  refine st_iconst (pc' := 11) dX4_write_10 rfl ?_
  refine st_iaload (pc' := 12) (v := (gi I 19 0)) dX4_write_11 rfl L_19 (by decide) (by decide) (show gi (si I 70 2 0) 19 0 = (gi I 19 0) from (gi_cell _ _ _ _ (by decide))) ?_
  refine st_callV (pc' := 15) (kc := k - 1) (E' := LAY) (cal := m_X4_putTwo) (n := 1) (as := [vI (gi I 19 0)]) (S := []) dX4_write_12 rfl l_X4_25 k_X4_putTwo rfl L_70 c_X4 rfl rfl (Nat.le_of_ble_eq_true rfl) (by omega) ⟨Nat.le_refl _, Nat.le_refl _, Nat.le_refl _, Nat.le_refl _⟩ h (fun r M' q => ?_)
  obtain ⟨I2, J3, rfl, rfl, h⟩ := q
  change WP _ LAY m_X4_write 15 [(0, vR (some 70)), (1, vR (some 4))] [] (mem (P, some 5, some 22) I2 J3) Q
  refine st_aload_n (pc' := 16) dX4_write_15 rfl rfl (j := 0) rfl ?_
  refine st_aload_n (pc' := 17) dX4_write_16 rfl rfl (j := 1) rfl ?_
  refine G_X4_22_4 dX4_write_17 (pc' := 20) rfl rfl ?_
  refine st_iconst (pc' := 21) dX4_write_20 rfl ?_
  refine st_iaload (pc' := 22) (v := (gi I2 19 1)) dX4_write_21 rfl L_19 (by decide) (by decide) (show gi I2 19 1 = (gi I2 19 1) from rfl) ?_
  refine st_callV (pc' := 25) (kc := k - 1) (E' := LAY) (cal := m_X4_putTwo) (n := 1) (as := [vI (gi I2 19 1)]) (S := []) dX4_write_22 rfl l_X4_25 k_X4_putTwo rfl L_70 c_X4 rfl rfl (Nat.le_of_ble_eq_true rfl) (by omega) ⟨Nat.le_refl _, Nat.le_refl _, Nat.le_refl _, Nat.le_refl _⟩ h (fun r M' q => ?_)
  obtain ⟨I5, J6, rfl, rfl, h⟩ := q
  change WP _ LAY m_X4_write 25 [(0, vR (some 70)), (1, vR (some 4))] [] (mem (P, some 5, some 22) I5 J6) Q
  refine st_iconst (pc' := 26) dX4_write_25 rfl ?_
  refine st_istore_n (pc' := 27) (L' := [(2, vI 0), (0, vR (some 70)), (1, vR (some 4))]) dX4_write_26 rfl rfl (by decide) rfl ?_
  refine WP_sub (L' := [(0, vR (some 70)), (1, vR (some 4)), (2, vI 0)]) [1, 2, 0] rfl ?_
  exact h
set_option maxRecDepth 20000 in
set_option maxHeartbeats 4000000 in
theorem B_X4_write_27 {k : Nat} {P : Option Nat} {I : Nat → Nat → Int32} {J : Nat → Nat → Int64} {x2 : Int} {Q : Option AV → Mem → Prop} (hk : 1 ≤ k) (h : inR x2 ∧ (((gi I 6 2) ≤ x2 → (WP k LAY m_X4_write 141 [(0, vR (some 70)), (2, vI 83), (3, vI 0)] [] (mem (P, some 5, some 22) I J) Q)) ∧ (¬ (gi I 6 2) ≤ x2 → ((0 ≤ ((3 + (x2 * 14)) + 0) ∧ ((3 + (x2 * 14)) + 0) < 87) ∧ ((107 ≤ (gi I 70 2) → ((0 ≤ ((3 + (x2 * 14)) + 1) ∧ ((3 + (x2 * 14)) + 1) < 87) ∧ (WPm (k - 1) LAY m_X4_putTwo [vR (some 70), vI (gi I 19 ((3 + (x2 * 14)) + 1).toNat)] (mem (P, some 5, some 22) I J) (retV (fun I5 J6 => (0 ≤ ((3 + (x2 * 14)) + 2) ∧ ((3 + (x2 * 14)) + 2) < 87) ∧ (WPm (k - 1) LAY m_X4_putTwo [vR (some 70), vI (gi I5 19 ((3 + (x2 * 14)) + 2).toNat)] (mem (P, some 5, some 22) I5 J6) (retV (fun I9 J10 => (0 ≤ ((3 + (x2 * 14)) + 3) ∧ ((3 + (x2 * 14)) + 3) < 87) ∧ ((107 ≤ (gi I9 70 2) → ((0 ≤ ((3 + (x2 * 14)) + 4) ∧ ((3 + (x2 * 14)) + 4) < 87) ∧ (WPm (k - 1) LAY m_X4_putTwo [vR (some 70), vI (gi I9 19 ((3 + (x2 * 14)) + 4).toNat)] (mem (P, some 5, some 22) I9 J10) (retV (fun I14 J15 => (0 ≤ ((3 + (x2 * 14)) + 5) ∧ ((3 + (x2 * 14)) + 5) < 87) ∧ ((107 ≤ (gi I14 70 2) → (WP k LAY m_X4_write 104 [(0, vR (some 70)), (1, vR (some 4)), (2, vI x2), (3, vI 0)] [] (mem (P, some 5, some 22) I14 J15) Q)) ∧ (¬ 107 ≤ (gi I14 70 2) → ((0 ≤ (gi I14 70 2) ∧ (gi I14 70 2) < 107) ∧ (WP k LAY m_X4_write 104 [(0, vR (some 70)), (1, vR (some 4)), (2, vI x2), (3, vI 0)] [] (mem (P, some 5, some 22) (si (si I14 71 (gi I14 70 2).toNat (gi I14 19 ((3 + (x2 * 14)) + 5).toNat)) 70 2 ((gi I14 70 2) + 1)) J15) Q))))) (P, some 5, some 22))))) ∧ (¬ 107 ≤ (gi I9 70 2) → ((0 ≤ (gi I9 70 2) ∧ (gi I9 70 2) < 107) ∧ ((0 ≤ ((3 + (x2 * 14)) + 4) ∧ ((3 + (x2 * 14)) + 4) < 87) ∧ (WPm (k - 1) LAY m_X4_putTwo [vR (some 70), vI (gi (si (si I9 71 (gi I9 70 2).toNat ((gi I9 19 ((3 + (x2 * 14)) + 3).toNat) + 1)) 70 2 ((gi I9 70 2) + 1)) 19 ((3 + (x2 * 14)) + 4).toNat)] (mem (P, some 5, some 22) (si (si I9 71 (gi I9 70 2).toNat ((gi I9 19 ((3 + (x2 * 14)) + 3).toNat) + 1)) 70 2 ((gi I9 70 2) + 1)) J10) (retV (fun I21 J22 => (0 ≤ ((3 + (x2 * 14)) + 5) ∧ ((3 + (x2 * 14)) + 5) < 87) ∧ ((107 ≤ (gi I21 70 2) → (WP k LAY m_X4_write 104 [(0, vR (some 70)), (1, vR (some 4)), (2, vI x2), (3, vI 0)] [] (mem (P, some 5, some 22) I21 J22) Q)) ∧ (¬ 107 ≤ (gi I21 70 2) → ((0 ≤ (gi I21 70 2) ∧ (gi I21 70 2) < 107) ∧ (WP k LAY m_X4_write 104 [(0, vR (some 70)), (1, vR (some 4)), (2, vI x2), (3, vI 0)] [] (mem (P, some 5, some 22) (si (si I21 71 (gi I21 70 2).toNat (gi I21 19 ((3 + (x2 * 14)) + 5).toNat)) 70 2 ((gi I21 70 2) + 1)) J22) Q))))) (P, some 5, some 22)))))))) (P, some 5, some 22)))) (P, some 5, some 22))))) ∧ (¬ 107 ≤ (gi I 70 2) → ((0 ≤ (gi I 70 2) ∧ (gi I 70 2) < 107) ∧ ((0 ≤ ((3 + (x2 * 14)) + 1) ∧ ((3 + (x2 * 14)) + 1) < 87) ∧ (WPm (k - 1) LAY m_X4_putTwo [vR (some 70), vI (gi (si (si I 71 (gi I 70 2).toNat (gi I 19 ((3 + (x2 * 14)) + 0).toNat)) 70 2 ((gi I 70 2) + 1)) 19 ((3 + (x2 * 14)) + 1).toNat)] (mem (P, some 5, some 22) (si (si I 71 (gi I 70 2).toNat (gi I 19 ((3 + (x2 * 14)) + 0).toNat)) 70 2 ((gi I 70 2) + 1)) J) (retV (fun I28 J29 => (0 ≤ ((3 + (x2 * 14)) + 2) ∧ ((3 + (x2 * 14)) + 2) < 87) ∧ (WPm (k - 1) LAY m_X4_putTwo [vR (some 70), vI (gi I28 19 ((3 + (x2 * 14)) + 2).toNat)] (mem (P, some 5, some 22) I28 J29) (retV (fun I32 J33 => (0 ≤ ((3 + (x2 * 14)) + 3) ∧ ((3 + (x2 * 14)) + 3) < 87) ∧ ((107 ≤ (gi I32 70 2) → ((0 ≤ ((3 + (x2 * 14)) + 4) ∧ ((3 + (x2 * 14)) + 4) < 87) ∧ (WPm (k - 1) LAY m_X4_putTwo [vR (some 70), vI (gi I32 19 ((3 + (x2 * 14)) + 4).toNat)] (mem (P, some 5, some 22) I32 J33) (retV (fun I37 J38 => (0 ≤ ((3 + (x2 * 14)) + 5) ∧ ((3 + (x2 * 14)) + 5) < 87) ∧ ((107 ≤ (gi I37 70 2) → (WP k LAY m_X4_write 104 [(0, vR (some 70)), (1, vR (some 4)), (2, vI x2), (3, vI 0)] [] (mem (P, some 5, some 22) I37 J38) Q)) ∧ (¬ 107 ≤ (gi I37 70 2) → ((0 ≤ (gi I37 70 2) ∧ (gi I37 70 2) < 107) ∧ (WP k LAY m_X4_write 104 [(0, vR (some 70)), (1, vR (some 4)), (2, vI x2), (3, vI 0)] [] (mem (P, some 5, some 22) (si (si I37 71 (gi I37 70 2).toNat (gi I37 19 ((3 + (x2 * 14)) + 5).toNat)) 70 2 ((gi I37 70 2) + 1)) J38) Q))))) (P, some 5, some 22))))) ∧ (¬ 107 ≤ (gi I32 70 2) → ((0 ≤ (gi I32 70 2) ∧ (gi I32 70 2) < 107) ∧ ((0 ≤ ((3 + (x2 * 14)) + 4) ∧ ((3 + (x2 * 14)) + 4) < 87) ∧ (WPm (k - 1) LAY m_X4_putTwo [vR (some 70), vI (gi (si (si I32 71 (gi I32 70 2).toNat ((gi I32 19 ((3 + (x2 * 14)) + 3).toNat) + 1)) 70 2 ((gi I32 70 2) + 1)) 19 ((3 + (x2 * 14)) + 4).toNat)] (mem (P, some 5, some 22) (si (si I32 71 (gi I32 70 2).toNat ((gi I32 19 ((3 + (x2 * 14)) + 3).toNat) + 1)) 70 2 ((gi I32 70 2) + 1)) J33) (retV (fun I44 J45 => (0 ≤ ((3 + (x2 * 14)) + 5) ∧ ((3 + (x2 * 14)) + 5) < 87) ∧ ((107 ≤ (gi I44 70 2) → (WP k LAY m_X4_write 104 [(0, vR (some 70)), (1, vR (some 4)), (2, vI x2), (3, vI 0)] [] (mem (P, some 5, some 22) I44 J45) Q)) ∧ (¬ 107 ≤ (gi I44 70 2) → ((0 ≤ (gi I44 70 2) ∧ (gi I44 70 2) < 107) ∧ (WP k LAY m_X4_write 104 [(0, vR (some 70)), (1, vR (some 4)), (2, vI x2), (3, vI 0)] [] (mem (P, some 5, some 22) (si (si I44 71 (gi I44 70 2).toNat (gi I44 19 ((3 + (x2 * 14)) + 5).toNat)) 70 2 ((gi I44 70 2) + 1)) J45) Q))))) (P, some 5, some 22)))))))) (P, some 5, some 22)))) (P, some 5, some 22))))))))))) : WP k LAY m_X4_write 27 [(0, vR (some 70)), (1, vR (some 4)), (2, vI x2)] [] (mem (P, some 5, some 22) I J) Q := by
  refine st_iload_n (pc' := 28) dX4_write_27 rfl rfl (j := 2) rfl ?_
  refine st_aload_n (pc' := 29) dX4_write_28 rfl rfl (j := 1) rfl ?_
  refine G_X4_29_4 dX4_write_29 (pc' := 32) rfl rfl ?_
  refine G_X4_33_5 dX4_write_32 (pc' := 35) rfl rfl ?_
  refine st_iconst (pc' := 36) dX4_write_35 rfl ?_
  refine st_iaload (pc' := 37) (v := (gi I 6 2)) dX4_write_36 rfl L_6 (by decide) (by decide) (show gi I 6 2 = (gi I 6 2) from rfl) ?_
  obtain ⟨e1, h⟩ := h
  refine st_icmp_ge (tg := 136) (pc' := 40) dX4_write_37 (by decide) rfl e1 (gi_in _ _ _) (fun c => ?_) (fun c => ?_)
  · replace h := h.1 c
    refine st_bipush (pc' := 138) dX4_write_136 rfl (by decide) ?_
    refine st_istore_n (pc' := 139) (L' := [(2, vI 83), (0, vR (some 70)), (1, vR (some 4))]) dX4_write_138 rfl rfl (by decide) rfl ?_
    refine st_iconst (pc' := 140) dX4_write_139 rfl ?_
    refine st_istore_n (pc' := 141) (L' := [(3, vI 0), (2, vI 83), (0, vR (some 70)), (1, vR (some 4))]) dX4_write_140 rfl rfl (by decide) rfl ?_
    refine WP_sub (L' := [(0, vR (some 70)), (2, vI 83), (3, vI 0)]) [2, 1, 0] rfl ?_
    exact h
  · replace h := h.2 c
    refine st_aload_n (pc' := 41) dX4_write_40 rfl rfl (j := 0) rfl ?_
    refine st_aload_n (pc' := 42) dX4_write_41 rfl rfl (j := 1) rfl ?_
    refine st_iload_n (pc' := 43) dX4_write_42 rfl rfl (j := 2) rfl ?_
    refine st_iconst (pc' := 44) dX4_write_43 rfl ?_
    refine st_callV (pc' := 47) (kc := k - 1) (E' := LAY) (cal := m_X2_of) (n := 2) (as := [vI x2, vI 0]) (S := [vR (some 70)]) dX4_write_44 rfl l_X4_38 k_X2_of rfl L_4 c_X2 rfl rfl (Nat.le_of_ble_eq_true rfl) (by omega) ⟨Nat.le_refl _, Nat.le_refl _, Nat.le_refl _, Nat.le_refl _⟩ (Q1 := fun r M' => WP k LAY m_X4_write 47 [(0, vR (some 70)), (1, vR (some 4)), (2, vI x2)] (r.toList ++ [vR (some 70)]) M' Q) (WPm.of k_X2_of.1 (Nat.le_of_ble_eq_true rfl) (B_X2_of_0 (by omega) ?_)) (fun r M' q => q)
    obtain ⟨e2, h⟩ := h
    refine ⟨e2, ?_⟩
    change WP _ LAY m_X4_write 47 [(0, vR (some 70)), (1, vR (some 4)), (2, vI x2)] [vI (gi I 19 ((3 + (x2 * 14)) + 0).toNat), vR (some 70)] (mem (P, some 5, some 22) I J) Q
    refine st_callV (pc' := 50) (kc := k - 1) (E' := LAY) (cal := m_X4_put) (n := 1) (as := [vI (gi I 19 ((3 + (x2 * 14)) + 0).toNat)]) (S := []) dX4_write_47 rfl l_X4_42 k_X4_put rfl L_70 c_X4 rfl rfl (Nat.le_of_ble_eq_true rfl) (by omega) ⟨Nat.le_refl _, Nat.le_refl _, Nat.le_refl _, Nat.le_refl _⟩ (Q1 := fun r M' => WP k LAY m_X4_write 50 [(0, vR (some 70)), (1, vR (some 4)), (2, vI x2)] (r.toList ++ []) M' Q) (WPm.of k_X4_put.1 (Nat.le_of_ble_eq_true rfl) (B_X4_put_0 (by omega) ?_)) (fun r M' q => q)
    refine ⟨fun c => ?_, fun c => ?_⟩
    · replace h := h.1 c
      change WP _ LAY m_X4_write 50 [(0, vR (some 70)), (1, vR (some 4)), (2, vI x2)] [] (mem (P, some 5, some 22) I J) Q
      refine st_aload_n (pc' := 51) dX4_write_50 rfl rfl (j := 0) rfl ?_
      refine st_aload_n (pc' := 52) dX4_write_51 rfl rfl (j := 1) rfl ?_
      refine st_iload_n (pc' := 53) dX4_write_52 rfl rfl (j := 2) rfl ?_
      refine st_iconst (pc' := 54) dX4_write_53 rfl ?_
      refine st_callV (pc' := 57) (kc := k - 1) (E' := LAY) (cal := m_X2_of) (n := 2) (as := [vI x2, vI 1]) (S := [vR (some 70)]) dX4_write_54 rfl l_X4_38 k_X2_of rfl L_4 c_X2 rfl rfl (Nat.le_of_ble_eq_true rfl) (by omega) ⟨Nat.le_refl _, Nat.le_refl _, Nat.le_refl _, Nat.le_refl _⟩ (Q1 := fun r M' => WP k LAY m_X4_write 57 [(0, vR (some 70)), (1, vR (some 4)), (2, vI x2)] (r.toList ++ [vR (some 70)]) M' Q) (WPm.of k_X2_of.1 (Nat.le_of_ble_eq_true rfl) (B_X2_of_0 (by omega) ?_)) (fun r M' q => q)
      obtain ⟨e3, h⟩ := h
      refine ⟨e3, ?_⟩
      change WP _ LAY m_X4_write 57 [(0, vR (some 70)), (1, vR (some 4)), (2, vI x2)] [vI (gi I 19 ((3 + (x2 * 14)) + 1).toNat), vR (some 70)] (mem (P, some 5, some 22) I J) Q
      refine st_callV (pc' := 60) (kc := k - 1) (E' := LAY) (cal := m_X4_putTwo) (n := 1) (as := [vI (gi I 19 ((3 + (x2 * 14)) + 1).toNat)]) (S := []) dX4_write_57 rfl l_X4_25 k_X4_putTwo rfl L_70 c_X4 rfl rfl (Nat.le_of_ble_eq_true rfl) (by omega) ⟨Nat.le_refl _, Nat.le_refl _, Nat.le_refl _, Nat.le_refl _⟩ h (fun r M' q => ?_)
      obtain ⟨I5, J6, rfl, rfl, h⟩ := q
      change WP _ LAY m_X4_write 60 [(0, vR (some 70)), (1, vR (some 4)), (2, vI x2)] [] (mem (P, some 5, some 22) I5 J6) Q
      refine st_aload_n (pc' := 61) dX4_write_60 rfl rfl (j := 0) rfl ?_
      refine st_aload_n (pc' := 62) dX4_write_61 rfl rfl (j := 1) rfl ?_
      refine st_iload_n (pc' := 63) dX4_write_62 rfl rfl (j := 2) rfl ?_
      refine st_iconst (pc' := 64) dX4_write_63 rfl ?_
      refine st_callV (pc' := 67) (kc := k - 1) (E' := LAY) (cal := m_X2_of) (n := 2) (as := [vI x2, vI 2]) (S := [vR (some 70)]) dX4_write_64 rfl l_X4_38 k_X2_of rfl L_4 c_X2 rfl rfl (Nat.le_of_ble_eq_true rfl) (by omega) ⟨Nat.le_refl _, Nat.le_refl _, Nat.le_refl _, Nat.le_refl _⟩ (Q1 := fun r M' => WP k LAY m_X4_write 67 [(0, vR (some 70)), (1, vR (some 4)), (2, vI x2)] (r.toList ++ [vR (some 70)]) M' Q) (WPm.of k_X2_of.1 (Nat.le_of_ble_eq_true rfl) (B_X2_of_0 (by omega) ?_)) (fun r M' q => q)
      obtain ⟨e7, h⟩ := h
      refine ⟨e7, ?_⟩
      change WP _ LAY m_X4_write 67 [(0, vR (some 70)), (1, vR (some 4)), (2, vI x2)] [vI (gi I5 19 ((3 + (x2 * 14)) + 2).toNat), vR (some 70)] (mem (P, some 5, some 22) I5 J6) Q
      refine st_callV (pc' := 70) (kc := k - 1) (E' := LAY) (cal := m_X4_putTwo) (n := 1) (as := [vI (gi I5 19 ((3 + (x2 * 14)) + 2).toNat)]) (S := []) dX4_write_67 rfl l_X4_25 k_X4_putTwo rfl L_70 c_X4 rfl rfl (Nat.le_of_ble_eq_true rfl) (by omega) ⟨Nat.le_refl _, Nat.le_refl _, Nat.le_refl _, Nat.le_refl _⟩ h (fun r M' q => ?_)
      obtain ⟨I9, J10, rfl, rfl, h⟩ := q
      change WP _ LAY m_X4_write 70 [(0, vR (some 70)), (1, vR (some 4)), (2, vI x2)] [] (mem (P, some 5, some 22) I9 J10) Q
      refine st_aload_n (pc' := 71) dX4_write_70 rfl rfl (j := 0) rfl ?_
      refine st_aload_n (pc' := 72) dX4_write_71 rfl rfl (j := 1) rfl ?_
      refine st_iload_n (pc' := 73) dX4_write_72 rfl rfl (j := 2) rfl ?_
      refine st_iconst (pc' := 74) dX4_write_73 rfl ?_
      refine st_callV (pc' := 77) (kc := k - 1) (E' := LAY) (cal := m_X2_of) (n := 2) (as := [vI x2, vI 3]) (S := [vR (some 70)]) dX4_write_74 rfl l_X4_38 k_X2_of rfl L_4 c_X2 rfl rfl (Nat.le_of_ble_eq_true rfl) (by omega) ⟨Nat.le_refl _, Nat.le_refl _, Nat.le_refl _, Nat.le_refl _⟩ (Q1 := fun r M' => WP k LAY m_X4_write 77 [(0, vR (some 70)), (1, vR (some 4)), (2, vI x2)] (r.toList ++ [vR (some 70)]) M' Q) (WPm.of k_X2_of.1 (Nat.le_of_ble_eq_true rfl) (B_X2_of_0 (by omega) ?_)) (fun r M' q => q)
      obtain ⟨e11, h⟩ := h
      refine ⟨e11, ?_⟩
      change WP _ LAY m_X4_write 77 [(0, vR (some 70)), (1, vR (some 4)), (2, vI x2)] [vI (gi I9 19 ((3 + (x2 * 14)) + 3).toNat), vR (some 70)] (mem (P, some 5, some 22) I9 J10) Q
      refine st_iconst (pc' := 78) dX4_write_77 rfl ?_
      refine st_iadd (pc' := 79) dX4_write_78 rfl ?_
      refine st_callV (pc' := 82) (kc := k - 1) (E' := LAY) (cal := m_X4_put) (n := 1) (as := [vI ((gi I9 19 ((3 + (x2 * 14)) + 3).toNat) + 1)]) (S := []) dX4_write_79 rfl l_X4_42 k_X4_put rfl L_70 c_X4 rfl rfl (Nat.le_of_ble_eq_true rfl) (by omega) ⟨Nat.le_refl _, Nat.le_refl _, Nat.le_refl _, Nat.le_refl _⟩ (Q1 := fun r M' => WP k LAY m_X4_write 82 [(0, vR (some 70)), (1, vR (some 4)), (2, vI x2)] (r.toList ++ []) M' Q) (WPm.of k_X4_put.1 (Nat.le_of_ble_eq_true rfl) (B_X4_put_0 (by omega) ?_)) (fun r M' q => q)
      refine ⟨fun c => ?_, fun c => ?_⟩
      · replace h := h.1 c
        change WP _ LAY m_X4_write 82 [(0, vR (some 70)), (1, vR (some 4)), (2, vI x2)] [] (mem (P, some 5, some 22) I9 J10) Q
        refine st_aload_n (pc' := 83) dX4_write_82 rfl rfl (j := 0) rfl ?_
        refine st_aload_n (pc' := 84) dX4_write_83 rfl rfl (j := 1) rfl ?_
        refine st_iload_n (pc' := 85) dX4_write_84 rfl rfl (j := 2) rfl ?_
        refine st_iconst (pc' := 86) dX4_write_85 rfl ?_
        refine st_callV (pc' := 89) (kc := k - 1) (E' := LAY) (cal := m_X2_of) (n := 2) (as := [vI x2, vI 4]) (S := [vR (some 70)]) dX4_write_86 rfl l_X4_38 k_X2_of rfl L_4 c_X2 rfl rfl (Nat.le_of_ble_eq_true rfl) (by omega) ⟨Nat.le_refl _, Nat.le_refl _, Nat.le_refl _, Nat.le_refl _⟩ (Q1 := fun r M' => WP k LAY m_X4_write 89 [(0, vR (some 70)), (1, vR (some 4)), (2, vI x2)] (r.toList ++ [vR (some 70)]) M' Q) (WPm.of k_X2_of.1 (Nat.le_of_ble_eq_true rfl) (B_X2_of_0 (by omega) ?_)) (fun r M' q => q)
        obtain ⟨e12, h⟩ := h
        refine ⟨e12, ?_⟩
        change WP _ LAY m_X4_write 89 [(0, vR (some 70)), (1, vR (some 4)), (2, vI x2)] [vI (gi I9 19 ((3 + (x2 * 14)) + 4).toNat), vR (some 70)] (mem (P, some 5, some 22) I9 J10) Q
        refine st_callV (pc' := 92) (kc := k - 1) (E' := LAY) (cal := m_X4_putTwo) (n := 1) (as := [vI (gi I9 19 ((3 + (x2 * 14)) + 4).toNat)]) (S := []) dX4_write_89 rfl l_X4_25 k_X4_putTwo rfl L_70 c_X4 rfl rfl (Nat.le_of_ble_eq_true rfl) (by omega) ⟨Nat.le_refl _, Nat.le_refl _, Nat.le_refl _, Nat.le_refl _⟩ h (fun r M' q => ?_)
        obtain ⟨I14, J15, rfl, rfl, h⟩ := q
        change WP _ LAY m_X4_write 92 [(0, vR (some 70)), (1, vR (some 4)), (2, vI x2)] [] (mem (P, some 5, some 22) I14 J15) Q
        refine st_aload_n (pc' := 93) dX4_write_92 rfl rfl (j := 0) rfl ?_
        refine st_aload_n (pc' := 94) dX4_write_93 rfl rfl (j := 1) rfl ?_
        refine st_iload_n (pc' := 95) dX4_write_94 rfl rfl (j := 2) rfl ?_
        refine st_iconst (pc' := 96) dX4_write_95 rfl ?_
        refine st_callV (pc' := 99) (kc := k - 1) (E' := LAY) (cal := m_X2_of) (n := 2) (as := [vI x2, vI 5]) (S := [vR (some 70)]) dX4_write_96 rfl l_X4_38 k_X2_of rfl L_4 c_X2 rfl rfl (Nat.le_of_ble_eq_true rfl) (by omega) ⟨Nat.le_refl _, Nat.le_refl _, Nat.le_refl _, Nat.le_refl _⟩ (Q1 := fun r M' => WP k LAY m_X4_write 99 [(0, vR (some 70)), (1, vR (some 4)), (2, vI x2)] (r.toList ++ [vR (some 70)]) M' Q) (WPm.of k_X2_of.1 (Nat.le_of_ble_eq_true rfl) (B_X2_of_0 (by omega) ?_)) (fun r M' q => q)
        obtain ⟨e16, h⟩ := h
        refine ⟨e16, ?_⟩
        change WP _ LAY m_X4_write 99 [(0, vR (some 70)), (1, vR (some 4)), (2, vI x2)] [vI (gi I14 19 ((3 + (x2 * 14)) + 5).toNat), vR (some 70)] (mem (P, some 5, some 22) I14 J15) Q
        refine st_callV (pc' := 102) (kc := k - 1) (E' := LAY) (cal := m_X4_put) (n := 1) (as := [vI (gi I14 19 ((3 + (x2 * 14)) + 5).toNat)]) (S := []) dX4_write_99 rfl l_X4_42 k_X4_put rfl L_70 c_X4 rfl rfl (Nat.le_of_ble_eq_true rfl) (by omega) ⟨Nat.le_refl _, Nat.le_refl _, Nat.le_refl _, Nat.le_refl _⟩ (Q1 := fun r M' => WP k LAY m_X4_write 102 [(0, vR (some 70)), (1, vR (some 4)), (2, vI x2)] (r.toList ++ []) M' Q) (WPm.of k_X4_put.1 (Nat.le_of_ble_eq_true rfl) (B_X4_put_0 (by omega) ?_)) (fun r M' q => q)
        refine ⟨fun c => ?_, fun c => ?_⟩
        · replace h := h.1 c
          change WP _ LAY m_X4_write 102 [(0, vR (some 70)), (1, vR (some 4)), (2, vI x2)] [] (mem (P, some 5, some 22) I14 J15) Q
          refine st_iconst (pc' := 103) dX4_write_102 rfl ?_
          refine st_istore_n (pc' := 104) (L' := [(3, vI 0), (0, vR (some 70)), (1, vR (some 4)), (2, vI x2)]) dX4_write_103 rfl rfl (by decide) rfl ?_
          refine WP_sub (L' := [(0, vR (some 70)), (1, vR (some 4)), (2, vI x2), (3, vI 0)]) [1, 2, 3, 0] rfl ?_
          exact h
        · replace h := h.2 c
          obtain ⟨e17, h⟩ := h
          refine ⟨e17, ?_⟩
          change WP _ LAY m_X4_write 102 [(0, vR (some 70)), (1, vR (some 4)), (2, vI x2)] [] (mem (P, some 5, some 22) (si (si I14 71 (gi I14 70 2).toNat (gi I14 19 ((3 + (x2 * 14)) + 5).toNat)) 70 2 ((gi I14 70 2) + 1)) J15) Q
          refine st_iconst (pc' := 103) dX4_write_102 rfl ?_
          refine st_istore_n (pc' := 104) (L' := [(3, vI 0), (0, vR (some 70)), (1, vR (some 4)), (2, vI x2)]) dX4_write_103 rfl rfl (by decide) rfl ?_
          refine WP_sub (L' := [(0, vR (some 70)), (1, vR (some 4)), (2, vI x2), (3, vI 0)]) [1, 2, 3, 0] rfl ?_
          exact h
      · replace h := h.2 c
        obtain ⟨e18, h⟩ := h
        refine ⟨e18, ?_⟩
        change WP _ LAY m_X4_write 82 [(0, vR (some 70)), (1, vR (some 4)), (2, vI x2)] [] (mem (P, some 5, some 22) (si (si I9 71 (gi I9 70 2).toNat ((gi I9 19 ((3 + (x2 * 14)) + 3).toNat) + 1)) 70 2 ((gi I9 70 2) + 1)) J10) Q
        refine st_aload_n (pc' := 83) dX4_write_82 rfl rfl (j := 0) rfl ?_
        refine st_aload_n (pc' := 84) dX4_write_83 rfl rfl (j := 1) rfl ?_
        refine st_iload_n (pc' := 85) dX4_write_84 rfl rfl (j := 2) rfl ?_
        refine st_iconst (pc' := 86) dX4_write_85 rfl ?_
        refine st_callV (pc' := 89) (kc := k - 1) (E' := LAY) (cal := m_X2_of) (n := 2) (as := [vI x2, vI 4]) (S := [vR (some 70)]) dX4_write_86 rfl l_X4_38 k_X2_of rfl L_4 c_X2 rfl rfl (Nat.le_of_ble_eq_true rfl) (by omega) ⟨Nat.le_refl _, Nat.le_refl _, Nat.le_refl _, Nat.le_refl _⟩ (Q1 := fun r M' => WP k LAY m_X4_write 89 [(0, vR (some 70)), (1, vR (some 4)), (2, vI x2)] (r.toList ++ [vR (some 70)]) M' Q) (WPm.of k_X2_of.1 (Nat.le_of_ble_eq_true rfl) (B_X2_of_0 (by omega) ?_)) (fun r M' q => q)
        obtain ⟨e19, h⟩ := h
        refine ⟨e19, ?_⟩
        change WP _ LAY m_X4_write 89 [(0, vR (some 70)), (1, vR (some 4)), (2, vI x2)] [vI (gi (si (si I9 71 (gi I9 70 2).toNat ((gi I9 19 ((3 + (x2 * 14)) + 3).toNat) + 1)) 70 2 ((gi I9 70 2) + 1)) 19 ((3 + (x2 * 14)) + 4).toNat), vR (some 70)] (mem (P, some 5, some 22) (si (si I9 71 (gi I9 70 2).toNat ((gi I9 19 ((3 + (x2 * 14)) + 3).toNat) + 1)) 70 2 ((gi I9 70 2) + 1)) J10) Q
        refine st_callV (pc' := 92) (kc := k - 1) (E' := LAY) (cal := m_X4_putTwo) (n := 1) (as := [vI (gi (si (si I9 71 (gi I9 70 2).toNat ((gi I9 19 ((3 + (x2 * 14)) + 3).toNat) + 1)) 70 2 ((gi I9 70 2) + 1)) 19 ((3 + (x2 * 14)) + 4).toNat)]) (S := []) dX4_write_89 rfl l_X4_25 k_X4_putTwo rfl L_70 c_X4 rfl rfl (Nat.le_of_ble_eq_true rfl) (by omega) ⟨Nat.le_refl _, Nat.le_refl _, Nat.le_refl _, Nat.le_refl _⟩ h (fun r M' q => ?_)
        obtain ⟨I21, J22, rfl, rfl, h⟩ := q
        change WP _ LAY m_X4_write 92 [(0, vR (some 70)), (1, vR (some 4)), (2, vI x2)] [] (mem (P, some 5, some 22) I21 J22) Q
        refine st_aload_n (pc' := 93) dX4_write_92 rfl rfl (j := 0) rfl ?_
        refine st_aload_n (pc' := 94) dX4_write_93 rfl rfl (j := 1) rfl ?_
        refine st_iload_n (pc' := 95) dX4_write_94 rfl rfl (j := 2) rfl ?_
        refine st_iconst (pc' := 96) dX4_write_95 rfl ?_
        refine st_callV (pc' := 99) (kc := k - 1) (E' := LAY) (cal := m_X2_of) (n := 2) (as := [vI x2, vI 5]) (S := [vR (some 70)]) dX4_write_96 rfl l_X4_38 k_X2_of rfl L_4 c_X2 rfl rfl (Nat.le_of_ble_eq_true rfl) (by omega) ⟨Nat.le_refl _, Nat.le_refl _, Nat.le_refl _, Nat.le_refl _⟩ (Q1 := fun r M' => WP k LAY m_X4_write 99 [(0, vR (some 70)), (1, vR (some 4)), (2, vI x2)] (r.toList ++ [vR (some 70)]) M' Q) (WPm.of k_X2_of.1 (Nat.le_of_ble_eq_true rfl) (B_X2_of_0 (by omega) ?_)) (fun r M' q => q)
        obtain ⟨e23, h⟩ := h
        refine ⟨e23, ?_⟩
        change WP _ LAY m_X4_write 99 [(0, vR (some 70)), (1, vR (some 4)), (2, vI x2)] [vI (gi I21 19 ((3 + (x2 * 14)) + 5).toNat), vR (some 70)] (mem (P, some 5, some 22) I21 J22) Q
        refine st_callV (pc' := 102) (kc := k - 1) (E' := LAY) (cal := m_X4_put) (n := 1) (as := [vI (gi I21 19 ((3 + (x2 * 14)) + 5).toNat)]) (S := []) dX4_write_99 rfl l_X4_42 k_X4_put rfl L_70 c_X4 rfl rfl (Nat.le_of_ble_eq_true rfl) (by omega) ⟨Nat.le_refl _, Nat.le_refl _, Nat.le_refl _, Nat.le_refl _⟩ (Q1 := fun r M' => WP k LAY m_X4_write 102 [(0, vR (some 70)), (1, vR (some 4)), (2, vI x2)] (r.toList ++ []) M' Q) (WPm.of k_X4_put.1 (Nat.le_of_ble_eq_true rfl) (B_X4_put_0 (by omega) ?_)) (fun r M' q => q)
        refine ⟨fun c => ?_, fun c => ?_⟩
        · replace h := h.1 c
          change WP _ LAY m_X4_write 102 [(0, vR (some 70)), (1, vR (some 4)), (2, vI x2)] [] (mem (P, some 5, some 22) I21 J22) Q
          refine st_iconst (pc' := 103) dX4_write_102 rfl ?_
          refine st_istore_n (pc' := 104) (L' := [(3, vI 0), (0, vR (some 70)), (1, vR (some 4)), (2, vI x2)]) dX4_write_103 rfl rfl (by decide) rfl ?_
          refine WP_sub (L' := [(0, vR (some 70)), (1, vR (some 4)), (2, vI x2), (3, vI 0)]) [1, 2, 3, 0] rfl ?_
          exact h
        · replace h := h.2 c
          obtain ⟨e24, h⟩ := h
          refine ⟨e24, ?_⟩
          change WP _ LAY m_X4_write 102 [(0, vR (some 70)), (1, vR (some 4)), (2, vI x2)] [] (mem (P, some 5, some 22) (si (si I21 71 (gi I21 70 2).toNat (gi I21 19 ((3 + (x2 * 14)) + 5).toNat)) 70 2 ((gi I21 70 2) + 1)) J22) Q
          refine st_iconst (pc' := 103) dX4_write_102 rfl ?_
          refine st_istore_n (pc' := 104) (L' := [(3, vI 0), (0, vR (some 70)), (1, vR (some 4)), (2, vI x2)]) dX4_write_103 rfl rfl (by decide) rfl ?_
          refine WP_sub (L' := [(0, vR (some 70)), (1, vR (some 4)), (2, vI x2), (3, vI 0)]) [1, 2, 3, 0] rfl ?_
          exact h
    · replace h := h.2 c
      obtain ⟨e25, h⟩ := h
      refine ⟨e25, ?_⟩
      change WP _ LAY m_X4_write 50 [(0, vR (some 70)), (1, vR (some 4)), (2, vI x2)] [] (mem (P, some 5, some 22) (si (si I 71 (gi I 70 2).toNat (gi I 19 ((3 + (x2 * 14)) + 0).toNat)) 70 2 ((gi I 70 2) + 1)) J) Q
      refine st_aload_n (pc' := 51) dX4_write_50 rfl rfl (j := 0) rfl ?_
      refine st_aload_n (pc' := 52) dX4_write_51 rfl rfl (j := 1) rfl ?_
      refine st_iload_n (pc' := 53) dX4_write_52 rfl rfl (j := 2) rfl ?_
      refine st_iconst (pc' := 54) dX4_write_53 rfl ?_
      refine st_callV (pc' := 57) (kc := k - 1) (E' := LAY) (cal := m_X2_of) (n := 2) (as := [vI x2, vI 1]) (S := [vR (some 70)]) dX4_write_54 rfl l_X4_38 k_X2_of rfl L_4 c_X2 rfl rfl (Nat.le_of_ble_eq_true rfl) (by omega) ⟨Nat.le_refl _, Nat.le_refl _, Nat.le_refl _, Nat.le_refl _⟩ (Q1 := fun r M' => WP k LAY m_X4_write 57 [(0, vR (some 70)), (1, vR (some 4)), (2, vI x2)] (r.toList ++ [vR (some 70)]) M' Q) (WPm.of k_X2_of.1 (Nat.le_of_ble_eq_true rfl) (B_X2_of_0 (by omega) ?_)) (fun r M' q => q)
      obtain ⟨e26, h⟩ := h
      refine ⟨e26, ?_⟩
      change WP _ LAY m_X4_write 57 [(0, vR (some 70)), (1, vR (some 4)), (2, vI x2)] [vI (gi (si (si I 71 (gi I 70 2).toNat (gi I 19 ((3 + (x2 * 14)) + 0).toNat)) 70 2 ((gi I 70 2) + 1)) 19 ((3 + (x2 * 14)) + 1).toNat), vR (some 70)] (mem (P, some 5, some 22) (si (si I 71 (gi I 70 2).toNat (gi I 19 ((3 + (x2 * 14)) + 0).toNat)) 70 2 ((gi I 70 2) + 1)) J) Q
      refine st_callV (pc' := 60) (kc := k - 1) (E' := LAY) (cal := m_X4_putTwo) (n := 1) (as := [vI (gi (si (si I 71 (gi I 70 2).toNat (gi I 19 ((3 + (x2 * 14)) + 0).toNat)) 70 2 ((gi I 70 2) + 1)) 19 ((3 + (x2 * 14)) + 1).toNat)]) (S := []) dX4_write_57 rfl l_X4_25 k_X4_putTwo rfl L_70 c_X4 rfl rfl (Nat.le_of_ble_eq_true rfl) (by omega) ⟨Nat.le_refl _, Nat.le_refl _, Nat.le_refl _, Nat.le_refl _⟩ h (fun r M' q => ?_)
      obtain ⟨I28, J29, rfl, rfl, h⟩ := q
      change WP _ LAY m_X4_write 60 [(0, vR (some 70)), (1, vR (some 4)), (2, vI x2)] [] (mem (P, some 5, some 22) I28 J29) Q
      refine st_aload_n (pc' := 61) dX4_write_60 rfl rfl (j := 0) rfl ?_
      refine st_aload_n (pc' := 62) dX4_write_61 rfl rfl (j := 1) rfl ?_
      refine st_iload_n (pc' := 63) dX4_write_62 rfl rfl (j := 2) rfl ?_
      refine st_iconst (pc' := 64) dX4_write_63 rfl ?_
      refine st_callV (pc' := 67) (kc := k - 1) (E' := LAY) (cal := m_X2_of) (n := 2) (as := [vI x2, vI 2]) (S := [vR (some 70)]) dX4_write_64 rfl l_X4_38 k_X2_of rfl L_4 c_X2 rfl rfl (Nat.le_of_ble_eq_true rfl) (by omega) ⟨Nat.le_refl _, Nat.le_refl _, Nat.le_refl _, Nat.le_refl _⟩ (Q1 := fun r M' => WP k LAY m_X4_write 67 [(0, vR (some 70)), (1, vR (some 4)), (2, vI x2)] (r.toList ++ [vR (some 70)]) M' Q) (WPm.of k_X2_of.1 (Nat.le_of_ble_eq_true rfl) (B_X2_of_0 (by omega) ?_)) (fun r M' q => q)
      obtain ⟨e30, h⟩ := h
      refine ⟨e30, ?_⟩
      change WP _ LAY m_X4_write 67 [(0, vR (some 70)), (1, vR (some 4)), (2, vI x2)] [vI (gi I28 19 ((3 + (x2 * 14)) + 2).toNat), vR (some 70)] (mem (P, some 5, some 22) I28 J29) Q
      refine st_callV (pc' := 70) (kc := k - 1) (E' := LAY) (cal := m_X4_putTwo) (n := 1) (as := [vI (gi I28 19 ((3 + (x2 * 14)) + 2).toNat)]) (S := []) dX4_write_67 rfl l_X4_25 k_X4_putTwo rfl L_70 c_X4 rfl rfl (Nat.le_of_ble_eq_true rfl) (by omega) ⟨Nat.le_refl _, Nat.le_refl _, Nat.le_refl _, Nat.le_refl _⟩ h (fun r M' q => ?_)
      obtain ⟨I32, J33, rfl, rfl, h⟩ := q
      change WP _ LAY m_X4_write 70 [(0, vR (some 70)), (1, vR (some 4)), (2, vI x2)] [] (mem (P, some 5, some 22) I32 J33) Q
      refine st_aload_n (pc' := 71) dX4_write_70 rfl rfl (j := 0) rfl ?_
      refine st_aload_n (pc' := 72) dX4_write_71 rfl rfl (j := 1) rfl ?_
      refine st_iload_n (pc' := 73) dX4_write_72 rfl rfl (j := 2) rfl ?_
      refine st_iconst (pc' := 74) dX4_write_73 rfl ?_
      refine st_callV (pc' := 77) (kc := k - 1) (E' := LAY) (cal := m_X2_of) (n := 2) (as := [vI x2, vI 3]) (S := [vR (some 70)]) dX4_write_74 rfl l_X4_38 k_X2_of rfl L_4 c_X2 rfl rfl (Nat.le_of_ble_eq_true rfl) (by omega) ⟨Nat.le_refl _, Nat.le_refl _, Nat.le_refl _, Nat.le_refl _⟩ (Q1 := fun r M' => WP k LAY m_X4_write 77 [(0, vR (some 70)), (1, vR (some 4)), (2, vI x2)] (r.toList ++ [vR (some 70)]) M' Q) (WPm.of k_X2_of.1 (Nat.le_of_ble_eq_true rfl) (B_X2_of_0 (by omega) ?_)) (fun r M' q => q)
      obtain ⟨e34, h⟩ := h
      refine ⟨e34, ?_⟩
      change WP _ LAY m_X4_write 77 [(0, vR (some 70)), (1, vR (some 4)), (2, vI x2)] [vI (gi I32 19 ((3 + (x2 * 14)) + 3).toNat), vR (some 70)] (mem (P, some 5, some 22) I32 J33) Q
      refine st_iconst (pc' := 78) dX4_write_77 rfl ?_
      refine st_iadd (pc' := 79) dX4_write_78 rfl ?_
      refine st_callV (pc' := 82) (kc := k - 1) (E' := LAY) (cal := m_X4_put) (n := 1) (as := [vI ((gi I32 19 ((3 + (x2 * 14)) + 3).toNat) + 1)]) (S := []) dX4_write_79 rfl l_X4_42 k_X4_put rfl L_70 c_X4 rfl rfl (Nat.le_of_ble_eq_true rfl) (by omega) ⟨Nat.le_refl _, Nat.le_refl _, Nat.le_refl _, Nat.le_refl _⟩ (Q1 := fun r M' => WP k LAY m_X4_write 82 [(0, vR (some 70)), (1, vR (some 4)), (2, vI x2)] (r.toList ++ []) M' Q) (WPm.of k_X4_put.1 (Nat.le_of_ble_eq_true rfl) (B_X4_put_0 (by omega) ?_)) (fun r M' q => q)
      refine ⟨fun c => ?_, fun c => ?_⟩
      · replace h := h.1 c
        change WP _ LAY m_X4_write 82 [(0, vR (some 70)), (1, vR (some 4)), (2, vI x2)] [] (mem (P, some 5, some 22) I32 J33) Q
        refine st_aload_n (pc' := 83) dX4_write_82 rfl rfl (j := 0) rfl ?_
        refine st_aload_n (pc' := 84) dX4_write_83 rfl rfl (j := 1) rfl ?_
        refine st_iload_n (pc' := 85) dX4_write_84 rfl rfl (j := 2) rfl ?_
        refine st_iconst (pc' := 86) dX4_write_85 rfl ?_
        refine st_callV (pc' := 89) (kc := k - 1) (E' := LAY) (cal := m_X2_of) (n := 2) (as := [vI x2, vI 4]) (S := [vR (some 70)]) dX4_write_86 rfl l_X4_38 k_X2_of rfl L_4 c_X2 rfl rfl (Nat.le_of_ble_eq_true rfl) (by omega) ⟨Nat.le_refl _, Nat.le_refl _, Nat.le_refl _, Nat.le_refl _⟩ (Q1 := fun r M' => WP k LAY m_X4_write 89 [(0, vR (some 70)), (1, vR (some 4)), (2, vI x2)] (r.toList ++ [vR (some 70)]) M' Q) (WPm.of k_X2_of.1 (Nat.le_of_ble_eq_true rfl) (B_X2_of_0 (by omega) ?_)) (fun r M' q => q)
        obtain ⟨e35, h⟩ := h
        refine ⟨e35, ?_⟩
        change WP _ LAY m_X4_write 89 [(0, vR (some 70)), (1, vR (some 4)), (2, vI x2)] [vI (gi I32 19 ((3 + (x2 * 14)) + 4).toNat), vR (some 70)] (mem (P, some 5, some 22) I32 J33) Q
        refine st_callV (pc' := 92) (kc := k - 1) (E' := LAY) (cal := m_X4_putTwo) (n := 1) (as := [vI (gi I32 19 ((3 + (x2 * 14)) + 4).toNat)]) (S := []) dX4_write_89 rfl l_X4_25 k_X4_putTwo rfl L_70 c_X4 rfl rfl (Nat.le_of_ble_eq_true rfl) (by omega) ⟨Nat.le_refl _, Nat.le_refl _, Nat.le_refl _, Nat.le_refl _⟩ h (fun r M' q => ?_)
        obtain ⟨I37, J38, rfl, rfl, h⟩ := q
        change WP _ LAY m_X4_write 92 [(0, vR (some 70)), (1, vR (some 4)), (2, vI x2)] [] (mem (P, some 5, some 22) I37 J38) Q
        refine st_aload_n (pc' := 93) dX4_write_92 rfl rfl (j := 0) rfl ?_
        refine st_aload_n (pc' := 94) dX4_write_93 rfl rfl (j := 1) rfl ?_
        refine st_iload_n (pc' := 95) dX4_write_94 rfl rfl (j := 2) rfl ?_
        refine st_iconst (pc' := 96) dX4_write_95 rfl ?_
        refine st_callV (pc' := 99) (kc := k - 1) (E' := LAY) (cal := m_X2_of) (n := 2) (as := [vI x2, vI 5]) (S := [vR (some 70)]) dX4_write_96 rfl l_X4_38 k_X2_of rfl L_4 c_X2 rfl rfl (Nat.le_of_ble_eq_true rfl) (by omega) ⟨Nat.le_refl _, Nat.le_refl _, Nat.le_refl _, Nat.le_refl _⟩ (Q1 := fun r M' => WP k LAY m_X4_write 99 [(0, vR (some 70)), (1, vR (some 4)), (2, vI x2)] (r.toList ++ [vR (some 70)]) M' Q) (WPm.of k_X2_of.1 (Nat.le_of_ble_eq_true rfl) (B_X2_of_0 (by omega) ?_)) (fun r M' q => q)
        obtain ⟨e39, h⟩ := h
        refine ⟨e39, ?_⟩
        change WP _ LAY m_X4_write 99 [(0, vR (some 70)), (1, vR (some 4)), (2, vI x2)] [vI (gi I37 19 ((3 + (x2 * 14)) + 5).toNat), vR (some 70)] (mem (P, some 5, some 22) I37 J38) Q
        refine st_callV (pc' := 102) (kc := k - 1) (E' := LAY) (cal := m_X4_put) (n := 1) (as := [vI (gi I37 19 ((3 + (x2 * 14)) + 5).toNat)]) (S := []) dX4_write_99 rfl l_X4_42 k_X4_put rfl L_70 c_X4 rfl rfl (Nat.le_of_ble_eq_true rfl) (by omega) ⟨Nat.le_refl _, Nat.le_refl _, Nat.le_refl _, Nat.le_refl _⟩ (Q1 := fun r M' => WP k LAY m_X4_write 102 [(0, vR (some 70)), (1, vR (some 4)), (2, vI x2)] (r.toList ++ []) M' Q) (WPm.of k_X4_put.1 (Nat.le_of_ble_eq_true rfl) (B_X4_put_0 (by omega) ?_)) (fun r M' q => q)
        refine ⟨fun c => ?_, fun c => ?_⟩
        · replace h := h.1 c
          change WP _ LAY m_X4_write 102 [(0, vR (some 70)), (1, vR (some 4)), (2, vI x2)] [] (mem (P, some 5, some 22) I37 J38) Q
          refine st_iconst (pc' := 103) dX4_write_102 rfl ?_
          refine st_istore_n (pc' := 104) (L' := [(3, vI 0), (0, vR (some 70)), (1, vR (some 4)), (2, vI x2)]) dX4_write_103 rfl rfl (by decide) rfl ?_
          refine WP_sub (L' := [(0, vR (some 70)), (1, vR (some 4)), (2, vI x2), (3, vI 0)]) [1, 2, 3, 0] rfl ?_
          exact h
        · replace h := h.2 c
          obtain ⟨e40, h⟩ := h
          refine ⟨e40, ?_⟩
          change WP _ LAY m_X4_write 102 [(0, vR (some 70)), (1, vR (some 4)), (2, vI x2)] [] (mem (P, some 5, some 22) (si (si I37 71 (gi I37 70 2).toNat (gi I37 19 ((3 + (x2 * 14)) + 5).toNat)) 70 2 ((gi I37 70 2) + 1)) J38) Q
          refine st_iconst (pc' := 103) dX4_write_102 rfl ?_
          refine st_istore_n (pc' := 104) (L' := [(3, vI 0), (0, vR (some 70)), (1, vR (some 4)), (2, vI x2)]) dX4_write_103 rfl rfl (by decide) rfl ?_
          refine WP_sub (L' := [(0, vR (some 70)), (1, vR (some 4)), (2, vI x2), (3, vI 0)]) [1, 2, 3, 0] rfl ?_
          exact h
      · replace h := h.2 c
        obtain ⟨e41, h⟩ := h
        refine ⟨e41, ?_⟩
        change WP _ LAY m_X4_write 82 [(0, vR (some 70)), (1, vR (some 4)), (2, vI x2)] [] (mem (P, some 5, some 22) (si (si I32 71 (gi I32 70 2).toNat ((gi I32 19 ((3 + (x2 * 14)) + 3).toNat) + 1)) 70 2 ((gi I32 70 2) + 1)) J33) Q
        refine st_aload_n (pc' := 83) dX4_write_82 rfl rfl (j := 0) rfl ?_
        refine st_aload_n (pc' := 84) dX4_write_83 rfl rfl (j := 1) rfl ?_
        refine st_iload_n (pc' := 85) dX4_write_84 rfl rfl (j := 2) rfl ?_
        refine st_iconst (pc' := 86) dX4_write_85 rfl ?_
        refine st_callV (pc' := 89) (kc := k - 1) (E' := LAY) (cal := m_X2_of) (n := 2) (as := [vI x2, vI 4]) (S := [vR (some 70)]) dX4_write_86 rfl l_X4_38 k_X2_of rfl L_4 c_X2 rfl rfl (Nat.le_of_ble_eq_true rfl) (by omega) ⟨Nat.le_refl _, Nat.le_refl _, Nat.le_refl _, Nat.le_refl _⟩ (Q1 := fun r M' => WP k LAY m_X4_write 89 [(0, vR (some 70)), (1, vR (some 4)), (2, vI x2)] (r.toList ++ [vR (some 70)]) M' Q) (WPm.of k_X2_of.1 (Nat.le_of_ble_eq_true rfl) (B_X2_of_0 (by omega) ?_)) (fun r M' q => q)
        obtain ⟨e42, h⟩ := h
        refine ⟨e42, ?_⟩
        change WP _ LAY m_X4_write 89 [(0, vR (some 70)), (1, vR (some 4)), (2, vI x2)] [vI (gi (si (si I32 71 (gi I32 70 2).toNat ((gi I32 19 ((3 + (x2 * 14)) + 3).toNat) + 1)) 70 2 ((gi I32 70 2) + 1)) 19 ((3 + (x2 * 14)) + 4).toNat), vR (some 70)] (mem (P, some 5, some 22) (si (si I32 71 (gi I32 70 2).toNat ((gi I32 19 ((3 + (x2 * 14)) + 3).toNat) + 1)) 70 2 ((gi I32 70 2) + 1)) J33) Q
        refine st_callV (pc' := 92) (kc := k - 1) (E' := LAY) (cal := m_X4_putTwo) (n := 1) (as := [vI (gi (si (si I32 71 (gi I32 70 2).toNat ((gi I32 19 ((3 + (x2 * 14)) + 3).toNat) + 1)) 70 2 ((gi I32 70 2) + 1)) 19 ((3 + (x2 * 14)) + 4).toNat)]) (S := []) dX4_write_89 rfl l_X4_25 k_X4_putTwo rfl L_70 c_X4 rfl rfl (Nat.le_of_ble_eq_true rfl) (by omega) ⟨Nat.le_refl _, Nat.le_refl _, Nat.le_refl _, Nat.le_refl _⟩ h (fun r M' q => ?_)
        obtain ⟨I44, J45, rfl, rfl, h⟩ := q
        change WP _ LAY m_X4_write 92 [(0, vR (some 70)), (1, vR (some 4)), (2, vI x2)] [] (mem (P, some 5, some 22) I44 J45) Q
        refine st_aload_n (pc' := 93) dX4_write_92 rfl rfl (j := 0) rfl ?_
        refine st_aload_n (pc' := 94) dX4_write_93 rfl rfl (j := 1) rfl ?_
        refine st_iload_n (pc' := 95) dX4_write_94 rfl rfl (j := 2) rfl ?_
        refine st_iconst (pc' := 96) dX4_write_95 rfl ?_
        refine st_callV (pc' := 99) (kc := k - 1) (E' := LAY) (cal := m_X2_of) (n := 2) (as := [vI x2, vI 5]) (S := [vR (some 70)]) dX4_write_96 rfl l_X4_38 k_X2_of rfl L_4 c_X2 rfl rfl (Nat.le_of_ble_eq_true rfl) (by omega) ⟨Nat.le_refl _, Nat.le_refl _, Nat.le_refl _, Nat.le_refl _⟩ (Q1 := fun r M' => WP k LAY m_X4_write 99 [(0, vR (some 70)), (1, vR (some 4)), (2, vI x2)] (r.toList ++ [vR (some 70)]) M' Q) (WPm.of k_X2_of.1 (Nat.le_of_ble_eq_true rfl) (B_X2_of_0 (by omega) ?_)) (fun r M' q => q)
        obtain ⟨e46, h⟩ := h
        refine ⟨e46, ?_⟩
        change WP _ LAY m_X4_write 99 [(0, vR (some 70)), (1, vR (some 4)), (2, vI x2)] [vI (gi I44 19 ((3 + (x2 * 14)) + 5).toNat), vR (some 70)] (mem (P, some 5, some 22) I44 J45) Q
        refine st_callV (pc' := 102) (kc := k - 1) (E' := LAY) (cal := m_X4_put) (n := 1) (as := [vI (gi I44 19 ((3 + (x2 * 14)) + 5).toNat)]) (S := []) dX4_write_99 rfl l_X4_42 k_X4_put rfl L_70 c_X4 rfl rfl (Nat.le_of_ble_eq_true rfl) (by omega) ⟨Nat.le_refl _, Nat.le_refl _, Nat.le_refl _, Nat.le_refl _⟩ (Q1 := fun r M' => WP k LAY m_X4_write 102 [(0, vR (some 70)), (1, vR (some 4)), (2, vI x2)] (r.toList ++ []) M' Q) (WPm.of k_X4_put.1 (Nat.le_of_ble_eq_true rfl) (B_X4_put_0 (by omega) ?_)) (fun r M' q => q)
        refine ⟨fun c => ?_, fun c => ?_⟩
        · replace h := h.1 c
          change WP _ LAY m_X4_write 102 [(0, vR (some 70)), (1, vR (some 4)), (2, vI x2)] [] (mem (P, some 5, some 22) I44 J45) Q
          refine st_iconst (pc' := 103) dX4_write_102 rfl ?_
          refine st_istore_n (pc' := 104) (L' := [(3, vI 0), (0, vR (some 70)), (1, vR (some 4)), (2, vI x2)]) dX4_write_103 rfl rfl (by decide) rfl ?_
          refine WP_sub (L' := [(0, vR (some 70)), (1, vR (some 4)), (2, vI x2), (3, vI 0)]) [1, 2, 3, 0] rfl ?_
          exact h
        · replace h := h.2 c
          obtain ⟨e47, h⟩ := h
          refine ⟨e47, ?_⟩
          change WP _ LAY m_X4_write 102 [(0, vR (some 70)), (1, vR (some 4)), (2, vI x2)] [] (mem (P, some 5, some 22) (si (si I44 71 (gi I44 70 2).toNat (gi I44 19 ((3 + (x2 * 14)) + 5).toNat)) 70 2 ((gi I44 70 2) + 1)) J45) Q
          refine st_iconst (pc' := 103) dX4_write_102 rfl ?_
          refine st_istore_n (pc' := 104) (L' := [(3, vI 0), (0, vR (some 70)), (1, vR (some 4)), (2, vI x2)]) dX4_write_103 rfl rfl (by decide) rfl ?_
          refine WP_sub (L' := [(0, vR (some 70)), (1, vR (some 4)), (2, vI x2), (3, vI 0)]) [1, 2, 3, 0] rfl ?_
          exact h
set_option maxRecDepth 20000 in
set_option maxHeartbeats 4000000 in
theorem B_X4_write_141 {k : Nat} {P : Option Nat} {I : Nat → Nat → Int32} {J : Nat → Nat → Int64} {x2 : Int} {x3 : Int} {Q : Option AV → Mem → Prop} (hk : 1 ≤ k) (h : inR x3 ∧ (((gi I 70 2) ≤ x3 → ((107 ≤ (gi I 70 2) → (Q none (mem (P, some 5, some 22) I J))) ∧ (¬ 107 ≤ (gi I 70 2) → ((0 ≤ (gi I 70 2) ∧ (gi I 70 2) < 107) ∧ (Q none (mem (P, some 5, some 22) (si (si I 71 (gi I 70 2).toNat x2) 70 2 ((gi I 70 2) + 1)) J)))))) ∧ (¬ (gi I 70 2) ≤ x3 → ((0 ≤ x3 ∧ x3 < 107) ∧ (WP k LAY m_X4_write 141 [(0, vR (some 70)), (2, vI (rem32 ((5 * x2) + (gi I 71 (x3).toNat)) 251)), (3, vI (x3 + 1))] [] (mem (P, some 5, some 22) I J) Q))))) : WP k LAY m_X4_write 141 [(0, vR (some 70)), (2, vI x2), (3, vI x3)] [] (mem (P, some 5, some 22) I J) Q := by
  refine st_iload_n (pc' := 142) dX4_write_141 rfl rfl (j := 2) rfl ?_
  refine st_aload_n (pc' := 143) dX4_write_142 rfl rfl (j := 0) rfl ?_
  refine G_X4_18_70 dX4_write_143 (pc' := 146) rfl rfl ?_
  obtain ⟨e1, h⟩ := h
  refine st_icmp_ge (tg := 170) (pc' := 149) dX4_write_146 (by decide) rfl e1 (gi_in _ _ _) (fun c => ?_) (fun c => ?_)
  · replace h := h.1 c
    refine st_aload_n (pc' := 171) dX4_write_170 rfl rfl (j := 0) rfl ?_
    refine st_iload_n (pc' := 172) dX4_write_171 rfl rfl (j := 1) rfl ?_
    refine st_callV (pc' := 175) (kc := k - 1) (E' := LAY) (cal := m_X4_put) (n := 1) (as := [vI x2]) (S := []) dX4_write_172 rfl l_X4_42 k_X4_put rfl L_70 c_X4 rfl rfl (Nat.le_of_ble_eq_true rfl) (by omega) ⟨Nat.le_refl _, Nat.le_refl _, Nat.le_refl _, Nat.le_refl _⟩ (Q1 := fun r M' => WP k LAY m_X4_write 175 [(0, vR (some 70)), (2, vI x2), (3, vI x3)] (r.toList ++ []) M' Q) (WPm.of k_X4_put.1 (Nat.le_of_ble_eq_true rfl) (B_X4_put_0 (by omega) ?_)) (fun r M' q => q)
    refine ⟨fun c => ?_, fun c => ?_⟩
    · replace h := h.1 c
      change WP _ LAY m_X4_write 175 [(0, vR (some 70)), (2, vI x2), (3, vI x3)] [] (mem (P, some 5, some 22) I J) Q
      exact st_vret dX4_write_175 rfl rfl h
    · replace h := h.2 c
      obtain ⟨e2, h⟩ := h
      refine ⟨e2, ?_⟩
      change WP _ LAY m_X4_write 175 [(0, vR (some 70)), (2, vI x2), (3, vI x3)] [] (mem (P, some 5, some 22) (si (si I 71 (gi I 70 2).toNat x2) 70 2 ((gi I 70 2) + 1)) J) Q
      exact st_vret dX4_write_175 rfl rfl h
  · replace h := h.2 c
    refine st_iconst (pc' := 150) dX4_write_149 rfl ?_
    refine st_iload_n (pc' := 151) dX4_write_150 rfl rfl (j := 1) rfl ?_
    refine st_imul (pc' := 152) dX4_write_151 rfl ?_
    refine st_aload_n (pc' := 153) dX4_write_152 rfl rfl (j := 0) rfl ?_
    refine G_X4_9_70 dX4_write_153 (pc' := 156) rfl rfl ?_
    refine st_iload_n (pc' := 157) dX4_write_156 rfl rfl (j := 2) rfl ?_
    obtain ⟨e3, h⟩ := h
    refine st_iaload (pc' := 158) (v := (gi I 71 (x3).toNat)) dX4_write_157 rfl L_71 (by decide) e3 (show gi I 71 (x3).toNat = (gi I 71 (x3).toNat) from rfl) ?_
    refine st_iadd (pc' := 159) dX4_write_158 rfl ?_
    refine st_sipush (pc' := 162) dX4_write_159 rfl (by decide) ?_
    refine st_irem (pc' := 163) (z := (rem32 ((5 * x2) + (gi I 71 (x3).toNat)) 251)) dX4_write_162 rfl (by decide) rfl ?_
    refine st_istore_n (pc' := 164) (L' := [(2, vI (rem32 ((5 * x2) + (gi I 71 (x3).toNat)) 251)), (0, vR (some 70)), (3, vI x3)]) dX4_write_163 rfl rfl (by decide) rfl ?_
    refine st_iinc (pc' := 167) (L' := [(3, vI (x3 + 1)), (2, vI (rem32 ((5 * x2) + (gi I 71 (x3).toNat)) 251)), (0, vR (some 70))]) (j := 2) dX4_write_164 rfl (by decide) rfl rfl ?_
    refine st_goto (pc' := 141) dX4_write_167 (by decide) ?_
    refine WP_sub (L' := [(0, vR (some 70)), (2, vI (rem32 ((5 * x2) + (gi I 71 (x3).toNat)) 251)), (3, vI (x3 + 1))]) [2, 1, 0] rfl ?_
    exact h
set_option maxRecDepth 20000 in
set_option maxHeartbeats 4000000 in
theorem B_X4_write_104 {k : Nat} {P : Option Nat} {I : Nat → Nat → Int32} {J : Nat → Nat → Int64} {x2 : Int} {x3 : Int} {Q : Option AV → Mem → Prop} (hk : 2 ≤ k) (h : (0 ≤ ((3 + (x2 * 14)) + 5) ∧ ((3 + (x2 * 14)) + 5) < 87) ∧ (inR x3 ∧ (((gi I 19 ((3 + (x2 * 14)) + 5).toNat) ≤ x3 → (WP k LAY m_X4_write 27 [(0, vR (some 70)), (1, vR (some 4)), (2, vI (x2 + 1))] [] (mem (P, some 5, some 22) I J) Q)) ∧ (¬ (gi I 19 ((3 + (x2 * 14)) + 5).toNat) ≤ x3 → ((x3 < 0 → ((107 ≤ (gi I 70 2) → (WP k LAY m_X4_write 104 [(0, vR (some 70)), (1, vR (some 4)), (2, vI x2), (3, vI (x3 + 1))] [] (mem (P, some 5, some 22) I J) Q)) ∧ (¬ 107 ≤ (gi I 70 2) → ((0 ≤ (gi I 70 2) ∧ (gi I 70 2) < 107) ∧ (WP k LAY m_X4_write 104 [(0, vR (some 70)), (1, vR (some 4)), (2, vI x2), (3, vI (x3 + 1))] [] (mem (P, some 5, some 22) (si (si I 71 (gi I 70 2).toNat (-1)) 70 2 ((gi I 70 2) + 1)) J) Q))))) ∧ (¬ x3 < 0 → (((gi I 19 ((3 + (x2 * 14)) + 5).toNat) ≤ x3 → ((107 ≤ (gi I 70 2) → (WP k LAY m_X4_write 104 [(0, vR (some 70)), (1, vR (some 4)), (2, vI x2), (3, vI (x3 + 1))] [] (mem (P, some 5, some 22) I J) Q)) ∧ (¬ 107 ≤ (gi I 70 2) → ((0 ≤ (gi I 70 2) ∧ (gi I 70 2) < 107) ∧ (WP k LAY m_X4_write 104 [(0, vR (some 70)), (1, vR (some 4)), (2, vI x2), (3, vI (x3 + 1))] [] (mem (P, some 5, some 22) (si (si I 71 (gi I 70 2).toNat (-1)) 70 2 ((gi I 70 2) + 1)) J) Q))))) ∧ (¬ (gi I 19 ((3 + (x2 * 14)) + 5).toNat) ≤ x3 → ((0 ≤ ((3 + (x2 * 14)) + (6 + x3)) ∧ ((3 + (x2 * 14)) + (6 + x3)) < 87) ∧ ((107 ≤ (gi I 70 2) → (WP k LAY m_X4_write 104 [(0, vR (some 70)), (1, vR (some 4)), (2, vI x2), (3, vI (x3 + 1))] [] (mem (P, some 5, some 22) I J) Q)) ∧ (¬ 107 ≤ (gi I 70 2) → ((0 ≤ (gi I 70 2) ∧ (gi I 70 2) < 107) ∧ (WP k LAY m_X4_write 104 [(0, vR (some 70)), (1, vR (some 4)), (2, vI x2), (3, vI (x3 + 1))] [] (mem (P, some 5, some 22) (si (si I 71 (gi I 70 2).toNat (gi I 19 ((3 + (x2 * 14)) + (6 + x3)).toNat)) 70 2 ((gi I 70 2) + 1)) J) Q))))))))))))) : WP k LAY m_X4_write 104 [(0, vR (some 70)), (1, vR (some 4)), (2, vI x2), (3, vI x3)] [] (mem (P, some 5, some 22) I J) Q := by
  refine st_iload_n (pc' := 105) dX4_write_104 rfl rfl (j := 3) rfl ?_
  refine st_aload_n (pc' := 106) dX4_write_105 rfl rfl (j := 1) rfl ?_
  refine st_iload_n (pc' := 107) dX4_write_106 rfl rfl (j := 2) rfl ?_
  refine st_iconst (pc' := 108) dX4_write_107 rfl ?_
  refine st_callV (pc' := 111) (kc := k - 1) (E' := LAY) (cal := m_X2_of) (n := 2) (as := [vI x2, vI 5]) (S := [vI x3]) dX4_write_108 rfl l_X4_38 k_X2_of rfl L_4 c_X2 rfl rfl (Nat.le_of_ble_eq_true rfl) (by omega) ⟨Nat.le_refl _, Nat.le_refl _, Nat.le_refl _, Nat.le_refl _⟩ (Q1 := fun r M' => WP k LAY m_X4_write 111 [(0, vR (some 70)), (1, vR (some 4)), (2, vI x2), (3, vI x3)] (r.toList ++ [vI x3]) M' Q) (WPm.of k_X2_of.1 (Nat.le_of_ble_eq_true rfl) (B_X2_of_0 (by omega) ?_)) (fun r M' q => q)
  obtain ⟨e1, h⟩ := h
  refine ⟨e1, ?_⟩
  change WP _ LAY m_X4_write 111 [(0, vR (some 70)), (1, vR (some 4)), (2, vI x2), (3, vI x3)] [vI (gi I 19 ((3 + (x2 * 14)) + 5).toNat), vI x3] (mem (P, some 5, some 22) I J) Q
  obtain ⟨e2, h⟩ := h
  refine st_icmp_ge (tg := 130) (pc' := 114) dX4_write_111 (by decide) rfl e2 (gi_in _ _ _) (fun c => ?_) (fun c => ?_)
  · replace h := h.1 c
    refine st_iinc (pc' := 133) (L' := [(2, vI (x2 + 1)), (0, vR (some 70)), (1, vR (some 4)), (3, vI x3)]) (j := 2) dX4_write_130 rfl (by decide) rfl rfl ?_
    refine st_goto (pc' := 27) dX4_write_133 (by decide) ?_
    refine WP_sub (L' := [(0, vR (some 70)), (1, vR (some 4)), (2, vI (x2 + 1))]) [1, 2, 0] rfl ?_
    exact h
  · replace h := h.2 c
    refine st_aload_n (pc' := 115) dX4_write_114 rfl rfl (j := 0) rfl ?_
    refine st_aload_n (pc' := 116) dX4_write_115 rfl rfl (j := 1) rfl ?_
    refine st_iload_n (pc' := 117) dX4_write_116 rfl rfl (j := 2) rfl ?_
    refine st_iload_n (pc' := 118) dX4_write_117 rfl rfl (j := 3) rfl ?_
    refine st_callV (pc' := 121) (kc := k - 1) (E' := LAY) (cal := m_X2_listed) (n := 2) (as := [vI x2, vI x3]) (S := [vR (some 70)]) dX4_write_118 rfl l_X4_45 k_X2_listed rfl L_4 c_X2 rfl rfl (Nat.le_of_ble_eq_true rfl) (by omega) ⟨Nat.le_refl _, Nat.le_refl _, Nat.le_refl _, Nat.le_refl _⟩ (Q1 := fun r M' => WP k LAY m_X4_write 121 [(0, vR (some 70)), (1, vR (some 4)), (2, vI x2), (3, vI x3)] (r.toList ++ [vR (some 70)]) M' Q) (WPm.of k_X2_listed.1 (Nat.le_of_ble_eq_true rfl) (B_X2_listed_0 (by omega) ?_)) (fun r M' q => q)
    refine ⟨e2, ?_⟩
    refine ⟨fun c => ?_, fun c => ?_⟩
    · replace h := h.1 c
      change WP _ LAY m_X4_write 121 [(0, vR (some 70)), (1, vR (some 4)), (2, vI x2), (3, vI x3)] [vI (-1), vR (some 70)] (mem (P, some 5, some 22) I J) Q
      refine st_callV (pc' := 124) (kc := k - 1) (E' := LAY) (cal := m_X4_put) (n := 1) (as := [vI (-1)]) (S := []) dX4_write_121 rfl l_X4_42 k_X4_put rfl L_70 c_X4 rfl rfl (Nat.le_of_ble_eq_true rfl) (by omega) ⟨Nat.le_refl _, Nat.le_refl _, Nat.le_refl _, Nat.le_refl _⟩ (Q1 := fun r M' => WP k LAY m_X4_write 124 [(0, vR (some 70)), (1, vR (some 4)), (2, vI x2), (3, vI x3)] (r.toList ++ []) M' Q) (WPm.of k_X4_put.1 (Nat.le_of_ble_eq_true rfl) (B_X4_put_0 (by omega) ?_)) (fun r M' q => q)
      refine ⟨fun c => ?_, fun c => ?_⟩
      · replace h := h.1 c
        change WP _ LAY m_X4_write 124 [(0, vR (some 70)), (1, vR (some 4)), (2, vI x2), (3, vI x3)] [] (mem (P, some 5, some 22) I J) Q
        refine st_iinc (pc' := 127) (L' := [(3, vI (x3 + 1)), (0, vR (some 70)), (1, vR (some 4)), (2, vI x2)]) (j := 3) dX4_write_124 rfl (by decide) rfl rfl ?_
        refine st_goto (pc' := 104) dX4_write_127 (by decide) ?_
        refine WP_sub (L' := [(0, vR (some 70)), (1, vR (some 4)), (2, vI x2), (3, vI (x3 + 1))]) [1, 2, 3, 0] rfl ?_
        exact h
      · replace h := h.2 c
        obtain ⟨e3, h⟩ := h
        refine ⟨e3, ?_⟩
        change WP _ LAY m_X4_write 124 [(0, vR (some 70)), (1, vR (some 4)), (2, vI x2), (3, vI x3)] [] (mem (P, some 5, some 22) (si (si I 71 (gi I 70 2).toNat (-1)) 70 2 ((gi I 70 2) + 1)) J) Q
        refine st_iinc (pc' := 127) (L' := [(3, vI (x3 + 1)), (0, vR (some 70)), (1, vR (some 4)), (2, vI x2)]) (j := 3) dX4_write_124 rfl (by decide) rfl rfl ?_
        refine st_goto (pc' := 104) dX4_write_127 (by decide) ?_
        refine WP_sub (L' := [(0, vR (some 70)), (1, vR (some 4)), (2, vI x2), (3, vI (x3 + 1))]) [1, 2, 3, 0] rfl ?_
        exact h
    · replace h := h.2 c
      refine ⟨e1, ?_⟩
      refine ⟨fun c => ?_, fun c => ?_⟩
      · replace h := h.1 c
        change WP _ LAY m_X4_write 121 [(0, vR (some 70)), (1, vR (some 4)), (2, vI x2), (3, vI x3)] [vI (-1), vR (some 70)] (mem (P, some 5, some 22) I J) Q
        refine st_callV (pc' := 124) (kc := k - 1) (E' := LAY) (cal := m_X4_put) (n := 1) (as := [vI (-1)]) (S := []) dX4_write_121 rfl l_X4_42 k_X4_put rfl L_70 c_X4 rfl rfl (Nat.le_of_ble_eq_true rfl) (by omega) ⟨Nat.le_refl _, Nat.le_refl _, Nat.le_refl _, Nat.le_refl _⟩ (Q1 := fun r M' => WP k LAY m_X4_write 124 [(0, vR (some 70)), (1, vR (some 4)), (2, vI x2), (3, vI x3)] (r.toList ++ []) M' Q) (WPm.of k_X4_put.1 (Nat.le_of_ble_eq_true rfl) (B_X4_put_0 (by omega) ?_)) (fun r M' q => q)
        refine ⟨fun c => ?_, fun c => ?_⟩
        · replace h := h.1 c
          change WP _ LAY m_X4_write 124 [(0, vR (some 70)), (1, vR (some 4)), (2, vI x2), (3, vI x3)] [] (mem (P, some 5, some 22) I J) Q
          refine st_iinc (pc' := 127) (L' := [(3, vI (x3 + 1)), (0, vR (some 70)), (1, vR (some 4)), (2, vI x2)]) (j := 3) dX4_write_124 rfl (by decide) rfl rfl ?_
          refine st_goto (pc' := 104) dX4_write_127 (by decide) ?_
          refine WP_sub (L' := [(0, vR (some 70)), (1, vR (some 4)), (2, vI x2), (3, vI (x3 + 1))]) [1, 2, 3, 0] rfl ?_
          exact h
        · replace h := h.2 c
          obtain ⟨e4, h⟩ := h
          refine ⟨e4, ?_⟩
          change WP _ LAY m_X4_write 124 [(0, vR (some 70)), (1, vR (some 4)), (2, vI x2), (3, vI x3)] [] (mem (P, some 5, some 22) (si (si I 71 (gi I 70 2).toNat (-1)) 70 2 ((gi I 70 2) + 1)) J) Q
          refine st_iinc (pc' := 127) (L' := [(3, vI (x3 + 1)), (0, vR (some 70)), (1, vR (some 4)), (2, vI x2)]) (j := 3) dX4_write_124 rfl (by decide) rfl rfl ?_
          refine st_goto (pc' := 104) dX4_write_127 (by decide) ?_
          refine WP_sub (L' := [(0, vR (some 70)), (1, vR (some 4)), (2, vI x2), (3, vI (x3 + 1))]) [1, 2, 3, 0] rfl ?_
          exact h
      · replace h := h.2 c
        obtain ⟨e5, h⟩ := h
        refine ⟨e5, ?_⟩
        change WP _ LAY m_X4_write 121 [(0, vR (some 70)), (1, vR (some 4)), (2, vI x2), (3, vI x3)] [vI (gi I 19 ((3 + (x2 * 14)) + (6 + x3)).toNat), vR (some 70)] (mem (P, some 5, some 22) I J) Q
        refine st_callV (pc' := 124) (kc := k - 1) (E' := LAY) (cal := m_X4_put) (n := 1) (as := [vI (gi I 19 ((3 + (x2 * 14)) + (6 + x3)).toNat)]) (S := []) dX4_write_121 rfl l_X4_42 k_X4_put rfl L_70 c_X4 rfl rfl (Nat.le_of_ble_eq_true rfl) (by omega) ⟨Nat.le_refl _, Nat.le_refl _, Nat.le_refl _, Nat.le_refl _⟩ (Q1 := fun r M' => WP k LAY m_X4_write 124 [(0, vR (some 70)), (1, vR (some 4)), (2, vI x2), (3, vI x3)] (r.toList ++ []) M' Q) (WPm.of k_X4_put.1 (Nat.le_of_ble_eq_true rfl) (B_X4_put_0 (by omega) ?_)) (fun r M' q => q)
        refine ⟨fun c => ?_, fun c => ?_⟩
        · replace h := h.1 c
          change WP _ LAY m_X4_write 124 [(0, vR (some 70)), (1, vR (some 4)), (2, vI x2), (3, vI x3)] [] (mem (P, some 5, some 22) I J) Q
          refine st_iinc (pc' := 127) (L' := [(3, vI (x3 + 1)), (0, vR (some 70)), (1, vR (some 4)), (2, vI x2)]) (j := 3) dX4_write_124 rfl (by decide) rfl rfl ?_
          refine st_goto (pc' := 104) dX4_write_127 (by decide) ?_
          refine WP_sub (L' := [(0, vR (some 70)), (1, vR (some 4)), (2, vI x2), (3, vI (x3 + 1))]) [1, 2, 3, 0] rfl ?_
          exact h
        · replace h := h.2 c
          obtain ⟨e6, h⟩ := h
          refine ⟨e6, ?_⟩
          change WP _ LAY m_X4_write 124 [(0, vR (some 70)), (1, vR (some 4)), (2, vI x2), (3, vI x3)] [] (mem (P, some 5, some 22) (si (si I 71 (gi I 70 2).toNat (gi I 19 ((3 + (x2 * 14)) + (6 + x3)).toNat)) 70 2 ((gi I 70 2) + 1)) J) Q
          refine st_iinc (pc' := 127) (L' := [(3, vI (x3 + 1)), (0, vR (some 70)), (1, vR (some 4)), (2, vI x2)]) (j := 3) dX4_write_124 rfl (by decide) rfl rfl ?_
          refine st_goto (pc' := 104) dX4_write_127 (by decide) ?_
          refine WP_sub (L' := [(0, vR (some 70)), (1, vR (some 4)), (2, vI x2), (3, vI (x3 + 1))]) [1, 2, 3, 0] rfl ?_
          exact h
set_option maxRecDepth 20000 in
set_option maxHeartbeats 4000000 in
theorem B_X4_take_0 {k : Nat} {P : Option Nat} {I : Nat → Nat → Int32} {J : Nat → Nat → Int64}  {Q : Option AV → Mem → Prop} (hk : 1 ≤ k) (h : gi I 1 1 ≤ 1600 ∧ (Q (some (vI (byt I (gi I 70 3)))) (mem (P, some 5, some 22) (si I 70 3 ((gi I 70 3) + 1)) J))) : WP k LAY m_X4_take 0 [(0, vR (some 70)), (1, vR (some 1))] [] (mem (P, some 5, some 22) I J) Q := by
  refine st_aload_n (pc' := 1) dX4_take_0 rfl rfl (j := 1) rfl ?_
  refine st_aload_n (pc' := 2) dX4_take_1 rfl rfl (j := 0) rfl ?_
  refine G_X4_54_70 dX4_take_2 (pc' := 5) rfl rfl ?_
  obtain ⟨e1, h⟩ := h
  refine st_callV (pc' := 8) (kc := k - 1) (E' := LAY) (cal := m_X10_byteAt) (n := 1) (as := [vI (gi I 70 3)]) (S := []) dX4_take_5 rfl l_X4_72 k_X10_byteAt rfl L_1 c_X10 rfl rfl (Nat.le_of_ble_eq_true rfl) (by omega) ⟨Nat.le_refl _, Nat.le_refl _, Nat.le_refl _, Nat.le_refl _⟩ (Q1 := fun r M' => WP k LAY m_X4_take 8 [(0, vR (some 70)), (1, vR (some 1))] (r.toList ++ []) M' Q) (S_X10_byteAt (by omega) (gi_in _ _ _) e1 ?_) (fun r M' q => q)
  change WP _ LAY m_X4_take 8 [(0, vR (some 70)), (1, vR (some 1))] [vI (byt I (gi I 70 3))] (mem (P, some 5, some 22) I J) Q
  refine st_istore_n (pc' := 9) (L' := [(2, vI (byt I (gi I 70 3))), (0, vR (some 70)), (1, vR (some 1))]) dX4_take_8 rfl rfl (by decide) rfl ?_
  refine st_aload_n (pc' := 10) dX4_take_9 rfl rfl (j := 1) rfl ?_
  refine st_dup (pc' := 11) dX4_take_10 rfl rfl ?_
  refine G_X4_54_70 dX4_take_11 (pc' := 14) rfl rfl ?_
  refine st_iconst (pc' := 15) dX4_take_14 rfl ?_
  refine st_iadd (pc' := 16) dX4_take_15 rfl ?_
  refine P_X4_54_70 dX4_take_16 (pc' := 19) rfl rfl ?_
  refine st_iload_n (pc' := 20) dX4_take_19 rfl rfl (j := 0) rfl ?_
  exact st_iret (ty := .int) dX4_take_20 rfl rfl rfl h
set_option maxRecDepth 20000 in
set_option maxHeartbeats 4000000 in
theorem B_X4_takeTwo_0 {k : Nat} {P : Option Nat} {I : Nat → Nat → Int32} {J : Nat → Nat → Int64}  {Q : Option AV → Mem → Prop} (hk : 2 ≤ k) (h : gi I 1 1 ≤ 1600 ∧ (gi (si I 70 3 ((gi I 70 3) + 1)) 1 1 ≤ 1600 ∧ (∀ y3 : Int, y3 = (byt (si I 70 3 ((gi I 70 3) + 1)) (gi (si I 70 3 ((gi I 70 3) + 1)) 70 3)) → (((byt I (gi I 70 3)) = (-1) → (Q (some (vI (-1))) (mem (P, some 5, some 22) (si (si I 70 3 ((gi I 70 3) + 1)) 70 3 ((gi (si I 70 3 ((gi I 70 3) + 1)) 70 3) + 1)) J))) ∧ (¬ (byt I (gi I 70 3)) = (-1) → ((¬ y3 = (-1) → (Q (some (vI (((byt I (gi I 70 3)) * 256) + y3))) (mem (P, some 5, some 22) (si (si I 70 3 ((gi I 70 3) + 1)) 70 3 ((gi (si I 70 3 ((gi I 70 3) + 1)) 70 3) + 1)) J))) ∧ (y3 = (-1) → (Q (some (vI (-1))) (mem (P, some 5, some 22) (si (si I 70 3 ((gi I 70 3) + 1)) 70 3 ((gi (si I 70 3 ((gi I 70 3) + 1)) 70 3) + 1)) J))))))))) : WP k LAY m_X4_takeTwo 0 [(0, vR (some 70)), (1, vR (some 1))] [] (mem (P, some 5, some 22) I J) Q := by
  refine st_aload_n (pc' := 1) dX4_takeTwo_0 rfl rfl (j := 0) rfl ?_
  refine st_aload_n (pc' := 2) dX4_takeTwo_1 rfl rfl (j := 1) rfl ?_
  refine st_callV (pc' := 5) (kc := k - 1) (E' := LAY) (cal := m_X4_take) (n := 1) (as := [vR (some 1)]) (S := []) dX4_takeTwo_2 rfl l_X4_79 k_X4_take rfl L_70 c_X4 rfl rfl (Nat.le_of_ble_eq_true rfl) (by omega) ⟨Nat.le_refl _, Nat.le_refl _, Nat.le_refl _, Nat.le_refl _⟩ (Q1 := fun r M' => WP k LAY m_X4_takeTwo 5 [(0, vR (some 70)), (1, vR (some 1))] (r.toList ++ []) M' Q) (WPm.of k_X4_take.1 (Nat.le_of_ble_eq_true rfl) (B_X4_take_0 (by omega) ?_)) (fun r M' q => q)
  obtain ⟨e1, h⟩ := h
  refine ⟨e1, ?_⟩
  change WP _ LAY m_X4_takeTwo 5 [(0, vR (some 70)), (1, vR (some 1))] [vI (byt I (gi I 70 3))] (mem (P, some 5, some 22) (si I 70 3 ((gi I 70 3) + 1)) J) Q
  refine st_istore_n (pc' := 6) (L' := [(2, vI (byt I (gi I 70 3))), (0, vR (some 70)), (1, vR (some 1))]) dX4_takeTwo_5 rfl rfl (by decide) rfl ?_
  refine st_aload_n (pc' := 7) dX4_takeTwo_6 rfl rfl (j := 1) rfl ?_
  refine st_aload_n (pc' := 8) dX4_takeTwo_7 rfl rfl (j := 2) rfl ?_
  refine st_callV (pc' := 11) (kc := k - 1) (E' := LAY) (cal := m_X4_take) (n := 1) (as := [vR (some 1)]) (S := []) dX4_takeTwo_8 rfl l_X4_79 k_X4_take rfl L_70 c_X4 rfl rfl (Nat.le_of_ble_eq_true rfl) (by omega) ⟨Nat.le_refl _, Nat.le_refl _, Nat.le_refl _, Nat.le_refl _⟩ (Q1 := fun r M' => WP k LAY m_X4_takeTwo 11 [(2, vI (byt I (gi I 70 3))), (0, vR (some 70)), (1, vR (some 1))] (r.toList ++ []) M' Q) (WPm.of k_X4_take.1 (Nat.le_of_ble_eq_true rfl) (B_X4_take_0 (by omega) ?_)) (fun r M' q => q)
  obtain ⟨e2, h⟩ := h
  refine ⟨e2, ?_⟩
  change WP _ LAY m_X4_takeTwo 11 [(2, vI (byt I (gi I 70 3))), (0, vR (some 70)), (1, vR (some 1))] [vI (byt (si I 70 3 ((gi I 70 3) + 1)) (gi (si I 70 3 ((gi I 70 3) + 1)) 70 3))] (mem (P, some 5, some 22) (si (si I 70 3 ((gi I 70 3) + 1)) 70 3 ((gi (si I 70 3 ((gi I 70 3) + 1)) 70 3) + 1)) J) Q
  obtain ⟨y3, hy3⟩ : ∃ y : Int, y = (byt (si I 70 3 ((gi I 70 3) + 1)) (gi (si I 70 3 ((gi I 70 3) + 1)) 70 3)) := ⟨_, rfl⟩
  rw [← hy3]
  replace h := h y3 hy3
  refine st_istore_n (pc' := 12) (L' := [(3, vI y3), (2, vI (byt I (gi I 70 3))), (0, vR (some 70)), (1, vR (some 1))]) dX4_takeTwo_11 rfl rfl (by decide) rfl ?_
  refine st_iload_n (pc' := 13) dX4_takeTwo_12 rfl rfl (j := 1) rfl ?_
  refine st_iconst (pc' := 14) dX4_takeTwo_13 rfl ?_
  refine st_icmp_eq (tg := 22) (pc' := 17) dX4_takeTwo_14 (by decide) rfl (byt_in _ _) (by decide) (fun c => ?_) (fun c => ?_)
  · replace h := h.1 c
    refine st_iconst (pc' := 23) dX4_takeTwo_22 rfl ?_
    refine st_goto (pc' := 33) dX4_takeTwo_23 (by decide) ?_
    exact st_iret (ty := .int) dX4_takeTwo_33 rfl rfl rfl h
  · replace h := h.2 c
    refine st_iload_n (pc' := 18) dX4_takeTwo_17 rfl rfl (j := 0) rfl ?_
    refine st_iconst (pc' := 19) dX4_takeTwo_18 rfl ?_
    refine st_icmp_ne (tg := 26) (pc' := 22) dX4_takeTwo_19 (by decide) rfl (by rw [hy3]; exact (byt_in _ _)) (by decide) (fun c => ?_) (fun c => ?_)
    · replace h := h.1 c
      refine st_iload_n (pc' := 27) dX4_takeTwo_26 rfl rfl (j := 1) rfl ?_
      refine st_sipush (pc' := 30) dX4_takeTwo_27 rfl (by decide) ?_
      refine st_imul (pc' := 31) dX4_takeTwo_30 rfl ?_
      refine st_iload_n (pc' := 32) dX4_takeTwo_31 rfl rfl (j := 0) rfl ?_
      refine st_iadd (pc' := 33) dX4_takeTwo_32 rfl ?_
      exact st_iret (ty := .int) dX4_takeTwo_33 rfl rfl rfl h
    · replace h := h.2 c
      refine st_iconst (pc' := 23) dX4_takeTwo_22 rfl ?_
      refine st_goto (pc' := 33) dX4_takeTwo_23 (by decide) ?_
      exact st_iret (ty := .int) dX4_takeTwo_33 rfl rfl rfl h
set_option maxRecDepth 20000 in
set_option maxHeartbeats 4000000 in
theorem B_X4_readOne_0 {k : Nat} {P : Option Nat} {I : Nat → Nat → Int32} {J : Nat → Nat → Int64} {x3 : Int} {Q : Option AV → Mem → Prop} (hk : 2 ≤ k) (h : gi I 1 1 ≤ 1600 ∧ (WPm (k - 1) LAY m_X4_takeTwo [vR (some 70), vR (some 1)] (mem (P, some 5, some 22) (si I 70 3 ((gi I 70 3) + 1)) J) (retI (fun v2 I3 J4 => WPm (k - 1) LAY m_X4_takeTwo [vR (some 70), vR (some 1)] (mem (P, some 5, some 22) I3 J4) (retI (fun v5 I6 J7 => gi I6 1 1 ≤ 1600 ∧ (WPm (k - 1) LAY m_X4_takeTwo [vR (some 70), vR (some 1)] (mem (P, some 5, some 22) (si I6 70 3 ((gi I6 70 3) + 1)) J7) (retI (fun v9 I10 J11 => gi I10 1 1 ≤ 1600 ∧ (inR ((gi I10 6 3) - 1) ∧ ((¬ (0 ≤ (byt I (gi I 70 3)) ∧ (byt I (gi I 70 3)) ≤ ((gi I10 6 3) - 1)) → (Q (some (vI 0)) (mem (P, some 5, some 22) (si I10 70 3 ((gi I10 70 3) + 1)) J11))) ∧ ((0 ≤ (byt I (gi I 70 3)) ∧ (byt I (gi I 70 3)) ≤ ((gi I10 6 3) - 1)) → (((0 ≤ (byt I10 (gi I10 70 3)) ∧ (byt I10 (gi I10 70 3)) ≤ 8) → (inR v2 ∧ (inR ((shl32 1 (gi I 6 1)) - 1) ∧ ((¬ (0 ≤ v2 ∧ v2 ≤ ((shl32 1 (gi I 6 1)) - 1)) → (Q (some (vI 0)) (mem (P, some 5, some 22) (si I10 70 3 ((gi I10 70 3) + 1)) J11))) ∧ ((0 ≤ v2 ∧ v2 ≤ ((shl32 1 (gi I 6 1)) - 1)) → (inR v5 ∧ ((¬ (0 ≤ v5 ∧ v5 ≤ ((shl32 1 (gi I 6 1)) - 1)) → (Q (some (vI 0)) (mem (P, some 5, some 22) (si I10 70 3 ((gi I10 70 3) + 1)) J11))) ∧ ((0 ≤ v5 ∧ v5 ≤ ((shl32 1 (gi I 6 1)) - 1)) → (((and32 v2 v5) = 0 → ((0 ≤ (x3 + 0) ∧ (x3 + 0) < 87) ∧ ((0 ≤ (x3 + 1) ∧ (x3 + 1) < 87) ∧ ((0 ≤ (x3 + 2) ∧ (x3 + 2) < 87) ∧ ((0 ≤ (x3 + 3) ∧ (x3 + 3) < 87) ∧ ((0 ≤ (x3 + 4) ∧ (x3 + 4) < 87) ∧ ((0 ≤ (x3 + 5) ∧ (x3 + 5) < 87) ∧ (WP k LAY m_X4_readOne 191 [(0, vR (some 70)), (1, vR (some 1)), (3, vI x3), (4, vI (gi I 6 1)), (8, vI ((byt I6 (gi I6 70 3)) - 1)), (9, vI v9), (10, vI (byt I10 (gi I10 70 3))), (11, vI (or32 v2 v5)), (12, vI 0), (13, vI 0)] [] (mem (P, some 5, some 22) (si (si (si (si (si (si (si I10 70 3 ((gi I10 70 3) + 1)) 72 (x3 + 0).toNat (byt I (gi I 70 3))) 72 (x3 + 1).toNat v2) 72 (x3 + 2).toNat v5) 72 (x3 + 3).toNat ((byt I6 (gi I6 70 3)) - 1)) 72 (x3 + 4).toNat v9) 72 (x3 + 5).toNat (byt I10 (gi I10 70 3))) J11) Q)))))))) ∧ (¬ (and32 v2 v5) = 0 → (Q (some (vI 0)) (mem (P, some 5, some 22) (si I10 70 3 ((gi I10 70 3) + 1)) J11)))))))))))) ∧ (¬ (0 ≤ (byt I10 (gi I10 70 3)) ∧ (byt I10 (gi I10 70 3)) ≤ 8) → (Q (some (vI 0)) (mem (P, some 5, some 22) (si I10 70 3 ((gi I10 70 3) + 1)) J11)))))))) (P, some 5, some 22)))) (P, some 5, some 22))) (P, some 5, some 22)))) : WP k LAY m_X4_readOne 0 [(0, vR (some 70)), (1, vR (some 1)), (2, vR (some 5)), (3, vI x3)] [] (mem (P, some 5, some 22) I J) Q := by
  refine st_aload_n (pc' := 1) dX4_readOne_0 rfl rfl (j := 2) rfl ?_
  refine G_X4_33_5 dX4_readOne_1 (pc' := 4) rfl rfl ?_
  refine st_iconst (pc' := 5) dX4_readOne_4 rfl ?_
  refine st_iaload (pc' := 6) (v := (gi I 6 1)) dX4_readOne_5 rfl L_6 (by decide) (by decide) (show gi I 6 1 = (gi I 6 1) from rfl) ?_
  refine st_istore (pc' := 8) (L' := [(4, vI (gi I 6 1)), (0, vR (some 70)), (1, vR (some 1)), (2, vR (some 5)), (3, vI x3)]) dX4_readOne_6 rfl (by decide) rfl ?_
  refine st_aload_n (pc' := 9) dX4_readOne_8 rfl rfl (j := 1) rfl ?_
  refine st_aload_n (pc' := 10) dX4_readOne_9 rfl rfl (j := 2) rfl ?_
  refine st_callV (pc' := 13) (kc := k - 1) (E' := LAY) (cal := m_X4_take) (n := 1) (as := [vR (some 1)]) (S := []) dX4_readOne_10 rfl l_X4_79 k_X4_take rfl L_70 c_X4 rfl rfl (Nat.le_of_ble_eq_true rfl) (by omega) ⟨Nat.le_refl _, Nat.le_refl _, Nat.le_refl _, Nat.le_refl _⟩ (Q1 := fun r M' => WP k LAY m_X4_readOne 13 [(4, vI (gi I 6 1)), (0, vR (some 70)), (1, vR (some 1)), (2, vR (some 5)), (3, vI x3)] (r.toList ++ []) M' Q) (WPm.of k_X4_take.1 (Nat.le_of_ble_eq_true rfl) (B_X4_take_0 (by omega) ?_)) (fun r M' q => q)
  obtain ⟨e1, h⟩ := h
  refine ⟨e1, ?_⟩
  change WP _ LAY m_X4_readOne 13 [(4, vI (gi I 6 1)), (0, vR (some 70)), (1, vR (some 1)), (2, vR (some 5)), (3, vI x3)] [vI (byt I (gi I 70 3))] (mem (P, some 5, some 22) (si I 70 3 ((gi I 70 3) + 1)) J) Q
  refine st_istore (pc' := 15) (L' := [(5, vI (byt I (gi I 70 3))), (4, vI (gi I 6 1)), (0, vR (some 70)), (1, vR (some 1)), (2, vR (some 5)), (3, vI x3)]) dX4_readOne_13 rfl (by decide) rfl ?_
  refine st_aload_n (pc' := 16) dX4_readOne_15 rfl rfl (j := 2) rfl ?_
  refine st_aload_n (pc' := 17) dX4_readOne_16 rfl rfl (j := 3) rfl ?_
  refine st_callV (pc' := 20) (kc := k - 1) (E' := LAY) (cal := m_X4_takeTwo) (n := 1) (as := [vR (some 1)]) (S := []) dX4_readOne_17 rfl l_X4_57 k_X4_takeTwo rfl L_70 c_X4 rfl rfl (Nat.le_of_ble_eq_true rfl) (by omega) ⟨Nat.le_refl _, Nat.le_refl _, Nat.le_refl _, Nat.le_refl _⟩ h (fun r M' q => ?_)
  obtain ⟨v2, I3, J4, rfl, rfl, h⟩ := q
  change WP _ LAY m_X4_readOne 20 [(5, vI (byt I (gi I 70 3))), (4, vI (gi I 6 1)), (0, vR (some 70)), (1, vR (some 1)), (2, vR (some 5)), (3, vI x3)] [vI v2] (mem (P, some 5, some 22) I3 J4) Q
  refine st_istore (pc' := 22) (L' := [(6, vI v2), (5, vI (byt I (gi I 70 3))), (4, vI (gi I 6 1)), (0, vR (some 70)), (1, vR (some 1)), (2, vR (some 5)), (3, vI x3)]) dX4_readOne_20 rfl (by decide) rfl ?_
  refine st_aload_n (pc' := 23) dX4_readOne_22 rfl rfl (j := 3) rfl ?_
  refine st_aload_n (pc' := 24) dX4_readOne_23 rfl rfl (j := 4) rfl ?_
  refine st_callV (pc' := 27) (kc := k - 1) (E' := LAY) (cal := m_X4_takeTwo) (n := 1) (as := [vR (some 1)]) (S := []) dX4_readOne_24 rfl l_X4_57 k_X4_takeTwo rfl L_70 c_X4 rfl rfl (Nat.le_of_ble_eq_true rfl) (by omega) ⟨Nat.le_refl _, Nat.le_refl _, Nat.le_refl _, Nat.le_refl _⟩ h (fun r M' q => ?_)
  obtain ⟨v5, I6, J7, rfl, rfl, h⟩ := q
  change WP _ LAY m_X4_readOne 27 [(6, vI v2), (5, vI (byt I (gi I 70 3))), (4, vI (gi I 6 1)), (0, vR (some 70)), (1, vR (some 1)), (2, vR (some 5)), (3, vI x3)] [vI v5] (mem (P, some 5, some 22) I6 J7) Q
  refine st_istore (pc' := 29) (L' := [(7, vI v5), (6, vI v2), (5, vI (byt I (gi I 70 3))), (4, vI (gi I 6 1)), (0, vR (some 70)), (1, vR (some 1)), (2, vR (some 5)), (3, vI x3)]) dX4_readOne_27 rfl (by decide) rfl ?_
  refine st_aload_n (pc' := 30) dX4_readOne_29 rfl rfl (j := 4) rfl ?_
  refine st_aload_n (pc' := 31) dX4_readOne_30 rfl rfl (j := 5) rfl ?_
  refine st_callV (pc' := 34) (kc := k - 1) (E' := LAY) (cal := m_X4_take) (n := 1) (as := [vR (some 1)]) (S := []) dX4_readOne_31 rfl l_X4_79 k_X4_take rfl L_70 c_X4 rfl rfl (Nat.le_of_ble_eq_true rfl) (by omega) ⟨Nat.le_refl _, Nat.le_refl _, Nat.le_refl _, Nat.le_refl _⟩ (Q1 := fun r M' => WP k LAY m_X4_readOne 34 [(7, vI v5), (6, vI v2), (5, vI (byt I (gi I 70 3))), (4, vI (gi I 6 1)), (0, vR (some 70)), (1, vR (some 1)), (2, vR (some 5)), (3, vI x3)] (r.toList ++ []) M' Q) (WPm.of k_X4_take.1 (Nat.le_of_ble_eq_true rfl) (B_X4_take_0 (by omega) ?_)) (fun r M' q => q)
  obtain ⟨e8, h⟩ := h
  refine ⟨e8, ?_⟩
  change WP _ LAY m_X4_readOne 34 [(7, vI v5), (6, vI v2), (5, vI (byt I (gi I 70 3))), (4, vI (gi I 6 1)), (0, vR (some 70)), (1, vR (some 1)), (2, vR (some 5)), (3, vI x3)] [vI (byt I6 (gi I6 70 3))] (mem (P, some 5, some 22) (si I6 70 3 ((gi I6 70 3) + 1)) J7) Q
  refine st_iconst (pc' := 35) dX4_readOne_34 rfl ?_
  refine st_isub (pc' := 36) dX4_readOne_35 rfl ?_
  refine st_istore (pc' := 38) (L' := [(8, vI ((byt I6 (gi I6 70 3)) - 1)), (7, vI v5), (6, vI v2), (5, vI (byt I (gi I 70 3))), (4, vI (gi I 6 1)), (0, vR (some 70)), (1, vR (some 1)), (2, vR (some 5)), (3, vI x3)]) dX4_readOne_36 rfl (by decide) rfl ?_
  refine st_aload_n (pc' := 39) dX4_readOne_38 rfl rfl (j := 5) rfl ?_
  refine st_aload_n (pc' := 40) dX4_readOne_39 rfl rfl (j := 6) rfl ?_
  refine st_callV (pc' := 43) (kc := k - 1) (E' := LAY) (cal := m_X4_takeTwo) (n := 1) (as := [vR (some 1)]) (S := []) dX4_readOne_40 rfl l_X4_57 k_X4_takeTwo rfl L_70 c_X4 rfl rfl (Nat.le_of_ble_eq_true rfl) (by omega) ⟨Nat.le_refl _, Nat.le_refl _, Nat.le_refl _, Nat.le_refl _⟩ h (fun r M' q => ?_)
  obtain ⟨v9, I10, J11, rfl, rfl, h⟩ := q
  change WP _ LAY m_X4_readOne 43 [(8, vI ((byt I6 (gi I6 70 3)) - 1)), (7, vI v5), (6, vI v2), (5, vI (byt I (gi I 70 3))), (4, vI (gi I 6 1)), (0, vR (some 70)), (1, vR (some 1)), (2, vR (some 5)), (3, vI x3)] [vI v9] (mem (P, some 5, some 22) I10 J11) Q
  refine st_istore (pc' := 45) (L' := [(9, vI v9), (8, vI ((byt I6 (gi I6 70 3)) - 1)), (7, vI v5), (6, vI v2), (5, vI (byt I (gi I 70 3))), (4, vI (gi I 6 1)), (0, vR (some 70)), (1, vR (some 1)), (2, vR (some 5)), (3, vI x3)]) dX4_readOne_43 rfl (by decide) rfl ?_
  refine st_aload_n (pc' := 46) dX4_readOne_45 rfl rfl (j := 6) rfl ?_
  refine st_aload_n (pc' := 47) dX4_readOne_46 rfl rfl (j := 7) rfl ?_
  refine st_callV (pc' := 50) (kc := k - 1) (E' := LAY) (cal := m_X4_take) (n := 1) (as := [vR (some 1)]) (S := []) dX4_readOne_47 rfl l_X4_79 k_X4_take rfl L_70 c_X4 rfl rfl (Nat.le_of_ble_eq_true rfl) (by omega) ⟨Nat.le_refl _, Nat.le_refl _, Nat.le_refl _, Nat.le_refl _⟩ (Q1 := fun r M' => WP k LAY m_X4_readOne 50 [(9, vI v9), (8, vI ((byt I6 (gi I6 70 3)) - 1)), (7, vI v5), (6, vI v2), (5, vI (byt I (gi I 70 3))), (4, vI (gi I 6 1)), (0, vR (some 70)), (1, vR (some 1)), (2, vR (some 5)), (3, vI x3)] (r.toList ++ []) M' Q) (WPm.of k_X4_take.1 (Nat.le_of_ble_eq_true rfl) (B_X4_take_0 (by omega) ?_)) (fun r M' q => q)
  obtain ⟨e12, h⟩ := h
  refine ⟨e12, ?_⟩
  change WP _ LAY m_X4_readOne 50 [(9, vI v9), (8, vI ((byt I6 (gi I6 70 3)) - 1)), (7, vI v5), (6, vI v2), (5, vI (byt I (gi I 70 3))), (4, vI (gi I 6 1)), (0, vR (some 70)), (1, vR (some 1)), (2, vR (some 5)), (3, vI x3)] [vI (byt I10 (gi I10 70 3))] (mem (P, some 5, some 22) (si I10 70 3 ((gi I10 70 3) + 1)) J11) Q
  refine st_istore (pc' := 52) (L' := [(10, vI (byt I10 (gi I10 70 3))), (9, vI v9), (8, vI ((byt I6 (gi I6 70 3)) - 1)), (7, vI v5), (6, vI v2), (5, vI (byt I (gi I 70 3))), (4, vI (gi I 6 1)), (0, vR (some 70)), (1, vR (some 1)), (2, vR (some 5)), (3, vI x3)]) dX4_readOne_50 rfl (by decide) rfl ?_
  refine st_iload (pc' := 54) dX4_readOne_52 rfl (j := 5) rfl ?_
  refine st_aload_n (pc' := 55) dX4_readOne_54 rfl rfl (j := 9) rfl ?_
  refine G_X4_33_5 dX4_readOne_55 (pc' := 58) rfl rfl ?_
  refine st_iconst (pc' := 59) dX4_readOne_58 rfl ?_
  refine st_iaload (pc' := 60) (v := (gi I10 6 3)) dX4_readOne_59 rfl L_6 (by decide) (by decide) (show gi (si I10 70 3 ((gi I10 70 3) + 1)) 6 3 = (gi I10 6 3) from (gi_cell _ _ _ _ (by decide))) ?_
  refine st_iconst (pc' := 61) dX4_readOne_60 rfl ?_
  refine st_isub (pc' := 62) dX4_readOne_61 rfl ?_
  obtain ⟨e13, h⟩ := h
  refine st_callS (pc' := 65) (kc := k - 1) (E' := LAY) (cal := m_X4_within) (n := 2) (as := [vI (byt I (gi I 70 3)), vI ((gi I10 6 3) - 1)]) (S := []) dX4_readOne_62 rfl l_X4_61 k_X4_within rfl rfl (Nat.le_of_ble_eq_true rfl) (by omega) ⟨Nat.le_refl _, Nat.le_refl _, Nat.le_refl _, Nat.le_refl _⟩ (Q1 := fun r M' => WP k LAY m_X4_readOne 65 [(10, vI (byt I10 (gi I10 70 3))), (9, vI v9), (8, vI ((byt I6 (gi I6 70 3)) - 1)), (7, vI v5), (6, vI v2), (5, vI (byt I (gi I 70 3))), (4, vI (gi I 6 1)), (0, vR (some 70)), (1, vR (some 1)), (2, vR (some 5)), (3, vI x3)] (r.toList ++ []) M' Q) (S_X4_within (by omega) (byt_in _ _) e13 ?_) (fun r M' q => q)
  change WP _ LAY m_X4_readOne 65 [(10, vI (byt I10 (gi I10 70 3))), (9, vI v9), (8, vI ((byt I6 (gi I6 70 3)) - 1)), (7, vI v5), (6, vI v2), (5, vI (byt I (gi I 70 3))), (4, vI (gi I 6 1)), (0, vR (some 70)), (1, vR (some 1)), (2, vR (some 5)), (3, vI x3)] [vI (b2i (0 ≤ (byt I (gi I 70 3)) ∧ (byt I (gi I 70 3)) ≤ ((gi I10 6 3) - 1)))] (mem (P, some 5, some 22) (si I10 70 3 ((gi I10 70 3) + 1)) J11) Q
  refine st_if_eq (tg := 78) (pc' := 68) dX4_readOne_65 (by decide) rfl (b2i_in _) (fun c => ?_) (fun c => ?_)
  · replace h := h.1 (b2i_f.mp c)
    refine st_iconst (pc' := 79) dX4_readOne_78 rfl ?_
    exact st_iret (ty := .boolean) dX4_readOne_79 rfl (by decide) rfl h
  · replace h := h.2 (b2i_t.mp c)
    refine st_iload (pc' := 70) dX4_readOne_68 rfl (j := 0) rfl ?_
    refine st_bipush (pc' := 72) dX4_readOne_70 rfl (by decide) ?_
    refine st_callS (pc' := 75) (kc := k - 1) (E' := LAY) (cal := m_X4_within) (n := 2) (as := [vI (byt I10 (gi I10 70 3)), vI 8]) (S := []) dX4_readOne_72 rfl l_X4_61 k_X4_within rfl rfl (Nat.le_of_ble_eq_true rfl) (by omega) ⟨Nat.le_refl _, Nat.le_refl _, Nat.le_refl _, Nat.le_refl _⟩ (Q1 := fun r M' => WP k LAY m_X4_readOne 75 [(10, vI (byt I10 (gi I10 70 3))), (9, vI v9), (8, vI ((byt I6 (gi I6 70 3)) - 1)), (7, vI v5), (6, vI v2), (5, vI (byt I (gi I 70 3))), (4, vI (gi I 6 1)), (0, vR (some 70)), (1, vR (some 1)), (2, vR (some 5)), (3, vI x3)] (r.toList ++ []) M' Q) (S_X4_within (by omega) (byt_in _ _) (by decide) ?_) (fun r M' q => q)
    change WP _ LAY m_X4_readOne 75 [(10, vI (byt I10 (gi I10 70 3))), (9, vI v9), (8, vI ((byt I6 (gi I6 70 3)) - 1)), (7, vI v5), (6, vI v2), (5, vI (byt I (gi I 70 3))), (4, vI (gi I 6 1)), (0, vR (some 70)), (1, vR (some 1)), (2, vR (some 5)), (3, vI x3)] [vI (b2i (0 ≤ (byt I10 (gi I10 70 3)) ∧ (byt I10 (gi I10 70 3)) ≤ 8))] (mem (P, some 5, some 22) (si I10 70 3 ((gi I10 70 3) + 1)) J11) Q
    refine st_if_ne (tg := 80) (pc' := 78) dX4_readOne_75 (by decide) rfl (b2i_in _) (fun c => ?_) (fun c => ?_)
    · replace h := h.1 (b2i_t.mp c)
      refine st_iload (pc' := 82) dX4_readOne_80 rfl (j := 4) rfl ?_
      refine st_iconst (pc' := 83) dX4_readOne_82 rfl ?_
      refine st_iload (pc' := 85) dX4_readOne_83 rfl (j := 6) rfl ?_
      refine st_ishl (pc' := 86) (z := (shl32 1 (gi I 6 1))) dX4_readOne_85 rfl rfl ?_
      refine st_iconst (pc' := 87) dX4_readOne_86 rfl ?_
      refine st_isub (pc' := 88) dX4_readOne_87 rfl ?_
      obtain ⟨e14, h⟩ := h
      obtain ⟨e15, h⟩ := h
      refine st_callS (pc' := 91) (kc := k - 1) (E' := LAY) (cal := m_X4_within) (n := 2) (as := [vI v2, vI ((shl32 1 (gi I 6 1)) - 1)]) (S := []) dX4_readOne_88 rfl l_X4_61 k_X4_within rfl rfl (Nat.le_of_ble_eq_true rfl) (by omega) ⟨Nat.le_refl _, Nat.le_refl _, Nat.le_refl _, Nat.le_refl _⟩ (Q1 := fun r M' => WP k LAY m_X4_readOne 91 [(10, vI (byt I10 (gi I10 70 3))), (9, vI v9), (8, vI ((byt I6 (gi I6 70 3)) - 1)), (7, vI v5), (6, vI v2), (5, vI (byt I (gi I 70 3))), (4, vI (gi I 6 1)), (0, vR (some 70)), (1, vR (some 1)), (2, vR (some 5)), (3, vI x3)] (r.toList ++ []) M' Q) (S_X4_within (by omega) e14 e15 ?_) (fun r M' q => q)
      change WP _ LAY m_X4_readOne 91 [(10, vI (byt I10 (gi I10 70 3))), (9, vI v9), (8, vI ((byt I6 (gi I6 70 3)) - 1)), (7, vI v5), (6, vI v2), (5, vI (byt I (gi I 70 3))), (4, vI (gi I 6 1)), (0, vR (some 70)), (1, vR (some 1)), (2, vR (some 5)), (3, vI x3)] [vI (b2i (0 ≤ v2 ∧ v2 ≤ ((shl32 1 (gi I 6 1)) - 1)))] (mem (P, some 5, some 22) (si I10 70 3 ((gi I10 70 3) + 1)) J11) Q
      refine st_if_eq (tg := 116) (pc' := 94) dX4_readOne_91 (by decide) rfl (b2i_in _) (fun c => ?_) (fun c => ?_)
      · replace h := h.1 (b2i_f.mp c)
        refine st_iconst (pc' := 117) dX4_readOne_116 rfl ?_
        exact st_iret (ty := .boolean) dX4_readOne_117 rfl (by decide) rfl h
      · replace h := h.2 (b2i_t.mp c)
        refine st_iload (pc' := 96) dX4_readOne_94 rfl (j := 3) rfl ?_
        refine st_iconst (pc' := 97) dX4_readOne_96 rfl ?_
        refine st_iload (pc' := 99) dX4_readOne_97 rfl (j := 6) rfl ?_
        refine st_ishl (pc' := 100) (z := (shl32 1 (gi I 6 1))) dX4_readOne_99 rfl rfl ?_
        refine st_iconst (pc' := 101) dX4_readOne_100 rfl ?_
        refine st_isub (pc' := 102) dX4_readOne_101 rfl ?_
        obtain ⟨e16, h⟩ := h
        refine st_callS (pc' := 105) (kc := k - 1) (E' := LAY) (cal := m_X4_within) (n := 2) (as := [vI v5, vI ((shl32 1 (gi I 6 1)) - 1)]) (S := []) dX4_readOne_102 rfl l_X4_61 k_X4_within rfl rfl (Nat.le_of_ble_eq_true rfl) (by omega) ⟨Nat.le_refl _, Nat.le_refl _, Nat.le_refl _, Nat.le_refl _⟩ (Q1 := fun r M' => WP k LAY m_X4_readOne 105 [(10, vI (byt I10 (gi I10 70 3))), (9, vI v9), (8, vI ((byt I6 (gi I6 70 3)) - 1)), (7, vI v5), (6, vI v2), (5, vI (byt I (gi I 70 3))), (4, vI (gi I 6 1)), (0, vR (some 70)), (1, vR (some 1)), (2, vR (some 5)), (3, vI x3)] (r.toList ++ []) M' Q) (S_X4_within (by omega) e16 e15 ?_) (fun r M' q => q)
        change WP _ LAY m_X4_readOne 105 [(10, vI (byt I10 (gi I10 70 3))), (9, vI v9), (8, vI ((byt I6 (gi I6 70 3)) - 1)), (7, vI v5), (6, vI v2), (5, vI (byt I (gi I 70 3))), (4, vI (gi I 6 1)), (0, vR (some 70)), (1, vR (some 1)), (2, vR (some 5)), (3, vI x3)] [vI (b2i (0 ≤ v5 ∧ v5 ≤ ((shl32 1 (gi I 6 1)) - 1)))] (mem (P, some 5, some 22) (si I10 70 3 ((gi I10 70 3) + 1)) J11) Q
        refine st_if_eq (tg := 116) (pc' := 108) dX4_readOne_105 (by decide) rfl (b2i_in _) (fun c => ?_) (fun c => ?_)
        · replace h := h.1 (b2i_f.mp c)
          refine st_iconst (pc' := 117) dX4_readOne_116 rfl ?_
          exact st_iret (ty := .boolean) dX4_readOne_117 rfl (by decide) rfl h
        · replace h := h.2 (b2i_t.mp c)
          refine st_iload (pc' := 110) dX4_readOne_108 rfl (j := 4) rfl ?_
          refine st_iload (pc' := 112) dX4_readOne_110 rfl (j := 3) rfl ?_
          refine st_iand (pc' := 113) (z := (and32 v2 v5)) dX4_readOne_112 rfl rfl ?_
          refine st_if_eq (tg := 118) (pc' := 116) dX4_readOne_113 (by decide) rfl (and32_in _ _) (fun c => ?_) (fun c => ?_)
          · replace h := h.1 c
            refine st_aload_n (pc' := 119) dX4_readOne_118 rfl rfl (j := 7) rfl ?_
            refine G_X4_15_70 dX4_readOne_119 (pc' := 122) rfl rfl ?_
            refine st_iload_n (pc' := 123) dX4_readOne_122 rfl rfl (j := 10) rfl ?_
            refine st_iconst (pc' := 124) dX4_readOne_123 rfl ?_
            refine st_iadd (pc' := 125) dX4_readOne_124 rfl ?_
            refine st_iload (pc' := 127) dX4_readOne_125 rfl (j := 5) rfl ?_
            obtain ⟨e17, h⟩ := h
            refine st_iastore (pc' := 128) (M' := (mem (P, some 5, some 22) (si (si I10 70 3 ((gi I10 70 3) + 1)) 72 (x3 + 0).toNat (byt I (gi I 70 3))) J11)) dX4_readOne_127 rfl L_72 (by decide) e17 rfl ?_
            refine st_aload_n (pc' := 129) dX4_readOne_128 rfl rfl (j := 7) rfl ?_
            refine G_X4_15_70 dX4_readOne_129 (pc' := 132) rfl rfl ?_
            refine st_iload_n (pc' := 133) dX4_readOne_132 rfl rfl (j := 10) rfl ?_
            refine st_iconst (pc' := 134) dX4_readOne_133 rfl ?_
            refine st_iadd (pc' := 135) dX4_readOne_134 rfl ?_
            refine st_iload (pc' := 137) dX4_readOne_135 rfl (j := 4) rfl ?_
            obtain ⟨e18, h⟩ := h
            refine st_iastore (pc' := 138) (M' := (mem (P, some 5, some 22) (si (si (si I10 70 3 ((gi I10 70 3) + 1)) 72 (x3 + 0).toNat (byt I (gi I 70 3))) 72 (x3 + 1).toNat v2) J11)) dX4_readOne_137 rfl L_72 (by decide) e18 rfl ?_
            refine st_aload_n (pc' := 139) dX4_readOne_138 rfl rfl (j := 7) rfl ?_
            refine G_X4_15_70 dX4_readOne_139 (pc' := 142) rfl rfl ?_
            refine st_iload_n (pc' := 143) dX4_readOne_142 rfl rfl (j := 10) rfl ?_
            refine st_iconst (pc' := 144) dX4_readOne_143 rfl ?_
            refine st_iadd (pc' := 145) dX4_readOne_144 rfl ?_
            refine st_iload (pc' := 147) dX4_readOne_145 rfl (j := 3) rfl ?_
            obtain ⟨e19, h⟩ := h
            refine st_iastore (pc' := 148) (M' := (mem (P, some 5, some 22) (si (si (si (si I10 70 3 ((gi I10 70 3) + 1)) 72 (x3 + 0).toNat (byt I (gi I 70 3))) 72 (x3 + 1).toNat v2) 72 (x3 + 2).toNat v5) J11)) dX4_readOne_147 rfl L_72 (by decide) e19 rfl ?_
            refine st_aload_n (pc' := 149) dX4_readOne_148 rfl rfl (j := 7) rfl ?_
            refine G_X4_15_70 dX4_readOne_149 (pc' := 152) rfl rfl ?_
            refine st_iload_n (pc' := 153) dX4_readOne_152 rfl rfl (j := 10) rfl ?_
            refine st_iconst (pc' := 154) dX4_readOne_153 rfl ?_
            refine st_iadd (pc' := 155) dX4_readOne_154 rfl ?_
            refine st_iload (pc' := 157) dX4_readOne_155 rfl (j := 2) rfl ?_
            obtain ⟨e20, h⟩ := h
            refine st_iastore (pc' := 158) (M' := (mem (P, some 5, some 22) (si (si (si (si (si I10 70 3 ((gi I10 70 3) + 1)) 72 (x3 + 0).toNat (byt I (gi I 70 3))) 72 (x3 + 1).toNat v2) 72 (x3 + 2).toNat v5) 72 (x3 + 3).toNat ((byt I6 (gi I6 70 3)) - 1)) J11)) dX4_readOne_157 rfl L_72 (by decide) e20 rfl ?_
            refine st_aload_n (pc' := 159) dX4_readOne_158 rfl rfl (j := 7) rfl ?_
            refine G_X4_15_70 dX4_readOne_159 (pc' := 162) rfl rfl ?_
            refine st_iload_n (pc' := 163) dX4_readOne_162 rfl rfl (j := 10) rfl ?_
            refine st_iconst (pc' := 164) dX4_readOne_163 rfl ?_
            refine st_iadd (pc' := 165) dX4_readOne_164 rfl ?_
            refine st_iload (pc' := 167) dX4_readOne_165 rfl (j := 1) rfl ?_
            obtain ⟨e21, h⟩ := h
            refine st_iastore (pc' := 168) (M' := (mem (P, some 5, some 22) (si (si (si (si (si (si I10 70 3 ((gi I10 70 3) + 1)) 72 (x3 + 0).toNat (byt I (gi I 70 3))) 72 (x3 + 1).toNat v2) 72 (x3 + 2).toNat v5) 72 (x3 + 3).toNat ((byt I6 (gi I6 70 3)) - 1)) 72 (x3 + 4).toNat v9) J11)) dX4_readOne_167 rfl L_72 (by decide) e21 rfl ?_
            refine st_aload_n (pc' := 169) dX4_readOne_168 rfl rfl (j := 7) rfl ?_
            refine G_X4_15_70 dX4_readOne_169 (pc' := 172) rfl rfl ?_
            refine st_iload_n (pc' := 173) dX4_readOne_172 rfl rfl (j := 10) rfl ?_
            refine st_iconst (pc' := 174) dX4_readOne_173 rfl ?_
            refine st_iadd (pc' := 175) dX4_readOne_174 rfl ?_
            refine st_iload (pc' := 177) dX4_readOne_175 rfl (j := 0) rfl ?_
            obtain ⟨e22, h⟩ := h
            refine st_iastore (pc' := 178) (M' := (mem (P, some 5, some 22) (si (si (si (si (si (si (si I10 70 3 ((gi I10 70 3) + 1)) 72 (x3 + 0).toNat (byt I (gi I 70 3))) 72 (x3 + 1).toNat v2) 72 (x3 + 2).toNat v5) 72 (x3 + 3).toNat ((byt I6 (gi I6 70 3)) - 1)) 72 (x3 + 4).toNat v9) 72 (x3 + 5).toNat (byt I10 (gi I10 70 3))) J11)) dX4_readOne_177 rfl L_72 (by decide) e22 rfl ?_
            refine st_iload (pc' := 180) dX4_readOne_178 rfl (j := 4) rfl ?_
            refine st_iload (pc' := 182) dX4_readOne_180 rfl (j := 3) rfl ?_
            refine st_ior (pc' := 183) (z := (or32 v2 v5)) dX4_readOne_182 rfl rfl ?_
            refine st_istore (pc' := 185) (L' := [(11, vI (or32 v2 v5)), (10, vI (byt I10 (gi I10 70 3))), (9, vI v9), (8, vI ((byt I6 (gi I6 70 3)) - 1)), (7, vI v5), (6, vI v2), (5, vI (byt I (gi I 70 3))), (4, vI (gi I 6 1)), (0, vR (some 70)), (1, vR (some 1)), (2, vR (some 5)), (3, vI x3)]) dX4_readOne_183 rfl (by decide) rfl ?_
            refine st_iconst (pc' := 186) dX4_readOne_185 rfl ?_
            refine st_istore (pc' := 188) (L' := [(12, vI 0), (11, vI (or32 v2 v5)), (10, vI (byt I10 (gi I10 70 3))), (9, vI v9), (8, vI ((byt I6 (gi I6 70 3)) - 1)), (7, vI v5), (6, vI v2), (5, vI (byt I (gi I 70 3))), (4, vI (gi I 6 1)), (0, vR (some 70)), (1, vR (some 1)), (2, vR (some 5)), (3, vI x3)]) dX4_readOne_186 rfl (by decide) rfl ?_
            refine st_iconst (pc' := 189) dX4_readOne_188 rfl ?_
            refine st_istore (pc' := 191) (L' := [(13, vI 0), (12, vI 0), (11, vI (or32 v2 v5)), (10, vI (byt I10 (gi I10 70 3))), (9, vI v9), (8, vI ((byt I6 (gi I6 70 3)) - 1)), (7, vI v5), (6, vI v2), (5, vI (byt I (gi I 70 3))), (4, vI (gi I 6 1)), (0, vR (some 70)), (1, vR (some 1)), (2, vR (some 5)), (3, vI x3)]) dX4_readOne_189 rfl (by decide) rfl ?_
            refine WP_sub (L' := [(0, vR (some 70)), (1, vR (some 1)), (3, vI x3), (4, vI (gi I 6 1)), (8, vI ((byt I6 (gi I6 70 3)) - 1)), (9, vI v9), (10, vI (byt I10 (gi I10 70 3))), (11, vI (or32 v2 v5)), (12, vI 0), (13, vI 0)]) [10, 11, 13, 9, 5, 4, 3, 2, 1, 0] rfl ?_
            exact h
          · replace h := h.2 c
            refine st_iconst (pc' := 117) dX4_readOne_116 rfl ?_
            exact st_iret (ty := .boolean) dX4_readOne_117 rfl (by decide) rfl h
    · replace h := h.2 (b2i_f.mp c)
      refine st_iconst (pc' := 79) dX4_readOne_78 rfl ?_
      exact st_iret (ty := .boolean) dX4_readOne_79 rfl (by decide) rfl h
set_option maxRecDepth 20000 in
set_option maxHeartbeats 4000000 in
theorem B_X4_readOne_191 {k : Nat} {P : Option Nat} {I : Nat → Nat → Int32} {J : Nat → Nat → Int64} {x3 : Int} {x4 : Int} {x8 : Int} {x9 : Int} {x10 : Int} {x11 : Int} {x12 : Int} {x13 : Int} {Q : Option AV → Mem → Prop} (hk : 2 ≤ k) (h : inR x13 ∧ (inR x10 ∧ ((x10 ≤ x13 → (inR x8 ∧ ((¬ x8 = (-1) → (inR x12 ∧ ((x12 = 0 → (Q (some (vI 0)) (mem (P, some 5, some 22) I J))) ∧ (¬ x12 = 0 → (inR x9 ∧ ((x9 ≤ 0 → (Q (some (vI 0)) (mem (P, some 5, some 22) I J))) ∧ (¬ x9 ≤ 0 → ((500 ≤ x9 → (Q (some (vI 0)) (mem (P, some 5, some 22) I J))) ∧ (¬ 500 ≤ x9 → (Q (some (vI 1)) (mem (P, some 5, some 22) I J))))))))))) ∧ (x8 = (-1) → (inR x9 ∧ ((¬ x9 = 0 → (Q (some (vI 0)) (mem (P, some 5, some 22) I J))) ∧ (x9 = 0 → (Q (some (vI 1)) (mem (P, some 5, some 22) I J))))))))) ∧ (¬ x10 ≤ x13 → (gi I 1 1 ≤ 1600 ∧ (inR (x4 - 1) ∧ ((¬ (0 ≤ (byt I (gi I 70 3)) ∧ (byt I (gi I 70 3)) ≤ (x4 - 1)) → (Q (some (vI 0)) (mem (P, some 5, some 22) (si I 70 3 ((gi I 70 3) + 1)) J))) ∧ ((0 ≤ (byt I (gi I 70 3)) ∧ (byt I (gi I 70 3)) ≤ (x4 - 1)) → (((and32 x11 (shl32 1 (byt I (gi I 70 3)))) = 0 → (inR x12 ∧ ((¬ x12 = 0 → ((0 ≤ ((x3 + 6) + x13) ∧ ((x3 + 6) + x13) < 87) ∧ (WP k LAY m_X4_readOne 191 [(0, vR (some 70)), (1, vR (some 1)), (3, vI x3), (4, vI x4), (8, vI x8), (9, vI x9), (10, vI x10), (11, vI (or32 x11 (shl32 1 (byt I (gi I 70 3))))), (12, vI 1), (13, vI (x13 + 1))] [] (mem (P, some 5, some 22) (si (si I 70 3 ((gi I 70 3) + 1)) 72 (((x3 + 6) + x13) : Int).toNat (byt I (gi I 70 3))) J) Q))) ∧ (x12 = 0 → (inR x8 ∧ ((¬ (byt I (gi I 70 3)) = x8 → ((0 ≤ ((x3 + 6) + x13) ∧ ((x3 + 6) + x13) < 87) ∧ (WP k LAY m_X4_readOne 191 [(0, vR (some 70)), (1, vR (some 1)), (3, vI x3), (4, vI x4), (8, vI x8), (9, vI x9), (10, vI x10), (11, vI (or32 x11 (shl32 1 (byt I (gi I 70 3))))), (12, vI 0), (13, vI (x13 + 1))] [] (mem (P, some 5, some 22) (si (si I 70 3 ((gi I 70 3) + 1)) 72 (((x3 + 6) + x13) : Int).toNat (byt I (gi I 70 3))) J) Q))) ∧ ((byt I (gi I 70 3)) = x8 → ((0 ≤ ((x3 + 6) + x13) ∧ ((x3 + 6) + x13) < 87) ∧ (WP k LAY m_X4_readOne 191 [(0, vR (some 70)), (1, vR (some 1)), (3, vI x3), (4, vI x4), (8, vI x8), (9, vI x9), (10, vI x10), (11, vI (or32 x11 (shl32 1 (byt I (gi I 70 3))))), (12, vI 1), (13, vI (x13 + 1))] [] (mem (P, some 5, some 22) (si (si I 70 3 ((gi I 70 3) + 1)) 72 (((x3 + 6) + x13) : Int).toNat (byt I (gi I 70 3))) J) Q))))))))) ∧ (¬ (and32 x11 (shl32 1 (byt I (gi I 70 3)))) = 0 → (Q (some (vI 0)) (mem (P, some 5, some 22) (si I 70 3 ((gi I 70 3) + 1)) J)))))))))))) : WP k LAY m_X4_readOne 191 [(0, vR (some 70)), (1, vR (some 1)), (3, vI x3), (4, vI x4), (8, vI x8), (9, vI x9), (10, vI x10), (11, vI x11), (12, vI x12), (13, vI x13)] [] (mem (P, some 5, some 22) I J) Q := by
  refine st_iload (pc' := 193) dX4_readOne_191 rfl (j := 9) rfl ?_
  refine st_iload (pc' := 195) dX4_readOne_193 rfl (j := 6) rfl ?_
  obtain ⟨e1, h⟩ := h
  obtain ⟨e2, h⟩ := h
  refine st_icmp_ge (tg := 277) (pc' := 198) dX4_readOne_195 (by decide) rfl e1 e2 (fun c => ?_) (fun c => ?_)
  · replace h := h.1 c
    refine st_iload (pc' := 279) dX4_readOne_277 rfl (j := 4) rfl ?_
    refine st_iconst (pc' := 280) dX4_readOne_279 rfl ?_
    obtain ⟨e3, h⟩ := h
    refine st_icmp_ne (tg := 296) (pc' := 283) dX4_readOne_280 (by decide) rfl e3 (by decide) (fun c => ?_) (fun c => ?_)
    · replace h := h.1 c
      refine st_iload (pc' := 298) dX4_readOne_296 rfl (j := 8) rfl ?_
      obtain ⟨e4, h⟩ := h
      refine st_if_eq (tg := 318) (pc' := 301) dX4_readOne_298 (by decide) rfl e4 (fun c => ?_) (fun c => ?_)
      · replace h := h.1 c
        refine st_iconst (pc' := 319) dX4_readOne_318 rfl ?_
        exact st_iret (ty := .boolean) dX4_readOne_319 rfl (by decide) rfl h
      · replace h := h.2 c
        refine st_iload (pc' := 303) dX4_readOne_301 rfl (j := 5) rfl ?_
        obtain ⟨e5, h⟩ := h
        refine st_if_le (tg := 318) (pc' := 306) dX4_readOne_303 (by decide) rfl e5 (fun c => ?_) (fun c => ?_)
        · replace h := h.1 c
          refine st_iconst (pc' := 319) dX4_readOne_318 rfl ?_
          exact st_iret (ty := .boolean) dX4_readOne_319 rfl (by decide) rfl h
        · replace h := h.2 c
          refine st_iload (pc' := 308) dX4_readOne_306 rfl (j := 5) rfl ?_
          refine st_sipush (pc' := 311) dX4_readOne_308 rfl (by decide) ?_
          refine st_icmp_ge (tg := 318) (pc' := 314) dX4_readOne_311 (by decide) rfl e5 (by decide) (fun c => ?_) (fun c => ?_)
          · replace h := h.1 c
            refine st_iconst (pc' := 319) dX4_readOne_318 rfl ?_
            exact st_iret (ty := .boolean) dX4_readOne_319 rfl (by decide) rfl h
          · replace h := h.2 c
            refine st_iconst (pc' := 315) dX4_readOne_314 rfl ?_
            refine st_goto (pc' := 319) dX4_readOne_315 (by decide) ?_
            exact st_iret (ty := .boolean) dX4_readOne_319 rfl (by decide) rfl h
    · replace h := h.2 c
      refine st_iload (pc' := 285) dX4_readOne_283 rfl (j := 5) rfl ?_
      obtain ⟨e6, h⟩ := h
      refine st_if_ne (tg := 292) (pc' := 288) dX4_readOne_285 (by decide) rfl e6 (fun c => ?_) (fun c => ?_)
      · replace h := h.1 c
        refine st_iconst (pc' := 293) dX4_readOne_292 rfl ?_
        refine st_goto (pc' := 319) dX4_readOne_293 (by decide) ?_
        exact st_iret (ty := .boolean) dX4_readOne_319 rfl (by decide) rfl h
      · replace h := h.2 c
        refine st_iconst (pc' := 289) dX4_readOne_288 rfl ?_
        refine st_goto (pc' := 319) dX4_readOne_289 (by decide) ?_
        exact st_iret (ty := .boolean) dX4_readOne_319 rfl (by decide) rfl h
  · replace h := h.2 c
    refine st_aload_n (pc' := 199) dX4_readOne_198 rfl rfl (j := 0) rfl ?_
    refine st_aload_n (pc' := 200) dX4_readOne_199 rfl rfl (j := 1) rfl ?_
    refine st_callV (pc' := 203) (kc := k - 1) (E' := LAY) (cal := m_X4_take) (n := 1) (as := [vR (some 1)]) (S := []) dX4_readOne_200 rfl l_X4_79 k_X4_take rfl L_70 c_X4 rfl rfl (Nat.le_of_ble_eq_true rfl) (by omega) ⟨Nat.le_refl _, Nat.le_refl _, Nat.le_refl _, Nat.le_refl _⟩ (Q1 := fun r M' => WP k LAY m_X4_readOne 203 [(0, vR (some 70)), (1, vR (some 1)), (3, vI x3), (4, vI x4), (8, vI x8), (9, vI x9), (10, vI x10), (11, vI x11), (12, vI x12), (13, vI x13)] (r.toList ++ []) M' Q) (WPm.of k_X4_take.1 (Nat.le_of_ble_eq_true rfl) (B_X4_take_0 (by omega) ?_)) (fun r M' q => q)
    obtain ⟨e7, h⟩ := h
    refine ⟨e7, ?_⟩
    change WP _ LAY m_X4_readOne 203 [(0, vR (some 70)), (1, vR (some 1)), (3, vI x3), (4, vI x4), (8, vI x8), (9, vI x9), (10, vI x10), (11, vI x11), (12, vI x12), (13, vI x13)] [vI (byt I (gi I 70 3))] (mem (P, some 5, some 22) (si I 70 3 ((gi I 70 3) + 1)) J) Q
    refine st_istore (pc' := 205) (L' := [(14, vI (byt I (gi I 70 3))), (0, vR (some 70)), (1, vR (some 1)), (3, vI x3), (4, vI x4), (8, vI x8), (9, vI x9), (10, vI x10), (11, vI x11), (12, vI x12), (13, vI x13)]) dX4_readOne_203 rfl (by decide) rfl ?_
    refine st_iload (pc' := 207) dX4_readOne_205 rfl (j := 0) rfl ?_
    refine st_iload (pc' := 209) dX4_readOne_207 rfl (j := 4) rfl ?_
    refine st_iconst (pc' := 210) dX4_readOne_209 rfl ?_
    refine st_isub (pc' := 211) dX4_readOne_210 rfl ?_
    obtain ⟨e8, h⟩ := h
    refine st_callS (pc' := 214) (kc := k - 1) (E' := LAY) (cal := m_X4_within) (n := 2) (as := [vI (byt I (gi I 70 3)), vI (x4 - 1)]) (S := []) dX4_readOne_211 rfl l_X4_61 k_X4_within rfl rfl (Nat.le_of_ble_eq_true rfl) (by omega) ⟨Nat.le_refl _, Nat.le_refl _, Nat.le_refl _, Nat.le_refl _⟩ (Q1 := fun r M' => WP k LAY m_X4_readOne 214 [(14, vI (byt I (gi I 70 3))), (0, vR (some 70)), (1, vR (some 1)), (3, vI x3), (4, vI x4), (8, vI x8), (9, vI x9), (10, vI x10), (11, vI x11), (12, vI x12), (13, vI x13)] (r.toList ++ []) M' Q) (S_X4_within (by omega) (byt_in _ _) e8 ?_) (fun r M' q => q)
    change WP _ LAY m_X4_readOne 214 [(14, vI (byt I (gi I 70 3))), (0, vR (some 70)), (1, vR (some 1)), (3, vI x3), (4, vI x4), (8, vI x8), (9, vI x9), (10, vI x10), (11, vI x11), (12, vI x12), (13, vI x13)] [vI (b2i (0 ≤ (byt I (gi I 70 3)) ∧ (byt I (gi I 70 3)) ≤ (x4 - 1)))] (mem (P, some 5, some 22) (si I 70 3 ((gi I 70 3) + 1)) J) Q
    refine st_if_eq (tg := 227) (pc' := 217) dX4_readOne_214 (by decide) rfl (b2i_in _) (fun c => ?_) (fun c => ?_)
    · replace h := h.1 (b2i_f.mp c)
      refine st_iconst (pc' := 228) dX4_readOne_227 rfl ?_
      exact st_iret (ty := .boolean) dX4_readOne_228 rfl (by decide) rfl h
    · replace h := h.2 (b2i_t.mp c)
      refine st_iload (pc' := 219) dX4_readOne_217 rfl (j := 8) rfl ?_
      refine st_iconst (pc' := 220) dX4_readOne_219 rfl ?_
      refine st_iload (pc' := 222) dX4_readOne_220 rfl (j := 0) rfl ?_
      refine st_ishl (pc' := 223) (z := (shl32 1 (byt I (gi I 70 3)))) dX4_readOne_222 rfl rfl ?_
      refine st_iand (pc' := 224) (z := (and32 x11 (shl32 1 (byt I (gi I 70 3))))) dX4_readOne_223 rfl rfl ?_
      refine st_if_eq (tg := 229) (pc' := 227) dX4_readOne_224 (by decide) rfl (and32_in _ _) (fun c => ?_) (fun c => ?_)
      · replace h := h.1 c
        refine st_iload (pc' := 231) dX4_readOne_229 rfl (j := 8) rfl ?_
        refine st_iconst (pc' := 232) dX4_readOne_231 rfl ?_
        refine st_iload (pc' := 234) dX4_readOne_232 rfl (j := 0) rfl ?_
        refine st_ishl (pc' := 235) (z := (shl32 1 (byt I (gi I 70 3)))) dX4_readOne_234 rfl rfl ?_
        refine st_ior (pc' := 236) (z := (or32 x11 (shl32 1 (byt I (gi I 70 3))))) dX4_readOne_235 rfl rfl ?_
        refine st_istore (pc' := 238) (L' := [(11, vI (or32 x11 (shl32 1 (byt I (gi I 70 3))))), (14, vI (byt I (gi I 70 3))), (0, vR (some 70)), (1, vR (some 1)), (3, vI x3), (4, vI x4), (8, vI x8), (9, vI x9), (10, vI x10), (12, vI x12), (13, vI x13)]) dX4_readOne_236 rfl (by decide) rfl ?_
        refine st_iload (pc' := 240) dX4_readOne_238 rfl (j := 9) rfl ?_
        obtain ⟨e9, h⟩ := h
        refine st_if_ne (tg := 250) (pc' := 243) dX4_readOne_240 (by decide) rfl e9 (fun c => ?_) (fun c => ?_)
        · replace h := h.1 c
          refine st_iconst (pc' := 251) dX4_readOne_250 rfl ?_
          refine st_goto (pc' := 255) dX4_readOne_251 (by decide) ?_
          refine st_istore (pc' := 257) (L' := [(12, vI 1), (11, vI (or32 x11 (shl32 1 (byt I (gi I 70 3))))), (14, vI (byt I (gi I 70 3))), (0, vR (some 70)), (1, vR (some 1)), (3, vI x3), (4, vI x4), (8, vI x8), (9, vI x9), (10, vI x10), (13, vI x13)]) dX4_readOne_255 rfl (by decide) rfl ?_
          refine st_aload_n (pc' := 258) dX4_readOne_257 rfl rfl (j := 3) rfl ?_
          refine G_X4_15_70 dX4_readOne_258 (pc' := 261) rfl rfl ?_
          refine st_iload_n (pc' := 262) dX4_readOne_261 rfl rfl (j := 5) rfl ?_
          refine st_bipush (pc' := 264) dX4_readOne_262 rfl (by decide) ?_
          refine st_iadd (pc' := 265) dX4_readOne_264 rfl ?_
          refine st_iload (pc' := 267) dX4_readOne_265 rfl (j := 10) rfl ?_
          refine st_iadd (pc' := 268) dX4_readOne_267 rfl ?_
          refine st_iload (pc' := 270) dX4_readOne_268 rfl (j := 2) rfl ?_
          obtain ⟨e10, h⟩ := h
          refine st_iastore (pc' := 271) (M' := (mem (P, some 5, some 22) (si (si I 70 3 ((gi I 70 3) + 1)) 72 (((x3 + 6) + x13) : Int).toNat (byt I (gi I 70 3))) J)) dX4_readOne_270 rfl L_72 (by decide) e10 rfl ?_
          refine st_iinc (pc' := 274) (L' := [(13, vI (x13 + 1)), (12, vI 1), (11, vI (or32 x11 (shl32 1 (byt I (gi I 70 3))))), (14, vI (byt I (gi I 70 3))), (0, vR (some 70)), (1, vR (some 1)), (3, vI x3), (4, vI x4), (8, vI x8), (9, vI x9), (10, vI x10)]) (j := 10) dX4_readOne_271 rfl (by decide) rfl rfl ?_
          refine st_goto (pc' := 191) dX4_readOne_274 (by decide) ?_
          refine WP_sub (L' := [(0, vR (some 70)), (1, vR (some 1)), (3, vI x3), (4, vI x4), (8, vI x8), (9, vI x9), (10, vI x10), (11, vI (or32 x11 (shl32 1 (byt I (gi I 70 3))))), (12, vI 1), (13, vI (x13 + 1))]) [4, 5, 6, 7, 8, 9, 10, 2, 1, 0] rfl ?_
          exact h
        · replace h := h.2 c
          refine st_iload (pc' := 245) dX4_readOne_243 rfl (j := 1) rfl ?_
          refine st_iload (pc' := 247) dX4_readOne_245 rfl (j := 6) rfl ?_
          obtain ⟨e11, h⟩ := h
          refine st_icmp_ne (tg := 254) (pc' := 250) dX4_readOne_247 (by decide) rfl (byt_in _ _) e11 (fun c => ?_) (fun c => ?_)
          · replace h := h.1 c
            refine st_iconst (pc' := 255) dX4_readOne_254 rfl ?_
            refine st_istore (pc' := 257) (L' := [(12, vI 0), (11, vI (or32 x11 (shl32 1 (byt I (gi I 70 3))))), (14, vI (byt I (gi I 70 3))), (0, vR (some 70)), (1, vR (some 1)), (3, vI x3), (4, vI x4), (8, vI x8), (9, vI x9), (10, vI x10), (13, vI x13)]) dX4_readOne_255 rfl (by decide) rfl ?_
            refine st_aload_n (pc' := 258) dX4_readOne_257 rfl rfl (j := 3) rfl ?_
            refine G_X4_15_70 dX4_readOne_258 (pc' := 261) rfl rfl ?_
            refine st_iload_n (pc' := 262) dX4_readOne_261 rfl rfl (j := 5) rfl ?_
            refine st_bipush (pc' := 264) dX4_readOne_262 rfl (by decide) ?_
            refine st_iadd (pc' := 265) dX4_readOne_264 rfl ?_
            refine st_iload (pc' := 267) dX4_readOne_265 rfl (j := 10) rfl ?_
            refine st_iadd (pc' := 268) dX4_readOne_267 rfl ?_
            refine st_iload (pc' := 270) dX4_readOne_268 rfl (j := 2) rfl ?_
            obtain ⟨e12, h⟩ := h
            refine st_iastore (pc' := 271) (M' := (mem (P, some 5, some 22) (si (si I 70 3 ((gi I 70 3) + 1)) 72 (((x3 + 6) + x13) : Int).toNat (byt I (gi I 70 3))) J)) dX4_readOne_270 rfl L_72 (by decide) e12 rfl ?_
            refine st_iinc (pc' := 274) (L' := [(13, vI (x13 + 1)), (12, vI 0), (11, vI (or32 x11 (shl32 1 (byt I (gi I 70 3))))), (14, vI (byt I (gi I 70 3))), (0, vR (some 70)), (1, vR (some 1)), (3, vI x3), (4, vI x4), (8, vI x8), (9, vI x9), (10, vI x10)]) (j := 10) dX4_readOne_271 rfl (by decide) rfl rfl ?_
            refine st_goto (pc' := 191) dX4_readOne_274 (by decide) ?_
            refine WP_sub (L' := [(0, vR (some 70)), (1, vR (some 1)), (3, vI x3), (4, vI x4), (8, vI x8), (9, vI x9), (10, vI x10), (11, vI (or32 x11 (shl32 1 (byt I (gi I 70 3))))), (12, vI 0), (13, vI (x13 + 1))]) [4, 5, 6, 7, 8, 9, 10, 2, 1, 0] rfl ?_
            exact h
          · replace h := h.2 c
            refine st_iconst (pc' := 251) dX4_readOne_250 rfl ?_
            refine st_goto (pc' := 255) dX4_readOne_251 (by decide) ?_
            refine st_istore (pc' := 257) (L' := [(12, vI 1), (11, vI (or32 x11 (shl32 1 (byt I (gi I 70 3))))), (14, vI (byt I (gi I 70 3))), (0, vR (some 70)), (1, vR (some 1)), (3, vI x3), (4, vI x4), (8, vI x8), (9, vI x9), (10, vI x10), (13, vI x13)]) dX4_readOne_255 rfl (by decide) rfl ?_
            refine st_aload_n (pc' := 258) dX4_readOne_257 rfl rfl (j := 3) rfl ?_
            refine G_X4_15_70 dX4_readOne_258 (pc' := 261) rfl rfl ?_
            refine st_iload_n (pc' := 262) dX4_readOne_261 rfl rfl (j := 5) rfl ?_
            refine st_bipush (pc' := 264) dX4_readOne_262 rfl (by decide) ?_
            refine st_iadd (pc' := 265) dX4_readOne_264 rfl ?_
            refine st_iload (pc' := 267) dX4_readOne_265 rfl (j := 10) rfl ?_
            refine st_iadd (pc' := 268) dX4_readOne_267 rfl ?_
            refine st_iload (pc' := 270) dX4_readOne_268 rfl (j := 2) rfl ?_
            obtain ⟨e13, h⟩ := h
            refine st_iastore (pc' := 271) (M' := (mem (P, some 5, some 22) (si (si I 70 3 ((gi I 70 3) + 1)) 72 (((x3 + 6) + x13) : Int).toNat (byt I (gi I 70 3))) J)) dX4_readOne_270 rfl L_72 (by decide) e13 rfl ?_
            refine st_iinc (pc' := 274) (L' := [(13, vI (x13 + 1)), (12, vI 1), (11, vI (or32 x11 (shl32 1 (byt I (gi I 70 3))))), (14, vI (byt I (gi I 70 3))), (0, vR (some 70)), (1, vR (some 1)), (3, vI x3), (4, vI x4), (8, vI x8), (9, vI x9), (10, vI x10)]) (j := 10) dX4_readOne_271 rfl (by decide) rfl rfl ?_
            refine st_goto (pc' := 191) dX4_readOne_274 (by decide) ?_
            refine WP_sub (L' := [(0, vR (some 70)), (1, vR (some 1)), (3, vI x3), (4, vI x4), (8, vI x8), (9, vI x9), (10, vI x10), (11, vI (or32 x11 (shl32 1 (byt I (gi I 70 3))))), (12, vI 1), (13, vI (x13 + 1))]) [4, 5, 6, 7, 8, 9, 10, 2, 1, 0] rfl ?_
            exact h
      · replace h := h.2 c
        refine st_iconst (pc' := 228) dX4_readOne_227 rfl ?_
        exact st_iret (ty := .boolean) dX4_readOne_228 rfl (by decide) rfl h
set_option maxRecDepth 20000 in
set_option maxHeartbeats 4000000 in
theorem B_X4_checkOf_0 {k : Nat} {P : Option Nat} {I : Nat → Nat → Int32} {J : Nat → Nat → Int64}  {Q : Option AV → Mem → Prop} (hk : 0 ≤ k) (h : WP k LAY m_X4_checkOf 5 [(0, vR (some 1)), (1, vI 83), (2, vI 0)] [] (mem (P, some 5, some 22) I J) Q) : WP k LAY m_X4_checkOf 0 [(0, vR (some 1))] [] (mem (P, some 5, some 22) I J) Q := by
  refine st_bipush (pc' := 2) dX4_checkOf_0 rfl (by decide) ?_
  refine st_istore_n (pc' := 3) (L' := [(1, vI 83), (0, vR (some 1))]) dX4_checkOf_2 rfl rfl (by decide) rfl ?_
  refine st_iconst (pc' := 4) dX4_checkOf_3 rfl ?_
  refine st_istore_n (pc' := 5) (L' := [(2, vI 0), (1, vI 83), (0, vR (some 1))]) dX4_checkOf_4 rfl rfl (by decide) rfl ?_
  refine WP_sub (L' := [(0, vR (some 1)), (1, vI 83), (2, vI 0)]) [2, 1, 0] rfl ?_
  exact h
set_option maxRecDepth 20000 in
set_option maxHeartbeats 4000000 in
theorem B_X4_checkOf_5 {k : Nat} {P : Option Nat} {I : Nat → Nat → Int32} {J : Nat → Nat → Int64} {x1 : Int} {x2 : Int} {Q : Option AV → Mem → Prop} (hk : 1 ≤ k) (h : inR x2 ∧ (inR ((gi I 1 1) - 1) ∧ ((((gi I 1 1) - 1) ≤ x2 → (Q (some (vI x1)) (mem (P, some 5, some 22) I J))) ∧ (¬ ((gi I 1 1) - 1) ≤ x2 → (gi I 1 1 ≤ 1600 ∧ (WP k LAY m_X4_checkOf 5 [(0, vR (some 1)), (1, vI (rem32 ((5 * x1) + (byt I x2)) 251)), (2, vI (x2 + 1))] [] (mem (P, some 5, some 22) I J) Q)))))) : WP k LAY m_X4_checkOf 5 [(0, vR (some 1)), (1, vI x1), (2, vI x2)] [] (mem (P, some 5, some 22) I J) Q := by
  refine st_iload_n (pc' := 6) dX4_checkOf_5 rfl rfl (j := 2) rfl ?_
  refine st_aload_n (pc' := 7) dX4_checkOf_6 rfl rfl (j := 0) rfl ?_
  refine G_X4_69_1 dX4_checkOf_7 (pc' := 10) rfl rfl ?_
  refine st_iconst (pc' := 11) dX4_checkOf_10 rfl ?_
  refine st_isub (pc' := 12) dX4_checkOf_11 rfl ?_
  obtain ⟨e1, h⟩ := h
  obtain ⟨e2, h⟩ := h
  refine st_icmp_ge (tg := 35) (pc' := 15) dX4_checkOf_12 (by decide) rfl e1 e2 (fun c => ?_) (fun c => ?_)
  · replace h := h.1 c
    refine st_iload_n (pc' := 36) dX4_checkOf_35 rfl rfl (j := 1) rfl ?_
    exact st_iret (ty := .int) dX4_checkOf_36 rfl rfl rfl h
  · replace h := h.2 c
    refine st_iconst (pc' := 16) dX4_checkOf_15 rfl ?_
    refine st_iload_n (pc' := 17) dX4_checkOf_16 rfl rfl (j := 1) rfl ?_
    refine st_imul (pc' := 18) dX4_checkOf_17 rfl ?_
    refine st_aload_n (pc' := 19) dX4_checkOf_18 rfl rfl (j := 0) rfl ?_
    refine st_iload_n (pc' := 20) dX4_checkOf_19 rfl rfl (j := 2) rfl ?_
    obtain ⟨e3, h⟩ := h
    refine st_callV (pc' := 23) (kc := k - 1) (E' := LAY) (cal := m_X10_byteAt) (n := 1) (as := [vI x2]) (S := [vI (5 * x1)]) dX4_checkOf_20 rfl l_X4_72 k_X10_byteAt rfl L_1 c_X10 rfl rfl (Nat.le_of_ble_eq_true rfl) (by omega) ⟨Nat.le_refl _, Nat.le_refl _, Nat.le_refl _, Nat.le_refl _⟩ (Q1 := fun r M' => WP k LAY m_X4_checkOf 23 [(0, vR (some 1)), (1, vI x1), (2, vI x2)] (r.toList ++ [vI (5 * x1)]) M' Q) (S_X10_byteAt (by omega) e1 e3 ?_) (fun r M' q => q)
    change WP _ LAY m_X4_checkOf 23 [(0, vR (some 1)), (1, vI x1), (2, vI x2)] [vI (byt I x2), vI (5 * x1)] (mem (P, some 5, some 22) I J) Q
    refine st_iadd (pc' := 24) dX4_checkOf_23 rfl ?_
    refine st_sipush (pc' := 27) dX4_checkOf_24 rfl (by decide) ?_
    refine st_irem (pc' := 28) (z := (rem32 ((5 * x1) + (byt I x2)) 251)) dX4_checkOf_27 rfl (by decide) rfl ?_
    refine st_istore_n (pc' := 29) (L' := [(1, vI (rem32 ((5 * x1) + (byt I x2)) 251)), (0, vR (some 1)), (2, vI x2)]) dX4_checkOf_28 rfl rfl (by decide) rfl ?_
    refine st_iinc (pc' := 32) (L' := [(2, vI (x2 + 1)), (1, vI (rem32 ((5 * x1) + (byt I x2)) 251)), (0, vR (some 1))]) (j := 2) dX4_checkOf_29 rfl (by decide) rfl rfl ?_
    refine st_goto (pc' := 5) dX4_checkOf_32 (by decide) ?_
    refine WP_sub (L' := [(0, vR (some 1)), (1, vI (rem32 ((5 * x1) + (byt I x2)) 251)), (2, vI (x2 + 1))]) [2, 1, 0] rfl ?_
    exact h
set_option maxRecDepth 20000 in
set_option maxHeartbeats 4000000 in
theorem B_X4_read_0 {k : Nat} {P : Option Nat} {I : Nat → Nat → Int32} {J : Nat → Nat → Int64}  {Q : Option AV → Mem → Prop} (hk : 1 ≤ k) (h : WPm (k - 1) LAY m_X4_takeTwo [vR (some 70), vR (some 1)] (mem (P, some 5, some 22) (si (flI I 72 87 0) 70 3 0) J) (retI (fun v1 I2 J3 => WPm (k - 1) LAY m_X4_takeTwo [vR (some 70), vR (some 1)] (mem (P, some 5, some 22) (si I2 72 0 v1) J3) (retI (fun v4 I5 J6 => (¬ (0 ≤ (gi I5 72 0) ∧ (gi I5 72 0) ≤ 999) → (Q (some (vI 0)) (mem (P, some 5, some 22) (si I5 72 1 v4) J6))) ∧ ((0 ≤ (gi I5 72 0) ∧ (gi I5 72 0) ≤ 999) → (((0 ≤ (gi (si I5 72 1 v4) 72 1) ∧ (gi (si I5 72 1 v4) 72 1) ≤ 9999) → (WP k LAY m_X4_read 69 [(0, vR (some 70)), (1, vR (some 1)), (2, vR (some 5)), (3, vI 0)] [] (mem (P, some 5, some 22) (si I5 72 1 v4) J6) Q)) ∧ (¬ (0 ≤ (gi (si I5 72 1 v4) 72 1) ∧ (gi (si I5 72 1 v4) 72 1) ≤ 9999) → (Q (some (vI 0)) (mem (P, some 5, some 22) (si I5 72 1 v4) J6)))))) (P, some 5, some 22))) (P, some 5, some 22))) : WP k LAY m_X4_read 0 [(0, vR (some 70)), (1, vR (some 1)), (2, vR (some 5))] [] (mem (P, some 5, some 22) I J) Q := by
  refine st_aload_n (pc' := 1) dX4_read_0 rfl rfl (j := 0) rfl ?_
  refine G_X4_15_70 dX4_read_1 (pc' := 4) rfl rfl ?_
  refine st_iconst (pc' := 5) dX4_read_4 rfl ?_
  refine st_callS (pc' := 8) (kc := k - 1) (E' := LAY) (cal := m_J7_fill_53178) (n := 2) (as := [vR (some 72), vI 0]) (S := []) dX4_read_5 rfl l_X4_48 k_J7_fill_53178 rfl rfl (Nat.le_of_ble_eq_true rfl) (by omega) ⟨Nat.le_refl _, Nat.le_refl _, Nat.le_refl _, Nat.le_refl _⟩ (Q1 := fun r M' => WP k LAY m_X4_read 8 [(0, vR (some 70)), (1, vR (some 1)), (2, vR (some 5))] (r.toList ++ []) M' Q) (S_J7_fill (by omega) L_72 (by decide) ?_) (fun r M' q => q)
  change WP _ LAY m_X4_read 8 [(0, vR (some 70)), (1, vR (some 1)), (2, vR (some 5))] [] (mem (P, some 5, some 22) (flI I 72 87 0) J) Q
  refine st_aload_n (pc' := 9) dX4_read_8 rfl rfl (j := 0) rfl ?_
  refine st_iconst (pc' := 10) dX4_read_9 rfl ?_
  refine P_X4_54_70 dX4_read_10 (pc' := 13) rfl rfl ?_
  refine st_aload_n (pc' := 14) dX4_read_13 rfl rfl (j := 0) rfl ?_
  refine G_X4_15_70 dX4_read_14 (pc' := 17) rfl rfl ?_
  refine st_iconst (pc' := 18) dX4_read_17 rfl ?_
  refine st_aload_n (pc' := 19) dX4_read_18 rfl rfl (j := 0) rfl ?_
  refine st_aload_n (pc' := 20) dX4_read_19 rfl rfl (j := 1) rfl ?_
  refine st_callV (pc' := 23) (kc := k - 1) (E' := LAY) (cal := m_X4_takeTwo) (n := 1) (as := [vR (some 1)]) (S := [vI 0, vR (some 72)]) dX4_read_20 rfl l_X4_57 k_X4_takeTwo rfl L_70 c_X4 rfl rfl (Nat.le_of_ble_eq_true rfl) (by omega) ⟨Nat.le_refl _, Nat.le_refl _, Nat.le_refl _, Nat.le_refl _⟩ h (fun r M' q => ?_)
  obtain ⟨v1, I2, J3, rfl, rfl, h⟩ := q
  change WP _ LAY m_X4_read 23 [(0, vR (some 70)), (1, vR (some 1)), (2, vR (some 5))] [vI v1, vI 0, vR (some 72)] (mem (P, some 5, some 22) I2 J3) Q
  refine st_iastore (pc' := 24) (M' := (mem (P, some 5, some 22) (si I2 72 0 v1) J3)) dX4_read_23 rfl L_72 (by decide) (by decide) rfl ?_
  refine st_aload_n (pc' := 25) dX4_read_24 rfl rfl (j := 0) rfl ?_
  refine G_X4_15_70 dX4_read_25 (pc' := 28) rfl rfl ?_
  refine st_iconst (pc' := 29) dX4_read_28 rfl ?_
  refine st_aload_n (pc' := 30) dX4_read_29 rfl rfl (j := 0) rfl ?_
  refine st_aload_n (pc' := 31) dX4_read_30 rfl rfl (j := 1) rfl ?_
  refine st_callV (pc' := 34) (kc := k - 1) (E' := LAY) (cal := m_X4_takeTwo) (n := 1) (as := [vR (some 1)]) (S := [vI 1, vR (some 72)]) dX4_read_31 rfl l_X4_57 k_X4_takeTwo rfl L_70 c_X4 rfl rfl (Nat.le_of_ble_eq_true rfl) (by omega) ⟨Nat.le_refl _, Nat.le_refl _, Nat.le_refl _, Nat.le_refl _⟩ h (fun r M' q => ?_)
  obtain ⟨v4, I5, J6, rfl, rfl, h⟩ := q
  change WP _ LAY m_X4_read 34 [(0, vR (some 70)), (1, vR (some 1)), (2, vR (some 5))] [vI v4, vI 1, vR (some 72)] (mem (P, some 5, some 22) I5 J6) Q
  refine st_iastore (pc' := 35) (M' := (mem (P, some 5, some 22) (si I5 72 1 v4) J6)) dX4_read_34 rfl L_72 (by decide) (by decide) rfl ?_
  refine st_aload_n (pc' := 36) dX4_read_35 rfl rfl (j := 0) rfl ?_
  refine G_X4_15_70 dX4_read_36 (pc' := 39) rfl rfl ?_
  refine st_iconst (pc' := 40) dX4_read_39 rfl ?_
  refine st_iaload (pc' := 41) (v := (gi I5 72 0)) dX4_read_40 rfl L_72 (by decide) (by decide) (show gi (si I5 72 1 v4) 72 0 = (gi I5 72 0) from (gi_idx _ _ _ (by decide))) ?_
  refine st_sipush (pc' := 44) dX4_read_41 rfl (by decide) ?_
  refine st_callS (pc' := 47) (kc := k - 1) (E' := LAY) (cal := m_X4_within) (n := 2) (as := [vI (gi I5 72 0), vI 999]) (S := []) dX4_read_44 rfl l_X4_61 k_X4_within rfl rfl (Nat.le_of_ble_eq_true rfl) (by omega) ⟨Nat.le_refl _, Nat.le_refl _, Nat.le_refl _, Nat.le_refl _⟩ (Q1 := fun r M' => WP k LAY m_X4_read 47 [(0, vR (some 70)), (1, vR (some 1)), (2, vR (some 5))] (r.toList ++ []) M' Q) (S_X4_within (by omega) (gi_in _ _ _) (by decide) ?_) (fun r M' q => q)
  change WP _ LAY m_X4_read 47 [(0, vR (some 70)), (1, vR (some 1)), (2, vR (some 5))] [vI (b2i (0 ≤ (gi I5 72 0) ∧ (gi I5 72 0) ≤ 999))] (mem (P, some 5, some 22) (si I5 72 1 v4) J6) Q
  refine st_if_eq (tg := 65) (pc' := 50) dX4_read_47 (by decide) rfl (b2i_in _) (fun c => ?_) (fun c => ?_)
  · replace h := h.1 (b2i_f.mp c)
    refine st_iconst (pc' := 66) dX4_read_65 rfl ?_
    exact st_iret (ty := .boolean) dX4_read_66 rfl (by decide) rfl h
  · replace h := h.2 (b2i_t.mp c)
    refine st_aload_n (pc' := 51) dX4_read_50 rfl rfl (j := 0) rfl ?_
    refine G_X4_15_70 dX4_read_51 (pc' := 54) rfl rfl ?_
    refine st_iconst (pc' := 55) dX4_read_54 rfl ?_
    refine st_iaload (pc' := 56) (v := (gi (si I5 72 1 v4) 72 1)) dX4_read_55 rfl L_72 (by decide) (by decide) (show gi (si I5 72 1 v4) 72 1 = (gi (si I5 72 1 v4) 72 1) from rfl) ?_
    refine st_sipush (pc' := 59) dX4_read_56 rfl (by decide) ?_
    refine st_callS (pc' := 62) (kc := k - 1) (E' := LAY) (cal := m_X4_within) (n := 2) (as := [vI (gi (si I5 72 1 v4) 72 1), vI 9999]) (S := []) dX4_read_59 rfl l_X4_61 k_X4_within rfl rfl (Nat.le_of_ble_eq_true rfl) (by omega) ⟨Nat.le_refl _, Nat.le_refl _, Nat.le_refl _, Nat.le_refl _⟩ (Q1 := fun r M' => WP k LAY m_X4_read 62 [(0, vR (some 70)), (1, vR (some 1)), (2, vR (some 5))] (r.toList ++ []) M' Q) (S_X4_within (by omega) (gi_in _ _ _) (by decide) ?_) (fun r M' q => q)
    change WP _ LAY m_X4_read 62 [(0, vR (some 70)), (1, vR (some 1)), (2, vR (some 5))] [vI (b2i (0 ≤ (gi (si I5 72 1 v4) 72 1) ∧ (gi (si I5 72 1 v4) 72 1) ≤ 9999))] (mem (P, some 5, some 22) (si I5 72 1 v4) J6) Q
    refine st_if_ne (tg := 67) (pc' := 65) dX4_read_62 (by decide) rfl (b2i_in _) (fun c => ?_) (fun c => ?_)
    · replace h := h.1 (b2i_t.mp c)
      refine st_iconst (pc' := 68) dX4_read_67 rfl ?_
      refine st_istore_n (pc' := 69) (L' := [(3, vI 0), (0, vR (some 70)), (1, vR (some 1)), (2, vR (some 5))]) dX4_read_68 rfl rfl (by decide) rfl ?_
      refine WP_sub (L' := [(0, vR (some 70)), (1, vR (some 1)), (2, vR (some 5)), (3, vI 0)]) [1, 2, 3, 0] rfl ?_
      exact h
    · replace h := h.2 (b2i_f.mp c)
      refine st_iconst (pc' := 66) dX4_read_65 rfl ?_
      exact st_iret (ty := .boolean) dX4_read_66 rfl (by decide) rfl h
set_option maxRecDepth 20000 in
set_option maxHeartbeats 4000000 in
theorem B_X4_read_69 {k : Nat} {P : Option Nat} {I : Nat → Nat → Int32} {J : Nat → Nat → Int64} {x3 : Int} {Q : Option AV → Mem → Prop} (hk : 1 ≤ k) (h : inR x3 ∧ ((6 ≤ x3 → (inR ((gi I 1 1) - 1) ∧ ((¬ (gi I 70 3) = ((gi I 1 1) - 1) → (Q (some (vI 0)) (mem (P, some 5, some 22) I J))) ∧ ((gi I 70 3) = ((gi I 1 1) - 1) → (gi I 1 1 ≤ 1600 ∧ (WPm (k - 1) LAY m_X4_checkOf [vR (some 1)] (mem (P, some 5, some 22) I J) (retI (fun v4 I5 J6 => inR v4 ∧ ((¬ (byt I (gi I 70 3)) = v4 → (Q (some (vI 0)) (mem (P, some 5, some 22) I5 J6))) ∧ ((byt I (gi I 70 3)) = v4 → (Q (some (vI 1)) (mem (P, some 5, some 22) I5 J6))))) (P, some 5, some 22)))))))) ∧ (¬ 6 ≤ x3 → ((0 ≤ ((3 + (x3 * 14)) + 3) ∧ ((3 + (x3 * 14)) + 3) < 87) ∧ (((gi I 6 2) ≤ x3 → (WP k LAY m_X4_read 69 [(0, vR (some 70)), (1, vR (some 1)), (2, vR (some 5)), (3, vI (x3 + 1))] [] (mem (P, some 5, some 22) (si I 72 ((3 + (x3 * 14)) + 3).toNat (-1)) J) Q)) ∧ (¬ (gi I 6 2) ≤ x3 → (WPm (k - 1) LAY m_X4_readOne [vR (some 70), vR (some 1), vR (some 5), vI (3 + (x3 * 14))] (mem (P, some 5, some 22) (si I 72 ((3 + (x3 * 14)) + 3).toNat (-1)) J) (retI (fun v9 I10 J11 => inR v9 ∧ ((¬ v9 = 0 → (WP k LAY m_X4_read 69 [(0, vR (some 70)), (1, vR (some 1)), (2, vR (some 5)), (3, vI (x3 + 1))] [] (mem (P, some 5, some 22) I10 J11) Q)) ∧ (v9 = 0 → (Q (some (vI 0)) (mem (P, some 5, some 22) I10 J11))))) (P, some 5, some 22))))))))) : WP k LAY m_X4_read 69 [(0, vR (some 70)), (1, vR (some 1)), (2, vR (some 5)), (3, vI x3)] [] (mem (P, some 5, some 22) I J) Q := by
  refine st_iload_n (pc' := 70) dX4_read_69 rfl rfl (j := 3) rfl ?_
  refine st_bipush (pc' := 72) dX4_read_70 rfl (by decide) ?_
  obtain ⟨e1, h⟩ := h
  refine st_icmp_ge (tg := 122) (pc' := 75) dX4_read_72 (by decide) rfl e1 (by decide) (fun c => ?_) (fun c => ?_)
  · replace h := h.1 c
    refine st_aload_n (pc' := 123) dX4_read_122 rfl rfl (j := 0) rfl ?_
    refine G_X4_54_70 dX4_read_123 (pc' := 126) rfl rfl ?_
    refine st_aload_n (pc' := 127) dX4_read_126 rfl rfl (j := 1) rfl ?_
    refine G_X4_69_1 dX4_read_127 (pc' := 130) rfl rfl ?_
    refine st_iconst (pc' := 131) dX4_read_130 rfl ?_
    refine st_isub (pc' := 132) dX4_read_131 rfl ?_
    obtain ⟨e2, h⟩ := h
    refine st_icmp_ne (tg := 154) (pc' := 135) dX4_read_132 (by decide) rfl (gi_in _ _ _) e2 (fun c => ?_) (fun c => ?_)
    · replace h := h.1 c
      refine st_iconst (pc' := 155) dX4_read_154 rfl ?_
      exact st_iret (ty := .boolean) dX4_read_155 rfl (by decide) rfl h
    · replace h := h.2 c
      refine st_aload_n (pc' := 136) dX4_read_135 rfl rfl (j := 1) rfl ?_
      refine st_aload_n (pc' := 137) dX4_read_136 rfl rfl (j := 0) rfl ?_
      refine G_X4_54_70 dX4_read_137 (pc' := 140) rfl rfl ?_
      obtain ⟨e3, h⟩ := h
      refine st_callV (pc' := 143) (kc := k - 1) (E' := LAY) (cal := m_X10_byteAt) (n := 1) (as := [vI (gi I 70 3)]) (S := []) dX4_read_140 rfl l_X4_72 k_X10_byteAt rfl L_1 c_X10 rfl rfl (Nat.le_of_ble_eq_true rfl) (by omega) ⟨Nat.le_refl _, Nat.le_refl _, Nat.le_refl _, Nat.le_refl _⟩ (Q1 := fun r M' => WP k LAY m_X4_read 143 [(0, vR (some 70)), (1, vR (some 1)), (2, vR (some 5)), (3, vI x3)] (r.toList ++ []) M' Q) (S_X10_byteAt (by omega) (gi_in _ _ _) e3 ?_) (fun r M' q => q)
      change WP _ LAY m_X4_read 143 [(0, vR (some 70)), (1, vR (some 1)), (2, vR (some 5)), (3, vI x3)] [vI (byt I (gi I 70 3))] (mem (P, some 5, some 22) I J) Q
      refine st_aload_n (pc' := 144) dX4_read_143 rfl rfl (j := 1) rfl ?_
      refine st_callS (pc' := 147) (kc := k - 1) (E' := LAY) (cal := m_X4_checkOf) (n := 1) (as := [vR (some 1)]) (S := [vI (byt I (gi I 70 3))]) dX4_read_144 rfl l_X4_76 k_X4_checkOf rfl rfl (Nat.le_of_ble_eq_true rfl) (by omega) ⟨Nat.le_refl _, Nat.le_refl _, Nat.le_refl _, Nat.le_refl _⟩ h (fun r M' q => ?_)
      obtain ⟨v4, I5, J6, rfl, rfl, h⟩ := q
      change WP _ LAY m_X4_read 147 [(0, vR (some 70)), (1, vR (some 1)), (2, vR (some 5)), (3, vI x3)] [vI v4, vI (byt I (gi I 70 3))] (mem (P, some 5, some 22) I5 J6) Q
      obtain ⟨e7, h⟩ := h
      refine st_icmp_ne (tg := 154) (pc' := 150) dX4_read_147 (by decide) rfl (byt_in _ _) e7 (fun c => ?_) (fun c => ?_)
      · replace h := h.1 c
        refine st_iconst (pc' := 155) dX4_read_154 rfl ?_
        exact st_iret (ty := .boolean) dX4_read_155 rfl (by decide) rfl h
      · replace h := h.2 c
        refine st_iconst (pc' := 151) dX4_read_150 rfl ?_
        refine st_goto (pc' := 155) dX4_read_151 (by decide) ?_
        exact st_iret (ty := .boolean) dX4_read_155 rfl (by decide) rfl h
  · replace h := h.2 c
    refine st_iconst (pc' := 76) dX4_read_75 rfl ?_
    refine st_iload_n (pc' := 77) dX4_read_76 rfl rfl (j := 3) rfl ?_
    refine st_bipush (pc' := 79) dX4_read_77 rfl (by decide) ?_
    refine st_imul (pc' := 80) dX4_read_79 rfl ?_
    refine st_iadd (pc' := 81) dX4_read_80 rfl ?_
    refine st_istore (pc' := 83) (L' := [(4, vI (3 + (x3 * 14))), (0, vR (some 70)), (1, vR (some 1)), (2, vR (some 5)), (3, vI x3)]) dX4_read_81 rfl (by decide) rfl ?_
    refine st_aload_n (pc' := 84) dX4_read_83 rfl rfl (j := 1) rfl ?_
    refine G_X4_15_70 dX4_read_84 (pc' := 87) rfl rfl ?_
    refine st_iload (pc' := 89) dX4_read_87 rfl (j := 0) rfl ?_
    refine st_iconst (pc' := 90) dX4_read_89 rfl ?_
    refine st_iadd (pc' := 91) dX4_read_90 rfl ?_
    refine st_iconst (pc' := 92) dX4_read_91 rfl ?_
    obtain ⟨e8, h⟩ := h
    refine st_iastore (pc' := 93) (M' := (mem (P, some 5, some 22) (si I 72 ((3 + (x3 * 14)) + 3).toNat (-1)) J)) dX4_read_92 rfl L_72 (by decide) e8 rfl ?_
    refine st_iload_n (pc' := 94) dX4_read_93 rfl rfl (j := 4) rfl ?_
    refine st_aload_n (pc' := 95) dX4_read_94 rfl rfl (j := 3) rfl ?_
    refine G_X4_33_5 dX4_read_95 (pc' := 98) rfl rfl ?_
    refine st_iconst (pc' := 99) dX4_read_98 rfl ?_
    refine st_iaload (pc' := 100) (v := (gi I 6 2)) dX4_read_99 rfl L_6 (by decide) (by decide) (show gi (si I 72 ((3 + (x3 * 14)) + 3).toNat (-1)) 6 2 = (gi I 6 2) from (gi_cell _ _ _ _ (by decide))) ?_
    refine st_icmp_ge (tg := 116) (pc' := 103) dX4_read_100 (by decide) rfl e1 (gi_in _ _ _) (fun c => ?_) (fun c => ?_)
    · replace h := h.1 c
      refine st_iinc (pc' := 119) (L' := [(3, vI (x3 + 1)), (4, vI (3 + (x3 * 14))), (0, vR (some 70)), (1, vR (some 1)), (2, vR (some 5))]) (j := 4) dX4_read_116 rfl (by decide) rfl rfl ?_
      refine st_goto (pc' := 69) dX4_read_119 (by decide) ?_
      refine WP_sub (L' := [(0, vR (some 70)), (1, vR (some 1)), (2, vR (some 5)), (3, vI (x3 + 1))]) [2, 3, 4, 0] rfl ?_
      exact h
    · replace h := h.2 c
      refine st_aload_n (pc' := 104) dX4_read_103 rfl rfl (j := 1) rfl ?_
      refine st_aload_n (pc' := 105) dX4_read_104 rfl rfl (j := 2) rfl ?_
      refine st_aload_n (pc' := 106) dX4_read_105 rfl rfl (j := 3) rfl ?_
      refine st_iload (pc' := 108) dX4_read_106 rfl (j := 0) rfl ?_
      refine st_callV (pc' := 111) (kc := k - 1) (E' := LAY) (cal := m_X4_readOne) (n := 3) (as := [vR (some 1), vR (some 5), vI (3 + (x3 * 14))]) (S := []) dX4_read_108 rfl l_X4_65 k_X4_readOne rfl L_70 c_X4 rfl rfl (Nat.le_of_ble_eq_true rfl) (by omega) ⟨Nat.le_refl _, Nat.le_refl _, Nat.le_refl _, Nat.le_refl _⟩ h (fun r M' q => ?_)
      obtain ⟨v9, I10, J11, rfl, rfl, h⟩ := q
      change WP _ LAY m_X4_read 111 [(4, vI (3 + (x3 * 14))), (0, vR (some 70)), (1, vR (some 1)), (2, vR (some 5)), (3, vI x3)] [vI v9] (mem (P, some 5, some 22) I10 J11) Q
      obtain ⟨e12, h⟩ := h
      refine st_if_ne (tg := 116) (pc' := 114) dX4_read_111 (by decide) rfl e12 (fun c => ?_) (fun c => ?_)
      · replace h := h.1 c
        refine st_iinc (pc' := 119) (L' := [(3, vI (x3 + 1)), (4, vI (3 + (x3 * 14))), (0, vR (some 70)), (1, vR (some 1)), (2, vR (some 5))]) (j := 4) dX4_read_116 rfl (by decide) rfl rfl ?_
        refine st_goto (pc' := 69) dX4_read_119 (by decide) ?_
        refine WP_sub (L' := [(0, vR (some 70)), (1, vR (some 1)), (2, vR (some 5)), (3, vI (x3 + 1))]) [2, 3, 4, 0] rfl ?_
        exact h
      · replace h := h.2 c
        refine st_iconst (pc' := 115) dX4_read_114 rfl ?_
        exact st_iret (ty := .boolean) dX4_read_115 rfl (by decide) rfl h
end WX4

section WX2
set_option maxRecDepth 20000 in
set_option maxHeartbeats 4000000 in
theorem B_X2_of_0 {k : Nat} {P : Option Nat} {I : Nat → Nat → Int32} {J : Nat → Nat → Int64} {x1 : Int} {x2 : Int} {Q : Option AV → Mem → Prop} (hk : 0 ≤ k) (h : (0 ≤ ((3 + (x1 * 14)) + x2) ∧ ((3 + (x1 * 14)) + x2) < 87) ∧ (Q (some (vI (gi I 19 ((3 + (x1 * 14)) + x2).toNat))) (mem (P, some 5, some 22) I J))) : WP k LAY m_X2_of 0 [(0, vR (some 4)), (1, vI x1), (2, vI x2)] [] (mem (P, some 5, some 22) I J) Q := by
  refine st_aload_n (pc' := 1) dX2_of_0 rfl rfl (j := 0) rfl ?_
  refine G_X2_9_4 dX2_of_1 (pc' := 4) rfl rfl ?_
  refine st_iconst (pc' := 5) dX2_of_4 rfl ?_
  refine st_iload_n (pc' := 6) dX2_of_5 rfl rfl (j := 1) rfl ?_
  refine st_bipush (pc' := 8) dX2_of_6 rfl (by decide) ?_
  refine st_imul (pc' := 9) dX2_of_8 rfl ?_
  refine st_iadd (pc' := 10) dX2_of_9 rfl ?_
  refine st_iload_n (pc' := 11) dX2_of_10 rfl rfl (j := 2) rfl ?_
  refine st_iadd (pc' := 12) dX2_of_11 rfl ?_
  obtain ⟨e1, h⟩ := h
  refine st_iaload (pc' := 13) (v := (gi I 19 ((3 + (x1 * 14)) + x2).toNat)) dX2_of_12 rfl L_19 (by decide) e1 (show gi I 19 ((3 + (x1 * 14)) + x2).toNat = (gi I 19 ((3 + (x1 * 14)) + x2).toNat) from rfl) ?_
  exact st_iret (ty := .int) dX2_of_13 rfl rfl rfl h
set_option maxRecDepth 20000 in
set_option maxHeartbeats 4000000 in
theorem B_X2_known_0 {k : Nat} {P : Option Nat} {I : Nat → Nat → Int32} {J : Nat → Nat → Int64} {x1 : Int} {Q : Option AV → Mem → Prop} (hk : 1 ≤ k) (h : (0 ≤ ((3 + (x1 * 14)) + 1) ∧ ((3 + (x1 * 14)) + 1) < 87) ∧ ((0 ≤ ((3 + (x1 * 14)) + 2) ∧ ((3 + (x1 * 14)) + 2) < 87) ∧ (Q (some (vI (or32 (gi I 19 ((3 + (x1 * 14)) + 1).toNat) (gi I 19 ((3 + (x1 * 14)) + 2).toNat)))) (mem (P, some 5, some 22) I J)))) : WP k LAY m_X2_known 0 [(0, vR (some 4)), (1, vI x1)] [] (mem (P, some 5, some 22) I J) Q := by
  refine st_aload_n (pc' := 1) dX2_known_0 rfl rfl (j := 0) rfl ?_
  refine st_iload_n (pc' := 2) dX2_known_1 rfl rfl (j := 1) rfl ?_
  refine st_iconst (pc' := 3) dX2_known_2 rfl ?_
  refine st_callV (pc' := 6) (kc := k - 1) (E' := LAY) (cal := m_X2_of) (n := 2) (as := [vI x1, vI 1]) (S := []) dX2_known_3 rfl l_X2_64 k_X2_of rfl L_4 c_X2 rfl rfl (Nat.le_of_ble_eq_true rfl) (by omega) ⟨Nat.le_refl _, Nat.le_refl _, Nat.le_refl _, Nat.le_refl _⟩ (Q1 := fun r M' => WP k LAY m_X2_known 6 [(0, vR (some 4)), (1, vI x1)] (r.toList ++ []) M' Q) (WPm.of k_X2_of.1 (Nat.le_of_ble_eq_true rfl) (B_X2_of_0 (by omega) ?_)) (fun r M' q => q)
  obtain ⟨e1, h⟩ := h
  refine ⟨e1, ?_⟩
  change WP _ LAY m_X2_known 6 [(0, vR (some 4)), (1, vI x1)] [vI (gi I 19 ((3 + (x1 * 14)) + 1).toNat)] (mem (P, some 5, some 22) I J) Q
  refine st_aload_n (pc' := 7) dX2_known_6 rfl rfl (j := 0) rfl ?_
  refine st_iload_n (pc' := 8) dX2_known_7 rfl rfl (j := 1) rfl ?_
  refine st_iconst (pc' := 9) dX2_known_8 rfl ?_
  refine st_callV (pc' := 12) (kc := k - 1) (E' := LAY) (cal := m_X2_of) (n := 2) (as := [vI x1, vI 2]) (S := [vI (gi I 19 ((3 + (x1 * 14)) + 1).toNat)]) dX2_known_9 rfl l_X2_64 k_X2_of rfl L_4 c_X2 rfl rfl (Nat.le_of_ble_eq_true rfl) (by omega) ⟨Nat.le_refl _, Nat.le_refl _, Nat.le_refl _, Nat.le_refl _⟩ (Q1 := fun r M' => WP k LAY m_X2_known 12 [(0, vR (some 4)), (1, vI x1)] (r.toList ++ [vI (gi I 19 ((3 + (x1 * 14)) + 1).toNat)]) M' Q) (WPm.of k_X2_of.1 (Nat.le_of_ble_eq_true rfl) (B_X2_of_0 (by omega) ?_)) (fun r M' q => q)
  obtain ⟨e2, h⟩ := h
  refine ⟨e2, ?_⟩
  change WP _ LAY m_X2_known 12 [(0, vR (some 4)), (1, vI x1)] [vI (gi I 19 ((3 + (x1 * 14)) + 2).toNat), vI (gi I 19 ((3 + (x1 * 14)) + 1).toNat)] (mem (P, some 5, some 22) I J) Q
  refine st_ior (pc' := 13) (z := (or32 (gi I 19 ((3 + (x1 * 14)) + 1).toNat) (gi I 19 ((3 + (x1 * 14)) + 2).toNat))) dX2_known_12 rfl rfl ?_
  exact st_iret (ty := .int) dX2_known_13 rfl rfl rfl h
set_option maxRecDepth 20000 in
set_option maxHeartbeats 4000000 in
theorem B_X2_listed_0 {k : Nat} {P : Option Nat} {I : Nat → Nat → Int32} {J : Nat → Nat → Int64} {x1 : Int} {x2 : Int} {Q : Option AV → Mem → Prop} (hk : 1 ≤ k) (h : inR x2 ∧ ((x2 < 0 → (Q (some (vI (-1))) (mem (P, some 5, some 22) I J))) ∧ (¬ x2 < 0 → ((0 ≤ ((3 + (x1 * 14)) + 5) ∧ ((3 + (x1 * 14)) + 5) < 87) ∧ (((gi I 19 ((3 + (x1 * 14)) + 5).toNat) ≤ x2 → (Q (some (vI (-1))) (mem (P, some 5, some 22) I J))) ∧ (¬ (gi I 19 ((3 + (x1 * 14)) + 5).toNat) ≤ x2 → ((0 ≤ ((3 + (x1 * 14)) + (6 + x2)) ∧ ((3 + (x1 * 14)) + (6 + x2)) < 87) ∧ (Q (some (vI (gi I 19 ((3 + (x1 * 14)) + (6 + x2)).toNat))) (mem (P, some 5, some 22) I J))))))))) : WP k LAY m_X2_listed 0 [(0, vR (some 4)), (1, vI x1), (2, vI x2)] [] (mem (P, some 5, some 22) I J) Q := by
  refine st_iload_n (pc' := 1) dX2_listed_0 rfl rfl (j := 2) rfl ?_
  obtain ⟨e1, h⟩ := h
  refine st_if_lt (tg := 26) (pc' := 4) dX2_listed_1 (by decide) rfl e1 (fun c => ?_) (fun c => ?_)
  · replace h := h.1 c
    refine st_iconst (pc' := 27) dX2_listed_26 rfl ?_
    exact st_iret (ty := .int) dX2_listed_27 rfl rfl rfl h
  · replace h := h.2 c
    refine st_iload_n (pc' := 5) dX2_listed_4 rfl rfl (j := 2) rfl ?_
    refine st_aload_n (pc' := 6) dX2_listed_5 rfl rfl (j := 0) rfl ?_
    refine st_iload_n (pc' := 7) dX2_listed_6 rfl rfl (j := 1) rfl ?_
    refine st_iconst (pc' := 8) dX2_listed_7 rfl ?_
    refine st_callV (pc' := 11) (kc := k - 1) (E' := LAY) (cal := m_X2_of) (n := 2) (as := [vI x1, vI 5]) (S := [vI x2]) dX2_listed_8 rfl l_X2_64 k_X2_of rfl L_4 c_X2 rfl rfl (Nat.le_of_ble_eq_true rfl) (by omega) ⟨Nat.le_refl _, Nat.le_refl _, Nat.le_refl _, Nat.le_refl _⟩ (Q1 := fun r M' => WP k LAY m_X2_listed 11 [(0, vR (some 4)), (1, vI x1), (2, vI x2)] (r.toList ++ [vI x2]) M' Q) (WPm.of k_X2_of.1 (Nat.le_of_ble_eq_true rfl) (B_X2_of_0 (by omega) ?_)) (fun r M' q => q)
    obtain ⟨e2, h⟩ := h
    refine ⟨e2, ?_⟩
    change WP _ LAY m_X2_listed 11 [(0, vR (some 4)), (1, vI x1), (2, vI x2)] [vI (gi I 19 ((3 + (x1 * 14)) + 5).toNat), vI x2] (mem (P, some 5, some 22) I J) Q
    refine st_icmp_ge (tg := 26) (pc' := 14) dX2_listed_11 (by decide) rfl e1 (gi_in _ _ _) (fun c => ?_) (fun c => ?_)
    · replace h := h.1 c
      refine st_iconst (pc' := 27) dX2_listed_26 rfl ?_
      exact st_iret (ty := .int) dX2_listed_27 rfl rfl rfl h
    · replace h := h.2 c
      refine st_aload_n (pc' := 15) dX2_listed_14 rfl rfl (j := 0) rfl ?_
      refine st_iload_n (pc' := 16) dX2_listed_15 rfl rfl (j := 1) rfl ?_
      refine st_bipush (pc' := 18) dX2_listed_16 rfl (by decide) ?_
      refine st_iload_n (pc' := 19) dX2_listed_18 rfl rfl (j := 2) rfl ?_
      refine st_iadd (pc' := 20) dX2_listed_19 rfl ?_
      refine st_callV (pc' := 23) (kc := k - 1) (E' := LAY) (cal := m_X2_of) (n := 2) (as := [vI x1, vI (6 + x2)]) (S := []) dX2_listed_20 rfl l_X2_64 k_X2_of rfl L_4 c_X2 rfl rfl (Nat.le_of_ble_eq_true rfl) (by omega) ⟨Nat.le_refl _, Nat.le_refl _, Nat.le_refl _, Nat.le_refl _⟩ (Q1 := fun r M' => WP k LAY m_X2_listed 23 [(0, vR (some 4)), (1, vI x1), (2, vI x2)] (r.toList ++ []) M' Q) (WPm.of k_X2_of.1 (Nat.le_of_ble_eq_true rfl) (B_X2_of_0 (by omega) ?_)) (fun r M' q => q)
      obtain ⟨e3, h⟩ := h
      refine ⟨e3, ?_⟩
      change WP _ LAY m_X2_listed 23 [(0, vR (some 4)), (1, vI x1), (2, vI x2)] [vI (gi I 19 ((3 + (x1 * 14)) + (6 + x2)).toNat)] (mem (P, some 5, some 22) I J) Q
      refine st_goto (pc' := 27) dX2_listed_23 (by decide) ?_
      exact st_iret (ty := .int) dX2_listed_27 rfl rfl rfl h
set_option maxRecDepth 20000 in
set_option maxHeartbeats 4000000 in
theorem B_X2_sittingAt_0 {k : Nat} {P : Option Nat} {I : Nat → Nat → Int32} {J : Nat → Nat → Int64} {x1 : Int} {Q : Option AV → Mem → Prop} (hk : 0 ≤ k) (h : WP k LAY m_X2_sittingAt 4 [(0, vR (some 4)), (1, vI x1), (2, vI 0), (3, vI 0)] [] (mem (P, some 5, some 22) I J) Q) : WP k LAY m_X2_sittingAt 0 [(0, vR (some 4)), (1, vI x1)] [] (mem (P, some 5, some 22) I J) Q := by
  refine st_iconst (pc' := 1) dX2_sittingAt_0 rfl ?_
  refine st_istore_n (pc' := 2) (L' := [(2, vI 0), (0, vR (some 4)), (1, vI x1)]) dX2_sittingAt_1 rfl rfl (by decide) rfl ?_
  refine st_iconst (pc' := 3) dX2_sittingAt_2 rfl ?_
  refine st_istore_n (pc' := 4) (L' := [(3, vI 0), (2, vI 0), (0, vR (some 4)), (1, vI x1)]) dX2_sittingAt_3 rfl rfl (by decide) rfl ?_
  refine WP_sub (L' := [(0, vR (some 4)), (1, vI x1), (2, vI 0), (3, vI 0)]) [2, 3, 1, 0] rfl ?_
  exact h
set_option maxRecDepth 20000 in
set_option maxHeartbeats 4000000 in
theorem B_X2_sittingAt_4 {k : Nat} {P : Option Nat} {I : Nat → Nat → Int32} {J : Nat → Nat → Int64} {x1 : Int} {x2 : Int} {x3 : Int} {Q : Option AV → Mem → Prop} (hk : 1 ≤ k) (h : inR x3 ∧ (((gi I 6 2) ≤ x3 → (Q (some (vI x2)) (mem (P, some 5, some 22) I J))) ∧ (¬ (gi I 6 2) ≤ x3 → ((0 ≤ ((3 + (x3 * 14)) + 0) ∧ ((3 + (x3 * 14)) + 0) < 87) ∧ (inR x1 ∧ ((¬ (gi I 19 ((3 + (x3 * 14)) + 0).toNat) = x1 → (WP k LAY m_X2_sittingAt 4 [(0, vR (some 4)), (1, vI x1), (2, vI x2), (3, vI (x3 + 1))] [] (mem (P, some 5, some 22) I J) Q)) ∧ ((gi I 19 ((3 + (x3 * 14)) + 0).toNat) = x1 → (WP k LAY m_X2_sittingAt 4 [(0, vR (some 4)), (1, vI x1), (2, vI (x2 + 1)), (3, vI (x3 + 1))] [] (mem (P, some 5, some 22) I J) Q)))))))) : WP k LAY m_X2_sittingAt 4 [(0, vR (some 4)), (1, vI x1), (2, vI x2), (3, vI x3)] [] (mem (P, some 5, some 22) I J) Q := by
  refine st_iload_n (pc' := 5) dX2_sittingAt_4 rfl rfl (j := 3) rfl ?_
  refine st_aload_n (pc' := 6) dX2_sittingAt_5 rfl rfl (j := 0) rfl ?_
  refine G_X2_25_4 dX2_sittingAt_6 (pc' := 9) rfl rfl ?_
  refine G_X2_67_5 dX2_sittingAt_9 (pc' := 12) rfl rfl ?_
  refine st_iconst (pc' := 13) dX2_sittingAt_12 rfl ?_
  refine st_iaload (pc' := 14) (v := (gi I 6 2)) dX2_sittingAt_13 rfl L_6 (by decide) (by decide) (show gi I 6 2 = (gi I 6 2) from rfl) ?_
  obtain ⟨e1, h⟩ := h
  refine st_icmp_ge (tg := 36) (pc' := 17) dX2_sittingAt_14 (by decide) rfl e1 (gi_in _ _ _) (fun c => ?_) (fun c => ?_)
  · replace h := h.1 c
    refine st_iload_n (pc' := 37) dX2_sittingAt_36 rfl rfl (j := 2) rfl ?_
    exact st_iret (ty := .int) dX2_sittingAt_37 rfl rfl rfl h
  · replace h := h.2 c
    refine st_aload_n (pc' := 18) dX2_sittingAt_17 rfl rfl (j := 0) rfl ?_
    refine st_iload_n (pc' := 19) dX2_sittingAt_18 rfl rfl (j := 3) rfl ?_
    refine st_iconst (pc' := 20) dX2_sittingAt_19 rfl ?_
    refine st_callV (pc' := 23) (kc := k - 1) (E' := LAY) (cal := m_X2_of) (n := 2) (as := [vI x3, vI 0]) (S := []) dX2_sittingAt_20 rfl l_X2_64 k_X2_of rfl L_4 c_X2 rfl rfl (Nat.le_of_ble_eq_true rfl) (by omega) ⟨Nat.le_refl _, Nat.le_refl _, Nat.le_refl _, Nat.le_refl _⟩ (Q1 := fun r M' => WP k LAY m_X2_sittingAt 23 [(0, vR (some 4)), (1, vI x1), (2, vI x2), (3, vI x3)] (r.toList ++ []) M' Q) (WPm.of k_X2_of.1 (Nat.le_of_ble_eq_true rfl) (B_X2_of_0 (by omega) ?_)) (fun r M' q => q)
    obtain ⟨e2, h⟩ := h
    refine ⟨e2, ?_⟩
    change WP _ LAY m_X2_sittingAt 23 [(0, vR (some 4)), (1, vI x1), (2, vI x2), (3, vI x3)] [vI (gi I 19 ((3 + (x3 * 14)) + 0).toNat)] (mem (P, some 5, some 22) I J) Q
    refine st_iload_n (pc' := 24) dX2_sittingAt_23 rfl rfl (j := 1) rfl ?_
    obtain ⟨e3, h⟩ := h
    refine st_icmp_ne (tg := 30) (pc' := 27) dX2_sittingAt_24 (by decide) rfl (gi_in _ _ _) e3 (fun c => ?_) (fun c => ?_)
    · replace h := h.1 c
      refine st_iinc (pc' := 33) (L' := [(3, vI (x3 + 1)), (0, vR (some 4)), (1, vI x1), (2, vI x2)]) (j := 3) dX2_sittingAt_30 rfl (by decide) rfl rfl ?_
      refine st_goto (pc' := 4) dX2_sittingAt_33 (by decide) ?_
      refine WP_sub (L' := [(0, vR (some 4)), (1, vI x1), (2, vI x2), (3, vI (x3 + 1))]) [1, 2, 3, 0] rfl ?_
      exact h
    · replace h := h.2 c
      refine st_iinc (pc' := 30) (L' := [(2, vI (x2 + 1)), (0, vR (some 4)), (1, vI x1), (3, vI x3)]) (j := 2) dX2_sittingAt_27 rfl (by decide) rfl rfl ?_
      refine st_iinc (pc' := 33) (L' := [(3, vI (x3 + 1)), (2, vI (x2 + 1)), (0, vR (some 4)), (1, vI x1)]) (j := 3) dX2_sittingAt_30 rfl (by decide) rfl rfl ?_
      refine st_goto (pc' := 4) dX2_sittingAt_33 (by decide) ?_
      refine WP_sub (L' := [(0, vR (some 4)), (1, vI x1), (2, vI (x2 + 1)), (3, vI (x3 + 1))]) [2, 3, 1, 0] rfl ?_
      exact h
set_option maxRecDepth 20000 in
set_option maxHeartbeats 4000000 in
theorem B_X2_remember_0 {k : Nat} {P : Option Nat} {I : Nat → Nat → Int32} {J : Nat → Nat → Int64}  {Q : Option AV → Mem → Prop} (hk : 1 ≤ k) (h : ((0 : Int) ≤ ((gi I 4 4) * 87) ∧ ((gi I 4 4) * 87) + 87 ≤ 1740) ∧ (inR ((gi I 4 5) + 1) ∧ (Q none (mem (P, some 5, some 22) (si (si (si (fc I 19 0 21 ((gi I 4 4) * 87).toNat 87) 4 4 (rem32 ((gi I 4 4) + 1) 20)) 4 5 (min 20 ((gi I 4 5) + 1))) 4 6 ((gi I 4 6) + 1)) J)))) : WP k LAY m_X2_remember 0 [(0, vR (some 4))] [] (mem (P, some 5, some 22) I J) Q := by
  refine st_aload_n (pc' := 1) dX2_remember_0 rfl rfl (j := 0) rfl ?_
  refine G_X2_9_4 dX2_remember_1 (pc' := 4) rfl rfl ?_
  refine st_iconst (pc' := 5) dX2_remember_4 rfl ?_
  refine st_aload_n (pc' := 6) dX2_remember_5 rfl rfl (j := 0) rfl ?_
  refine G_X2_18_4 dX2_remember_6 (pc' := 9) rfl rfl ?_
  refine st_aload_n (pc' := 10) dX2_remember_9 rfl rfl (j := 0) rfl ?_
  refine G_X2_48_4 dX2_remember_10 (pc' := 13) rfl rfl ?_
  refine st_bipush (pc' := 15) dX2_remember_13 rfl (by decide) ?_
  refine st_imul (pc' := 16) dX2_remember_15 rfl ?_
  refine st_bipush (pc' := 18) dX2_remember_16 rfl (by decide) ?_
  obtain ⟨e1, h⟩ := h
  refine st_copy (pc' := 21) (M' := (mem (P, some 5, some 22) (fc I 19 0 21 ((gi I 4 4) * 87).toNat 87) J)) dX2_remember_18 rfl l_X2_42 a_copy L_19 L_21 (by decide) (by decide) (by decide) e1 (by omega) (Nat.le_of_ble_eq_true rfl) rfl ?_
  refine st_aload_n (pc' := 22) dX2_remember_21 rfl rfl (j := 0) rfl ?_
  refine st_aload_n (pc' := 23) dX2_remember_22 rfl rfl (j := 0) rfl ?_
  refine G_X2_48_4 dX2_remember_23 (pc' := 26) rfl rfl ?_
  rw [show gi (fc I 19 0 21 ((gi I 4 4) * 87).toNat 87) 4 4 = (gi I 4 4) from (gi_fcell _ _ _ _ _ _ (by decide))]
  refine st_iconst (pc' := 27) dX2_remember_26 rfl ?_
  refine st_iadd (pc' := 28) dX2_remember_27 rfl ?_
  refine st_bipush (pc' := 30) dX2_remember_28 rfl (by decide) ?_
  refine st_irem (pc' := 31) (z := (rem32 ((gi I 4 4) + 1) 20)) dX2_remember_30 rfl (by decide) rfl ?_
  refine P_X2_48_4 dX2_remember_31 (pc' := 34) rfl rfl ?_
  refine st_aload_n (pc' := 35) dX2_remember_34 rfl rfl (j := 0) rfl ?_
  refine st_bipush (pc' := 37) dX2_remember_35 rfl (by decide) ?_
  refine st_aload_n (pc' := 38) dX2_remember_37 rfl rfl (j := 0) rfl ?_
  refine G_X2_52_4 dX2_remember_38 (pc' := 41) rfl rfl ?_
  rw [show gi (si (fc I 19 0 21 ((gi I 4 4) * 87).toNat 87) 4 4 (rem32 ((gi I 4 4) + 1) 20)) 4 5 = (gi I 4 5) from ((gi_idx _ _ _ (by decide)).trans (gi_fcell _ _ _ _ _ _ (by decide)))]
  refine st_iconst (pc' := 42) dX2_remember_41 rfl ?_
  refine st_iadd (pc' := 43) dX2_remember_42 rfl ?_
  obtain ⟨e2, h⟩ := h
  refine st_callS (pc' := 46) (kc := k - 1) (E' := LAY) (cal := m_J9_min_7cf53) (n := 2) (as := [vI 20, vI ((gi I 4 5) + 1)]) (S := [vR (some 4)]) dX2_remember_43 rfl l_X2_58 k_J9_min_7cf53 rfl rfl (Nat.le_of_ble_eq_true rfl) (by omega) ⟨Nat.le_refl _, Nat.le_refl _, Nat.le_refl _, Nat.le_refl _⟩ (Q1 := fun r M' => WP k LAY m_X2_remember 46 [(0, vR (some 4))] (r.toList ++ [vR (some 4)]) M' Q) (S_J9_min (by omega) (by decide) e2 ?_) (fun r M' q => q)
  change WP _ LAY m_X2_remember 46 [(0, vR (some 4))] [vI (min 20 ((gi I 4 5) + 1)), vR (some 4)] (mem (P, some 5, some 22) (si (fc I 19 0 21 ((gi I 4 4) * 87).toNat 87) 4 4 (rem32 ((gi I 4 4) + 1) 20)) J) Q
  refine P_X2_52_4 dX2_remember_46 (pc' := 49) rfl rfl ?_
  refine st_aload_n (pc' := 50) dX2_remember_49 rfl rfl (j := 0) rfl ?_
  refine st_dup (pc' := 51) dX2_remember_50 rfl rfl ?_
  refine G_X2_55_4 dX2_remember_51 (pc' := 54) rfl rfl ?_
  rw [show gi (si (si (fc I 19 0 21 ((gi I 4 4) * 87).toNat 87) 4 4 (rem32 ((gi I 4 4) + 1) 20)) 4 5 (min 20 ((gi I 4 5) + 1))) 4 6 = (gi I 4 6) from ((gi_idx _ _ _ (by decide)).trans ((gi_idx _ _ _ (by decide)).trans (gi_fcell _ _ _ _ _ _ (by decide))))]
  refine st_iconst (pc' := 55) dX2_remember_54 rfl ?_
  refine st_iadd (pc' := 56) dX2_remember_55 rfl ?_
  refine P_X2_55_4 dX2_remember_56 (pc' := 59) rfl rfl ?_
  exact st_vret dX2_remember_59 rfl rfl h
set_option maxRecDepth 20000 in
set_option maxHeartbeats 4000000 in
theorem B_X2_set_0 {k : Nat} {P : Option Nat} {I : Nat → Nat → Int32} {J : Nat → Nat → Int64} {x1 : Int} {x2 : Int} {x3 : Int} {Q : Option AV → Mem → Prop} (hk : 0 ≤ k) (h : (0 ≤ ((3 + (x1 * 14)) + x2) ∧ ((3 + (x1 * 14)) + x2) < 87) ∧ (Q none (mem (P, some 5, some 22) (si I 19 ((3 + (x1 * 14)) + x2).toNat x3) J))) : WP k LAY m_X2_set 0 [(0, vR (some 4)), (1, vI x1), (2, vI x2), (3, vI x3)] [] (mem (P, some 5, some 22) I J) Q := by
  refine st_aload_n (pc' := 1) dX2_set_0 rfl rfl (j := 0) rfl ?_
  refine G_X2_9_4 dX2_set_1 (pc' := 4) rfl rfl ?_
  refine st_iconst (pc' := 5) dX2_set_4 rfl ?_
  refine st_iload_n (pc' := 6) dX2_set_5 rfl rfl (j := 1) rfl ?_
  refine st_bipush (pc' := 8) dX2_set_6 rfl (by decide) ?_
  refine st_imul (pc' := 9) dX2_set_8 rfl ?_
  refine st_iadd (pc' := 10) dX2_set_9 rfl ?_
  refine st_iload_n (pc' := 11) dX2_set_10 rfl rfl (j := 2) rfl ?_
  refine st_iadd (pc' := 12) dX2_set_11 rfl ?_
  refine st_iload_n (pc' := 13) dX2_set_12 rfl rfl (j := 3) rfl ?_
  obtain ⟨e1, h⟩ := h
  refine st_iastore (pc' := 14) (M' := (mem (P, some 5, some 22) (si I 19 ((3 + (x1 * 14)) + x2).toNat x3) J)) dX2_set_13 rfl L_19 (by decide) e1 rfl ?_
  exact st_vret dX2_set_14 rfl rfl h
set_option maxRecDepth 20000 in
set_option maxHeartbeats 4000000 in
theorem B_X2_toldAsKept_0 {k : Nat} {P : Option Nat} {I : Nat → Nat → Int32} {J : Nat → Nat → Int64}  {Q : Option AV → Mem → Prop} (hk : 1 ≤ k) (h : Q (some (vI (min 60 (gi I 19 2)))) (mem (P, some 5, some 22) I J)) : WP k LAY m_X2_toldAsKept 0 [(0, vR (some 4))] [] (mem (P, some 5, some 22) I J) Q := by
  refine st_bipush (pc' := 2) dX2_toldAsKept_0 rfl (by decide) ?_
  refine st_aload_n (pc' := 3) dX2_toldAsKept_2 rfl rfl (j := 0) rfl ?_
  refine G_X2_9_4 dX2_toldAsKept_3 (pc' := 6) rfl rfl ?_
  refine st_iconst (pc' := 7) dX2_toldAsKept_6 rfl ?_
  refine st_iaload (pc' := 8) (v := (gi I 19 2)) dX2_toldAsKept_7 rfl L_19 (by decide) (by decide) (show gi I 19 2 = (gi I 19 2) from rfl) ?_
  refine st_callS (pc' := 11) (kc := k - 1) (E' := LAY) (cal := m_J9_min_7cf53) (n := 2) (as := [vI 60, vI (gi I 19 2)]) (S := []) dX2_toldAsKept_8 rfl l_X2_58 k_J9_min_7cf53 rfl rfl (Nat.le_of_ble_eq_true rfl) (by omega) ⟨Nat.le_refl _, Nat.le_refl _, Nat.le_refl _, Nat.le_refl _⟩ (Q1 := fun r M' => WP k LAY m_X2_toldAsKept 11 [(0, vR (some 4))] (r.toList ++ []) M' Q) (S_J9_min (by omega) (by decide) (gi_in _ _ _) ?_) (fun r M' q => q)
  change WP _ LAY m_X2_toldAsKept 11 [(0, vR (some 4))] [vI (min 60 (gi I 19 2))] (mem (P, some 5, some 22) I J) Q
  exact st_iret (ty := .int) dX2_toldAsKept_11 rfl rfl rfl h
set_option maxRecDepth 20000 in
set_option maxHeartbeats 4000000 in
theorem B_X2_knownByAll_0 {k : Nat} {P : Option Nat} {I : Nat → Nat → Int32} {J : Nat → Nat → Int64}  {Q : Option AV → Mem → Prop} (hk : 0 ≤ k) (h : WP k LAY m_X2_knownByAll 4 [(0, vR (some 4)), (1, vI 0), (2, vI 0)] [] (mem (P, some 5, some 22) I J) Q) : WP k LAY m_X2_knownByAll 0 [(0, vR (some 4))] [] (mem (P, some 5, some 22) I J) Q := by
  refine st_iconst (pc' := 1) dX2_knownByAll_0 rfl ?_
  refine st_istore_n (pc' := 2) (L' := [(1, vI 0), (0, vR (some 4))]) dX2_knownByAll_1 rfl rfl (by decide) rfl ?_
  refine st_iconst (pc' := 3) dX2_knownByAll_2 rfl ?_
  refine st_istore_n (pc' := 4) (L' := [(2, vI 0), (1, vI 0), (0, vR (some 4))]) dX2_knownByAll_3 rfl rfl (by decide) rfl ?_
  refine WP_sub (L' := [(0, vR (some 4)), (1, vI 0), (2, vI 0)]) [2, 1, 0] rfl ?_
  exact h
set_option maxRecDepth 20000 in
set_option maxHeartbeats 4000000 in
theorem B_X2_knownByAll_4 {k : Nat} {P : Option Nat} {I : Nat → Nat → Int32} {J : Nat → Nat → Int64} {x1 : Int} {x2 : Int} {Q : Option AV → Mem → Prop} (hk : 2 ≤ k) (h : inR x2 ∧ (((gi I 6 2) ≤ x2 → (Q (some (vI x1)) (mem (P, some 5, some 22) I J))) ∧ (¬ (gi I 6 2) ≤ x2 → ((0 ≤ ((3 + (x2 * 14)) + 1) ∧ ((3 + (x2 * 14)) + 1) < 87) ∧ ((0 ≤ ((3 + (x2 * 14)) + 2) ∧ ((3 + (x2 * 14)) + 2) < 87) ∧ (∀ y4 : Int, y4 = (x1 + (bc32 (or32 (gi I 19 ((3 + (x2 * 14)) + 1).toNat) (gi I 19 ((3 + (x2 * 14)) + 2).toNat)))) → (WP k LAY m_X2_knownByAll 4 [(0, vR (some 4)), (1, vI y4), (2, vI (x2 + 1))] [] (mem (P, some 5, some 22) I J) Q))))))) : WP k LAY m_X2_knownByAll 4 [(0, vR (some 4)), (1, vI x1), (2, vI x2)] [] (mem (P, some 5, some 22) I J) Q := by
  refine st_iload_n (pc' := 5) dX2_knownByAll_4 rfl rfl (j := 2) rfl ?_
  refine st_aload_n (pc' := 6) dX2_knownByAll_5 rfl rfl (j := 0) rfl ?_
  refine G_X2_25_4 dX2_knownByAll_6 (pc' := 9) rfl rfl ?_
  refine G_X2_67_5 dX2_knownByAll_9 (pc' := 12) rfl rfl ?_
  refine st_iconst (pc' := 13) dX2_knownByAll_12 rfl ?_
  refine st_iaload (pc' := 14) (v := (gi I 6 2)) dX2_knownByAll_13 rfl L_6 (by decide) (by decide) (show gi I 6 2 = (gi I 6 2) from rfl) ?_
  obtain ⟨e1, h⟩ := h
  refine st_icmp_ge (tg := 34) (pc' := 17) dX2_knownByAll_14 (by decide) rfl e1 (gi_in _ _ _) (fun c => ?_) (fun c => ?_)
  · replace h := h.1 c
    refine st_iload_n (pc' := 35) dX2_knownByAll_34 rfl rfl (j := 1) rfl ?_
    exact st_iret (ty := .int) dX2_knownByAll_35 rfl rfl rfl h
  · replace h := h.2 c
    refine st_iload_n (pc' := 18) dX2_knownByAll_17 rfl rfl (j := 1) rfl ?_
    refine st_aload_n (pc' := 19) dX2_knownByAll_18 rfl rfl (j := 0) rfl ?_
    refine st_iload_n (pc' := 20) dX2_knownByAll_19 rfl rfl (j := 2) rfl ?_
    refine st_callV (pc' := 23) (kc := k - 1) (E' := LAY) (cal := m_X2_known) (n := 1) (as := [vI x2]) (S := [vI x1]) dX2_knownByAll_20 rfl l_X2_72 k_X2_known rfl L_4 c_X2 rfl rfl (Nat.le_of_ble_eq_true rfl) (by omega) ⟨Nat.le_refl _, Nat.le_refl _, Nat.le_refl _, Nat.le_refl _⟩ (Q1 := fun r M' => WP k LAY m_X2_knownByAll 23 [(0, vR (some 4)), (1, vI x1), (2, vI x2)] (r.toList ++ [vI x1]) M' Q) (WPm.of k_X2_known.1 (Nat.le_of_ble_eq_true rfl) (B_X2_known_0 (by omega) ?_)) (fun r M' q => q)
    obtain ⟨e2, h⟩ := h
    refine ⟨e2, ?_⟩
    obtain ⟨e3, h⟩ := h
    refine ⟨e3, ?_⟩
    change WP _ LAY m_X2_knownByAll 23 [(0, vR (some 4)), (1, vI x1), (2, vI x2)] [vI (or32 (gi I 19 ((3 + (x2 * 14)) + 1).toNat) (gi I 19 ((3 + (x2 * 14)) + 2).toNat)), vI x1] (mem (P, some 5, some 22) I J) Q
    refine st_callS (pc' := 26) (kc := k - 1) (E' := LAY) (cal := m_J6_bitCount_0f7a4) (n := 1) (as := [vI (or32 (gi I 19 ((3 + (x2 * 14)) + 1).toNat) (gi I 19 ((3 + (x2 * 14)) + 2).toNat))]) (S := [vI x1]) dX2_knownByAll_23 rfl l_X2_76 k_J6_bitCount_0f7a4 rfl rfl (Nat.le_of_ble_eq_true rfl) (by omega) ⟨Nat.le_refl _, Nat.le_refl _, Nat.le_refl _, Nat.le_refl _⟩ (Q1 := fun r M' => WP k LAY m_X2_knownByAll 26 [(0, vR (some 4)), (1, vI x1), (2, vI x2)] (r.toList ++ [vI x1]) M' Q) (S_J6_bitCount (by omega)  ?_) (fun r M' q => q)
    change WP _ LAY m_X2_knownByAll 26 [(0, vR (some 4)), (1, vI x1), (2, vI x2)] [vI (bc32 (or32 (gi I 19 ((3 + (x2 * 14)) + 1).toNat) (gi I 19 ((3 + (x2 * 14)) + 2).toNat))), vI x1] (mem (P, some 5, some 22) I J) Q
    refine st_iadd (pc' := 27) dX2_knownByAll_26 rfl ?_
    obtain ⟨y4, hy4⟩ : ∃ y : Int, y = (x1 + (bc32 (or32 (gi I 19 ((3 + (x2 * 14)) + 1).toNat) (gi I 19 ((3 + (x2 * 14)) + 2).toNat)))) := ⟨_, rfl⟩
    rw [← hy4]
    replace h := h y4 hy4
    refine st_istore_n (pc' := 28) (L' := [(1, vI y4), (0, vR (some 4)), (2, vI x2)]) dX2_knownByAll_27 rfl rfl (by decide) rfl ?_
    refine st_iinc (pc' := 31) (L' := [(2, vI (x2 + 1)), (1, vI y4), (0, vR (some 4))]) (j := 2) dX2_knownByAll_28 rfl (by decide) rfl rfl ?_
    refine st_goto (pc' := 4) dX2_knownByAll_31 (by decide) ?_
    refine WP_sub (L' := [(0, vR (some 4)), (1, vI y4), (2, vI (x2 + 1))]) [2, 1, 0] rfl ?_
    exact h
set_option maxRecDepth 20000 in
set_option maxHeartbeats 4000000 in
theorem B_X2_forget_0 {k : Nat} {P : Option Nat} {I : Nat → Nat → Int32} {J : Nat → Nat → Int64}  {Q : Option AV → Mem → Prop} (hk : 0 ≤ k) (h : Q none (mem (P, some 5, some 22) (si (si (si I 4 4 0) 4 5 0) 4 6 ((gi I 4 6) + 1)) J)) : WP k LAY m_X2_forget 0 [(0, vR (some 4))] [] (mem (P, some 5, some 22) I J) Q := by
  refine st_aload_n (pc' := 1) dX2_forget_0 rfl rfl (j := 0) rfl ?_
  refine st_iconst (pc' := 2) dX2_forget_1 rfl ?_
  refine P_X2_48_4 dX2_forget_2 (pc' := 5) rfl rfl ?_
  refine st_aload_n (pc' := 6) dX2_forget_5 rfl rfl (j := 0) rfl ?_
  refine st_iconst (pc' := 7) dX2_forget_6 rfl ?_
  refine P_X2_52_4 dX2_forget_7 (pc' := 10) rfl rfl ?_
  refine st_aload_n (pc' := 11) dX2_forget_10 rfl rfl (j := 0) rfl ?_
  refine st_dup (pc' := 12) dX2_forget_11 rfl rfl ?_
  refine G_X2_55_4 dX2_forget_12 (pc' := 15) rfl rfl ?_
  rw [show gi (si (si I 4 4 0) 4 5 0) 4 6 = (gi I 4 6) from ((gi_idx _ _ _ (by decide)).trans (gi_idx _ _ _ (by decide)))]
  refine st_iconst (pc' := 16) dX2_forget_15 rfl ?_
  refine st_iadd (pc' := 17) dX2_forget_16 rfl ?_
  refine P_X2_55_4 dX2_forget_17 (pc' := 20) rfl rfl ?_
  exact st_vret dX2_forget_20 rfl rfl h
set_option maxRecDepth 20000 in
set_option maxHeartbeats 4000000 in
theorem B_X2_open_0 {k : Nat} {P : Option Nat} {I : Nat → Nat → Int32} {J : Nat → Nat → Int64}  {Q : Option AV → Mem → Prop} (hk : 1 ≤ k) (h : WP k LAY m_X2_open 15 [(0, vR (some 4)), (2, vI 0)] [] (mem (P, some 22, some 22) (flI I 19 87 0) J) Q) : WP k LAY m_X2_open 0 [(0, vR (some 4)), (1, vR (some 22))] [] (mem (P, some 5, some 22) I J) Q := by
  refine st_aload_n (pc' := 1) dX2_open_0 rfl rfl (j := 0) rfl ?_
  refine st_aload_n (pc' := 2) dX2_open_1 rfl rfl (j := 1) rfl ?_
  refine P_X2_25_4 dX2_open_2 (pc' := 5) rfl rfl ?_
  change WP _ _ _ _ _ _ (mem (P, some 22, some 22) I J) _
  refine st_aload_n (pc' := 6) dX2_open_5 rfl rfl (j := 0) rfl ?_
  refine G_X2_9_4 dX2_open_6 (pc' := 9) rfl rfl ?_
  refine st_iconst (pc' := 10) dX2_open_9 rfl ?_
  refine st_callS (pc' := 13) (kc := k - 1) (E' := LAY) (cal := m_J7_fill_53178) (n := 2) (as := [vR (some 19), vI 0]) (S := []) dX2_open_10 rfl l_X2_29 k_J7_fill_53178 rfl rfl (Nat.le_of_ble_eq_true rfl) (by omega) ⟨Nat.le_refl _, Nat.le_refl _, Nat.le_refl _, Nat.le_refl _⟩ (Q1 := fun r M' => WP k LAY m_X2_open 13 [(0, vR (some 4)), (1, vR (some 22))] (r.toList ++ []) M' Q) (S_J7_fill (by omega) L_19 (by decide) ?_) (fun r M' q => q)
  change WP _ LAY m_X2_open 13 [(0, vR (some 4)), (1, vR (some 22))] [] (mem (P, some 22, some 22) (flI I 19 87 0) J) Q
  refine st_iconst (pc' := 14) dX2_open_13 rfl ?_
  refine st_istore_n (pc' := 15) (L' := [(2, vI 0), (0, vR (some 4)), (1, vR (some 22))]) dX2_open_14 rfl rfl (by decide) rfl ?_
  refine WP_sub (L' := [(0, vR (some 4)), (2, vI 0)]) [1, 0] rfl ?_
  exact h
set_option maxRecDepth 20000 in
set_option maxHeartbeats 4000000 in
theorem B_X2_open_15 {k : Nat} {P : Option Nat} {I : Nat → Nat → Int32} {J : Nat → Nat → Int64} {x2 : Int} {Q : Option AV → Mem → Prop} (hk : 1 ≤ k) (h : inR x2 ∧ ((6 ≤ x2 → (Q none (mem (P, some 5, some 22) (si (si (si I 4 4 0) 4 5 0) 4 6 ((gi I 4 6) + 1)) J))) ∧ (¬ 6 ≤ x2 → ((0 ≤ ((3 + (x2 * 14)) + 3) ∧ ((3 + (x2 * 14)) + 3) < 87) ∧ (WP k LAY m_X2_open 15 [(0, vR (some 4)), (2, vI (x2 + 1))] [] (mem (P, some 5, some 22) (si I 19 ((3 + (x2 * 14)) + 3).toNat (-1)) J) Q))))) : WP k LAY m_X2_open 15 [(0, vR (some 4)), (2, vI x2)] [] (mem (P, some 5, some 22) I J) Q := by
  refine st_iload_n (pc' := 16) dX2_open_15 rfl rfl (j := 1) rfl ?_
  refine st_bipush (pc' := 18) dX2_open_16 rfl (by decide) ?_
  obtain ⟨e1, h⟩ := h
  refine st_icmp_ge (tg := 34) (pc' := 21) dX2_open_18 (by decide) rfl e1 (by decide) (fun c => ?_) (fun c => ?_)
  · replace h := h.1 c
    refine st_aload_n (pc' := 35) dX2_open_34 rfl rfl (j := 0) rfl ?_
    refine st_callV (pc' := 38) (kc := k - 1) (E' := LAY) (cal := m_X2_forget) (n := 0) (as := []) (S := []) dX2_open_35 rfl l_X2_39 k_X2_forget rfl L_4 c_X2 rfl rfl (Nat.le_of_ble_eq_true rfl) (by omega) ⟨Nat.le_refl _, Nat.le_refl _, Nat.le_refl _, Nat.le_refl _⟩ (Q1 := fun r M' => WP k LAY m_X2_open 38 [(0, vR (some 4)), (2, vI x2)] (r.toList ++ []) M' Q) (WPm.of k_X2_forget.1 (Nat.le_of_ble_eq_true rfl) (B_X2_forget_0 (by omega) ?_)) (fun r M' q => q)
    change WP _ LAY m_X2_open 38 [(0, vR (some 4)), (2, vI x2)] [] (mem (P, some 5, some 22) (si (si (si I 4 4 0) 4 5 0) 4 6 ((gi I 4 6) + 1)) J) Q
    exact st_vret dX2_open_38 rfl rfl h
  · replace h := h.2 c
    refine st_aload_n (pc' := 22) dX2_open_21 rfl rfl (j := 0) rfl ?_
    refine st_iload_n (pc' := 23) dX2_open_22 rfl rfl (j := 1) rfl ?_
    refine st_iconst (pc' := 24) dX2_open_23 rfl ?_
    refine st_iconst (pc' := 25) dX2_open_24 rfl ?_
    refine st_callV (pc' := 28) (kc := k - 1) (E' := LAY) (cal := m_X2_set) (n := 3) (as := [vI x2, vI 3, vI (-1)]) (S := []) dX2_open_25 rfl l_X2_35 k_X2_set rfl L_4 c_X2 rfl rfl (Nat.le_of_ble_eq_true rfl) (by omega) ⟨Nat.le_refl _, Nat.le_refl _, Nat.le_refl _, Nat.le_refl _⟩ (Q1 := fun r M' => WP k LAY m_X2_open 28 [(0, vR (some 4)), (2, vI x2)] (r.toList ++ []) M' Q) (WPm.of k_X2_set.1 (Nat.le_of_ble_eq_true rfl) (B_X2_set_0 (by omega) ?_)) (fun r M' q => q)
    obtain ⟨e2, h⟩ := h
    refine ⟨e2, ?_⟩
    change WP _ LAY m_X2_open 28 [(0, vR (some 4)), (2, vI x2)] [] (mem (P, some 5, some 22) (si I 19 ((3 + (x2 * 14)) + 3).toNat (-1)) J) Q
    refine st_iinc (pc' := 31) (L' := [(2, vI (x2 + 1)), (0, vR (some 4))]) (j := 1) dX2_open_28 rfl (by decide) rfl rfl ?_
    refine st_goto (pc' := 15) dX2_open_31 (by decide) ?_
    refine WP_sub (L' := [(0, vR (some 4)), (2, vI (x2 + 1))]) [1, 0] rfl ?_
    exact h
set_option maxRecDepth 20000 in
set_option maxHeartbeats 4000000 in
theorem B_X2_placeOf_0 {k : Nat} {P : Option Nat} {I : Nat → Nat → Int32} {J : Nat → Nat → Int64} {x1 : Int} {x2 : Int} {Q : Option AV → Mem → Prop} (hk : 1 ≤ k) (h : (0 ≤ ((3 + (x1 * 14)) + 5) ∧ ((3 + (x1 * 14)) + 5) < 87) ∧ (WP k LAY m_X2_placeOf 10 [(0, vR (some 4)), (1, vI x1), (2, vI x2), (3, vI (gi I 19 ((3 + (x1 * 14)) + 5).toNat)), (4, vI 0)] [] (mem (P, some 5, some 22) I J) Q)) : WP k LAY m_X2_placeOf 0 [(0, vR (some 4)), (1, vI x1), (2, vI x2)] [] (mem (P, some 5, some 22) I J) Q := by
  refine st_aload_n (pc' := 1) dX2_placeOf_0 rfl rfl (j := 0) rfl ?_
  refine st_iload_n (pc' := 2) dX2_placeOf_1 rfl rfl (j := 1) rfl ?_
  refine st_iconst (pc' := 3) dX2_placeOf_2 rfl ?_
  refine st_callV (pc' := 6) (kc := k - 1) (E' := LAY) (cal := m_X2_of) (n := 2) (as := [vI x1, vI 5]) (S := []) dX2_placeOf_3 rfl l_X2_64 k_X2_of rfl L_4 c_X2 rfl rfl (Nat.le_of_ble_eq_true rfl) (by omega) ⟨Nat.le_refl _, Nat.le_refl _, Nat.le_refl _, Nat.le_refl _⟩ (Q1 := fun r M' => WP k LAY m_X2_placeOf 6 [(0, vR (some 4)), (1, vI x1), (2, vI x2)] (r.toList ++ []) M' Q) (WPm.of k_X2_of.1 (Nat.le_of_ble_eq_true rfl) (B_X2_of_0 (by omega) ?_)) (fun r M' q => q)
  obtain ⟨e1, h⟩ := h
  refine ⟨e1, ?_⟩
  change WP _ LAY m_X2_placeOf 6 [(0, vR (some 4)), (1, vI x1), (2, vI x2)] [vI (gi I 19 ((3 + (x1 * 14)) + 5).toNat)] (mem (P, some 5, some 22) I J) Q
  refine st_istore_n (pc' := 7) (L' := [(3, vI (gi I 19 ((3 + (x1 * 14)) + 5).toNat)), (0, vR (some 4)), (1, vI x1), (2, vI x2)]) dX2_placeOf_6 rfl rfl (by decide) rfl ?_
  refine st_iconst (pc' := 8) dX2_placeOf_7 rfl ?_
  refine st_istore (pc' := 10) (L' := [(4, vI 0), (3, vI (gi I 19 ((3 + (x1 * 14)) + 5).toNat)), (0, vR (some 4)), (1, vI x1), (2, vI x2)]) dX2_placeOf_8 rfl (by decide) rfl ?_
  refine WP_sub (L' := [(0, vR (some 4)), (1, vI x1), (2, vI x2), (3, vI (gi I 19 ((3 + (x1 * 14)) + 5).toNat)), (4, vI 0)]) [2, 3, 4, 1, 0] rfl ?_
  exact h
set_option maxRecDepth 20000 in
set_option maxHeartbeats 4000000 in
theorem B_X2_placeOf_10 {k : Nat} {P : Option Nat} {I : Nat → Nat → Int32} {J : Nat → Nat → Int64} {x1 : Int} {x2 : Int} {x3 : Int} {x4 : Int} {Q : Option AV → Mem → Prop} (hk : 1 ≤ k) (h : inR x4 ∧ (inR x3 ∧ ((x3 ≤ x4 → (Q (some (vI x4)) (mem (P, some 5, some 22) I J))) ∧ (¬ x3 ≤ x4 → ((0 ≤ ((3 + (x1 * 14)) + (6 + x4)) ∧ ((3 + (x1 * 14)) + (6 + x4)) < 87) ∧ (inR x2 ∧ (((gi I 19 ((3 + (x1 * 14)) + (6 + x4)).toNat) = x2 → (Q (some (vI x4)) (mem (P, some 5, some 22) I J))) ∧ (¬ (gi I 19 ((3 + (x1 * 14)) + (6 + x4)).toNat) = x2 → (WP k LAY m_X2_placeOf 10 [(0, vR (some 4)), (1, vI x1), (2, vI x2), (3, vI x3), (4, vI (x4 + 1))] [] (mem (P, some 5, some 22) I J) Q))))))))) : WP k LAY m_X2_placeOf 10 [(0, vR (some 4)), (1, vI x1), (2, vI x2), (3, vI x3), (4, vI x4)] [] (mem (P, some 5, some 22) I J) Q := by
  refine st_iload (pc' := 12) dX2_placeOf_10 rfl (j := 4) rfl ?_
  refine st_iload_n (pc' := 13) dX2_placeOf_12 rfl rfl (j := 3) rfl ?_
  obtain ⟨e1, h⟩ := h
  obtain ⟨e2, h⟩ := h
  refine st_icmp_ge (tg := 36) (pc' := 16) dX2_placeOf_13 (by decide) rfl e1 e2 (fun c => ?_) (fun c => ?_)
  · replace h := h.1 c
    refine st_iload (pc' := 38) dX2_placeOf_36 rfl (j := 4) rfl ?_
    exact st_iret (ty := .int) dX2_placeOf_38 rfl rfl rfl h
  · replace h := h.2 c
    refine st_aload_n (pc' := 17) dX2_placeOf_16 rfl rfl (j := 0) rfl ?_
    refine st_iload_n (pc' := 18) dX2_placeOf_17 rfl rfl (j := 1) rfl ?_
    refine st_bipush (pc' := 20) dX2_placeOf_18 rfl (by decide) ?_
    refine st_iload (pc' := 22) dX2_placeOf_20 rfl (j := 4) rfl ?_
    refine st_iadd (pc' := 23) dX2_placeOf_22 rfl ?_
    refine st_callV (pc' := 26) (kc := k - 1) (E' := LAY) (cal := m_X2_of) (n := 2) (as := [vI x1, vI (6 + x4)]) (S := []) dX2_placeOf_23 rfl l_X2_64 k_X2_of rfl L_4 c_X2 rfl rfl (Nat.le_of_ble_eq_true rfl) (by omega) ⟨Nat.le_refl _, Nat.le_refl _, Nat.le_refl _, Nat.le_refl _⟩ (Q1 := fun r M' => WP k LAY m_X2_placeOf 26 [(0, vR (some 4)), (1, vI x1), (2, vI x2), (3, vI x3), (4, vI x4)] (r.toList ++ []) M' Q) (WPm.of k_X2_of.1 (Nat.le_of_ble_eq_true rfl) (B_X2_of_0 (by omega) ?_)) (fun r M' q => q)
    obtain ⟨e3, h⟩ := h
    refine ⟨e3, ?_⟩
    change WP _ LAY m_X2_placeOf 26 [(0, vR (some 4)), (1, vI x1), (2, vI x2), (3, vI x3), (4, vI x4)] [vI (gi I 19 ((3 + (x1 * 14)) + (6 + x4)).toNat)] (mem (P, some 5, some 22) I J) Q
    refine st_iload_n (pc' := 27) dX2_placeOf_26 rfl rfl (j := 2) rfl ?_
    obtain ⟨e4, h⟩ := h
    refine st_icmp_eq (tg := 36) (pc' := 30) dX2_placeOf_27 (by decide) rfl (gi_in _ _ _) e4 (fun c => ?_) (fun c => ?_)
    · replace h := h.1 c
      refine st_iload (pc' := 38) dX2_placeOf_36 rfl (j := 4) rfl ?_
      exact st_iret (ty := .int) dX2_placeOf_38 rfl rfl rfl h
    · replace h := h.2 c
      refine st_iinc (pc' := 33) (L' := [(4, vI (x4 + 1)), (0, vR (some 4)), (1, vI x1), (2, vI x2), (3, vI x3)]) (j := 4) dX2_placeOf_30 rfl (by decide) rfl rfl ?_
      refine st_goto (pc' := 10) dX2_placeOf_33 (by decide) ?_
      refine WP_sub (L' := [(0, vR (some 4)), (1, vI x1), (2, vI x2), (3, vI x3), (4, vI (x4 + 1))]) [1, 2, 3, 4, 0] rfl ?_
      exact h
set_option maxRecDepth 20000 in
set_option maxHeartbeats 4000000 in
theorem B_X2_mayList_0 {k : Nat} {P : Option Nat} {I : Nat → Nat → Int32} {J : Nat → Nat → Int64} {x1 : Int} {x2 : Int} {Q : Option AV → Mem → Prop} (hk : 2 ≤ k) (h : (0 ≤ ((3 + (x1 * 14)) + 5) ∧ ((3 + (x1 * 14)) + 5) < 87) ∧ ((8 ≤ (gi I 19 ((3 + (x1 * 14)) + 5).toNat) → (Q (some (vI 0)) (mem (P, some 5, some 22) I J))) ∧ (¬ 8 ≤ (gi I 19 ((3 + (x1 * 14)) + 5).toNat) → ((0 ≤ ((3 + (x1 * 14)) + 1) ∧ ((3 + (x1 * 14)) + 1) < 87) ∧ ((0 ≤ ((3 + (x1 * 14)) + 2) ∧ ((3 + (x1 * 14)) + 2) < 87) ∧ ((¬ (and32 (or32 (gi I 19 ((3 + (x1 * 14)) + 1).toNat) (gi I 19 ((3 + (x1 * 14)) + 2).toNat)) (shl32 1 x2)) = 0 → (Q (some (vI 0)) (mem (P, some 5, some 22) I J))) ∧ ((and32 (or32 (gi I 19 ((3 + (x1 * 14)) + 1).toNat) (gi I 19 ((3 + (x1 * 14)) + 2).toNat)) (shl32 1 x2)) = 0 → (WPm (k - 1) LAY m_X2_placeOf [vR (some 4), vI x1, vI x2] (mem (P, some 5, some 22) I J) (retI (fun v4 I5 J6 => inR v4 ∧ ((¬ v4 = (gi I 19 ((3 + (x1 * 14)) + 5).toNat) → (Q (some (vI 0)) (mem (P, some 5, some 22) I5 J6))) ∧ (v4 = (gi I 19 ((3 + (x1 * 14)) + 5).toNat) → (Q (some (vI 1)) (mem (P, some 5, some 22) I5 J6))))) (P, some 5, some 22)))))))))) : WP k LAY m_X2_mayList 0 [(0, vR (some 4)), (1, vI x1), (2, vI x2)] [] (mem (P, some 5, some 22) I J) Q := by
  refine st_aload_n (pc' := 1) dX2_mayList_0 rfl rfl (j := 0) rfl ?_
  refine st_iload_n (pc' := 2) dX2_mayList_1 rfl rfl (j := 1) rfl ?_
  refine st_iconst (pc' := 3) dX2_mayList_2 rfl ?_
  refine st_callV (pc' := 6) (kc := k - 1) (E' := LAY) (cal := m_X2_of) (n := 2) (as := [vI x1, vI 5]) (S := []) dX2_mayList_3 rfl l_X2_64 k_X2_of rfl L_4 c_X2 rfl rfl (Nat.le_of_ble_eq_true rfl) (by omega) ⟨Nat.le_refl _, Nat.le_refl _, Nat.le_refl _, Nat.le_refl _⟩ (Q1 := fun r M' => WP k LAY m_X2_mayList 6 [(0, vR (some 4)), (1, vI x1), (2, vI x2)] (r.toList ++ []) M' Q) (WPm.of k_X2_of.1 (Nat.le_of_ble_eq_true rfl) (B_X2_of_0 (by omega) ?_)) (fun r M' q => q)
  obtain ⟨e1, h⟩ := h
  refine ⟨e1, ?_⟩
  change WP _ LAY m_X2_mayList 6 [(0, vR (some 4)), (1, vI x1), (2, vI x2)] [vI (gi I 19 ((3 + (x1 * 14)) + 5).toNat)] (mem (P, some 5, some 22) I J) Q
  refine st_istore_n (pc' := 7) (L' := [(3, vI (gi I 19 ((3 + (x1 * 14)) + 5).toNat)), (0, vR (some 4)), (1, vI x1), (2, vI x2)]) dX2_mayList_6 rfl rfl (by decide) rfl ?_
  refine st_iload_n (pc' := 8) dX2_mayList_7 rfl rfl (j := 0) rfl ?_
  refine st_bipush (pc' := 10) dX2_mayList_8 rfl (by decide) ?_
  refine st_icmp_ge (tg := 39) (pc' := 13) dX2_mayList_10 (by decide) rfl (gi_in _ _ _) (by decide) (fun c => ?_) (fun c => ?_)
  · replace h := h.1 c
    refine st_iconst (pc' := 40) dX2_mayList_39 rfl ?_
    exact st_iret (ty := .boolean) dX2_mayList_40 rfl (by decide) rfl h
  · replace h := h.2 c
    refine st_aload_n (pc' := 14) dX2_mayList_13 rfl rfl (j := 1) rfl ?_
    refine st_iload_n (pc' := 15) dX2_mayList_14 rfl rfl (j := 2) rfl ?_
    refine st_callV (pc' := 18) (kc := k - 1) (E' := LAY) (cal := m_X2_known) (n := 1) (as := [vI x1]) (S := []) dX2_mayList_15 rfl l_X2_72 k_X2_known rfl L_4 c_X2 rfl rfl (Nat.le_of_ble_eq_true rfl) (by omega) ⟨Nat.le_refl _, Nat.le_refl _, Nat.le_refl _, Nat.le_refl _⟩ (Q1 := fun r M' => WP k LAY m_X2_mayList 18 [(3, vI (gi I 19 ((3 + (x1 * 14)) + 5).toNat)), (0, vR (some 4)), (1, vI x1), (2, vI x2)] (r.toList ++ []) M' Q) (WPm.of k_X2_known.1 (Nat.le_of_ble_eq_true rfl) (B_X2_known_0 (by omega) ?_)) (fun r M' q => q)
    obtain ⟨e2, h⟩ := h
    refine ⟨e2, ?_⟩
    obtain ⟨e3, h⟩ := h
    refine ⟨e3, ?_⟩
    change WP _ LAY m_X2_mayList 18 [(3, vI (gi I 19 ((3 + (x1 * 14)) + 5).toNat)), (0, vR (some 4)), (1, vI x1), (2, vI x2)] [vI (or32 (gi I 19 ((3 + (x1 * 14)) + 1).toNat) (gi I 19 ((3 + (x1 * 14)) + 2).toNat))] (mem (P, some 5, some 22) I J) Q
    refine st_iconst (pc' := 19) dX2_mayList_18 rfl ?_
    refine st_iload_n (pc' := 20) dX2_mayList_19 rfl rfl (j := 3) rfl ?_
    refine st_ishl (pc' := 21) (z := (shl32 1 x2)) dX2_mayList_20 rfl rfl ?_
    refine st_iand (pc' := 22) (z := (and32 (or32 (gi I 19 ((3 + (x1 * 14)) + 1).toNat) (gi I 19 ((3 + (x1 * 14)) + 2).toNat)) (shl32 1 x2))) dX2_mayList_21 rfl rfl ?_
    refine st_if_ne (tg := 39) (pc' := 25) dX2_mayList_22 (by decide) rfl (and32_in _ _) (fun c => ?_) (fun c => ?_)
    · replace h := h.1 c
      refine st_iconst (pc' := 40) dX2_mayList_39 rfl ?_
      exact st_iret (ty := .boolean) dX2_mayList_40 rfl (by decide) rfl h
    · replace h := h.2 c
      refine st_aload_n (pc' := 26) dX2_mayList_25 rfl rfl (j := 1) rfl ?_
      refine st_iload_n (pc' := 27) dX2_mayList_26 rfl rfl (j := 2) rfl ?_
      refine st_iload_n (pc' := 28) dX2_mayList_27 rfl rfl (j := 3) rfl ?_
      refine st_callV (pc' := 31) (kc := k - 1) (E' := LAY) (cal := m_X2_placeOf) (n := 2) (as := [vI x1, vI x2]) (S := []) dX2_mayList_28 rfl l_X2_81 k_X2_placeOf rfl L_4 c_X2 rfl rfl (Nat.le_of_ble_eq_true rfl) (by omega) ⟨Nat.le_refl _, Nat.le_refl _, Nat.le_refl _, Nat.le_refl _⟩ h (fun r M' q => ?_)
      obtain ⟨v4, I5, J6, rfl, rfl, h⟩ := q
      change WP _ LAY m_X2_mayList 31 [(3, vI (gi I 19 ((3 + (x1 * 14)) + 5).toNat)), (0, vR (some 4)), (1, vI x1), (2, vI x2)] [vI v4] (mem (P, some 5, some 22) I5 J6) Q
      refine st_iload_n (pc' := 32) dX2_mayList_31 rfl rfl (j := 0) rfl ?_
      obtain ⟨e7, h⟩ := h
      refine st_icmp_ne (tg := 39) (pc' := 35) dX2_mayList_32 (by decide) rfl e7 (gi_in _ _ _) (fun c => ?_) (fun c => ?_)
      · replace h := h.1 c
        refine st_iconst (pc' := 40) dX2_mayList_39 rfl ?_
        exact st_iret (ty := .boolean) dX2_mayList_40 rfl (by decide) rfl h
      · replace h := h.2 c
        refine st_iconst (pc' := 36) dX2_mayList_35 rfl ?_
        refine st_goto (pc' := 40) dX2_mayList_36 (by decide) ?_
        exact st_iret (ty := .boolean) dX2_mayList_40 rfl (by decide) rfl h
set_option maxRecDepth 20000 in
set_option maxHeartbeats 4000000 in
theorem B_X2_putBehind_0 {k : Nat} {P : Option Nat} {I : Nat → Nat → Int32} {J : Nat → Nat → Int64} {x1 : Int} {x2 : Int} {Q : Option AV → Mem → Prop} (hk : 1 ≤ k) (h : (0 ≤ ((3 + (x1 * 14)) + 5) ∧ ((3 + (x1 * 14)) + 5) < 87) ∧ ((8 ≤ (gi I 19 ((3 + (x1 * 14)) + 5).toNat) → (Q none (mem (P, some 5, some 22) I J))) ∧ (¬ 8 ≤ (gi I 19 ((3 + (x1 * 14)) + 5).toNat) → ((0 ≤ ((3 + (x1 * 14)) + (6 + (gi I 19 ((3 + (x1 * 14)) + 5).toNat))) ∧ ((3 + (x1 * 14)) + (6 + (gi I 19 ((3 + (x1 * 14)) + 5).toNat))) < 87) ∧ (Q none (mem (P, some 5, some 22) (si (si I 19 ((3 + (x1 * 14)) + (6 + (gi I 19 ((3 + (x1 * 14)) + 5).toNat))).toNat x2) 19 ((3 + (x1 * 14)) + 5).toNat ((gi I 19 ((3 + (x1 * 14)) + 5).toNat) + 1)) J)))))) : WP k LAY m_X2_putBehind 0 [(0, vR (some 4)), (1, vI x1), (2, vI x2)] [] (mem (P, some 5, some 22) I J) Q := by
  refine st_aload_n (pc' := 1) dX2_putBehind_0 rfl rfl (j := 0) rfl ?_
  refine st_iload_n (pc' := 2) dX2_putBehind_1 rfl rfl (j := 1) rfl ?_
  refine st_iconst (pc' := 3) dX2_putBehind_2 rfl ?_
  refine st_callV (pc' := 6) (kc := k - 1) (E' := LAY) (cal := m_X2_of) (n := 2) (as := [vI x1, vI 5]) (S := []) dX2_putBehind_3 rfl l_X2_64 k_X2_of rfl L_4 c_X2 rfl rfl (Nat.le_of_ble_eq_true rfl) (by omega) ⟨Nat.le_refl _, Nat.le_refl _, Nat.le_refl _, Nat.le_refl _⟩ (Q1 := fun r M' => WP k LAY m_X2_putBehind 6 [(0, vR (some 4)), (1, vI x1), (2, vI x2)] (r.toList ++ []) M' Q) (WPm.of k_X2_of.1 (Nat.le_of_ble_eq_true rfl) (B_X2_of_0 (by omega) ?_)) (fun r M' q => q)
  obtain ⟨e1, h⟩ := h
  refine ⟨e1, ?_⟩
  change WP _ LAY m_X2_putBehind 6 [(0, vR (some 4)), (1, vI x1), (2, vI x2)] [vI (gi I 19 ((3 + (x1 * 14)) + 5).toNat)] (mem (P, some 5, some 22) I J) Q
  refine st_istore_n (pc' := 7) (L' := [(3, vI (gi I 19 ((3 + (x1 * 14)) + 5).toNat)), (0, vR (some 4)), (1, vI x1), (2, vI x2)]) dX2_putBehind_6 rfl rfl (by decide) rfl ?_
  refine st_iload_n (pc' := 8) dX2_putBehind_7 rfl rfl (j := 0) rfl ?_
  refine st_bipush (pc' := 10) dX2_putBehind_8 rfl (by decide) ?_
  refine st_icmp_ge (tg := 32) (pc' := 13) dX2_putBehind_10 (by decide) rfl (gi_in _ _ _) (by decide) (fun c => ?_) (fun c => ?_)
  · replace h := h.1 c
    exact st_vret dX2_putBehind_32 rfl rfl h
  · replace h := h.2 c
    refine st_aload_n (pc' := 14) dX2_putBehind_13 rfl rfl (j := 1) rfl ?_
    refine st_iload_n (pc' := 15) dX2_putBehind_14 rfl rfl (j := 2) rfl ?_
    refine st_bipush (pc' := 17) dX2_putBehind_15 rfl (by decide) ?_
    refine st_iload_n (pc' := 18) dX2_putBehind_17 rfl rfl (j := 0) rfl ?_
    refine st_iadd (pc' := 19) dX2_putBehind_18 rfl ?_
    refine st_iload_n (pc' := 20) dX2_putBehind_19 rfl rfl (j := 3) rfl ?_
    refine st_callV (pc' := 23) (kc := k - 1) (E' := LAY) (cal := m_X2_set) (n := 3) (as := [vI x1, vI (6 + (gi I 19 ((3 + (x1 * 14)) + 5).toNat)), vI x2]) (S := []) dX2_putBehind_20 rfl l_X2_35 k_X2_set rfl L_4 c_X2 rfl rfl (Nat.le_of_ble_eq_true rfl) (by omega) ⟨Nat.le_refl _, Nat.le_refl _, Nat.le_refl _, Nat.le_refl _⟩ (Q1 := fun r M' => WP k LAY m_X2_putBehind 23 [(3, vI (gi I 19 ((3 + (x1 * 14)) + 5).toNat)), (0, vR (some 4)), (1, vI x1), (2, vI x2)] (r.toList ++ []) M' Q) (WPm.of k_X2_set.1 (Nat.le_of_ble_eq_true rfl) (B_X2_set_0 (by omega) ?_)) (fun r M' q => q)
    obtain ⟨e2, h⟩ := h
    refine ⟨e2, ?_⟩
    change WP _ LAY m_X2_putBehind 23 [(3, vI (gi I 19 ((3 + (x1 * 14)) + 5).toNat)), (0, vR (some 4)), (1, vI x1), (2, vI x2)] [] (mem (P, some 5, some 22) (si I 19 ((3 + (x1 * 14)) + (6 + (gi I 19 ((3 + (x1 * 14)) + 5).toNat))).toNat x2) J) Q
    refine st_aload_n (pc' := 24) dX2_putBehind_23 rfl rfl (j := 1) rfl ?_
    refine st_iload_n (pc' := 25) dX2_putBehind_24 rfl rfl (j := 2) rfl ?_
    refine st_iconst (pc' := 26) dX2_putBehind_25 rfl ?_
    refine st_iload_n (pc' := 27) dX2_putBehind_26 rfl rfl (j := 0) rfl ?_
    refine st_iconst (pc' := 28) dX2_putBehind_27 rfl ?_
    refine st_iadd (pc' := 29) dX2_putBehind_28 rfl ?_
    refine st_callV (pc' := 32) (kc := k - 1) (E' := LAY) (cal := m_X2_set) (n := 3) (as := [vI x1, vI 5, vI ((gi I 19 ((3 + (x1 * 14)) + 5).toNat) + 1)]) (S := []) dX2_putBehind_29 rfl l_X2_35 k_X2_set rfl L_4 c_X2 rfl rfl (Nat.le_of_ble_eq_true rfl) (by omega) ⟨Nat.le_refl _, Nat.le_refl _, Nat.le_refl _, Nat.le_refl _⟩ (Q1 := fun r M' => WP k LAY m_X2_putBehind 32 [(3, vI (gi I 19 ((3 + (x1 * 14)) + 5).toNat)), (0, vR (some 4)), (1, vI x1), (2, vI x2)] (r.toList ++ []) M' Q) (WPm.of k_X2_set.1 (Nat.le_of_ble_eq_true rfl) (B_X2_set_0 (by omega) ?_)) (fun r M' q => q)
    refine ⟨e1, ?_⟩
    change WP _ LAY m_X2_putBehind 32 [(3, vI (gi I 19 ((3 + (x1 * 14)) + 5).toNat)), (0, vR (some 4)), (1, vI x1), (2, vI x2)] [] (mem (P, some 5, some 22) (si (si I 19 ((3 + (x1 * 14)) + (6 + (gi I 19 ((3 + (x1 * 14)) + 5).toNat))).toNat x2) 19 ((3 + (x1 * 14)) + 5).toNat ((gi I 19 ((3 + (x1 * 14)) + 5).toNat) + 1)) J) Q
    exact st_vret dX2_putBehind_32 rfl rfl h
set_option maxRecDepth 20000 in
set_option maxHeartbeats 4000000 in
theorem B_X2_strike_0 {k : Nat} {P : Option Nat} {I : Nat → Nat → Int32} {J : Nat → Nat → Int64} {x1 : Int} {x2 : Int} {Q : Option AV → Mem → Prop} (hk : 1 ≤ k) (h : (0 ≤ ((3 + (x1 * 14)) + 5) ∧ ((3 + (x1 * 14)) + 5) < 87) ∧ (WPm (k - 1) LAY m_X2_placeOf [vR (some 4), vI x1, vI x2] (mem (P, some 5, some 22) I J) (retI (fun v2 I3 J4 => inR v2 ∧ (((gi I 19 ((3 + (x1 * 14)) + 5).toNat) ≤ v2 → ((0 ≤ ((3 + (x1 * 14)) + 3) ∧ ((3 + (x1 * 14)) + 3) < 87) ∧ (inR x2 ∧ ((¬ (gi I3 19 ((3 + (x1 * 14)) + 3).toNat) = x2 → (Q none (mem (P, some 5, some 22) I3 J4))) ∧ ((gi I3 19 ((3 + (x1 * 14)) + 3).toNat) = x2 → ((0 ≤ ((3 + (x1 * 14)) + 4) ∧ ((3 + (x1 * 14)) + 4) < 87) ∧ (Q none (mem (P, some 5, some 22) (si (si I3 19 ((3 + (x1 * 14)) + 3).toNat (-1)) 19 ((3 + (x1 * 14)) + 4).toNat 0) J4)))))))) ∧ (¬ (gi I 19 ((3 + (x1 * 14)) + 5).toNat) ≤ v2 → (WP k LAY m_X2_strike 25 [(0, vR (some 4)), (1, vI x1), (2, vI x2), (3, vI (gi I 19 ((3 + (x1 * 14)) + 5).toNat)), (5, vI v2)] [] (mem (P, some 5, some 22) I3 J4) Q)))) (P, some 5, some 22)))) : WP k LAY m_X2_strike 0 [(0, vR (some 4)), (1, vI x1), (2, vI x2)] [] (mem (P, some 5, some 22) I J) Q := by
  refine st_aload_n (pc' := 1) dX2_strike_0 rfl rfl (j := 0) rfl ?_
  refine st_iload_n (pc' := 2) dX2_strike_1 rfl rfl (j := 1) rfl ?_
  refine st_iconst (pc' := 3) dX2_strike_2 rfl ?_
  refine st_callV (pc' := 6) (kc := k - 1) (E' := LAY) (cal := m_X2_of) (n := 2) (as := [vI x1, vI 5]) (S := []) dX2_strike_3 rfl l_X2_64 k_X2_of rfl L_4 c_X2 rfl rfl (Nat.le_of_ble_eq_true rfl) (by omega) ⟨Nat.le_refl _, Nat.le_refl _, Nat.le_refl _, Nat.le_refl _⟩ (Q1 := fun r M' => WP k LAY m_X2_strike 6 [(0, vR (some 4)), (1, vI x1), (2, vI x2)] (r.toList ++ []) M' Q) (WPm.of k_X2_of.1 (Nat.le_of_ble_eq_true rfl) (B_X2_of_0 (by omega) ?_)) (fun r M' q => q)
  obtain ⟨e1, h⟩ := h
  refine ⟨e1, ?_⟩
  change WP _ LAY m_X2_strike 6 [(0, vR (some 4)), (1, vI x1), (2, vI x2)] [vI (gi I 19 ((3 + (x1 * 14)) + 5).toNat)] (mem (P, some 5, some 22) I J) Q
  refine st_istore_n (pc' := 7) (L' := [(3, vI (gi I 19 ((3 + (x1 * 14)) + 5).toNat)), (0, vR (some 4)), (1, vI x1), (2, vI x2)]) dX2_strike_6 rfl rfl (by decide) rfl ?_
  refine st_aload_n (pc' := 8) dX2_strike_7 rfl rfl (j := 1) rfl ?_
  refine st_iload_n (pc' := 9) dX2_strike_8 rfl rfl (j := 2) rfl ?_
  refine st_iload_n (pc' := 10) dX2_strike_9 rfl rfl (j := 3) rfl ?_
  refine st_callV (pc' := 13) (kc := k - 1) (E' := LAY) (cal := m_X2_placeOf) (n := 2) (as := [vI x1, vI x2]) (S := []) dX2_strike_10 rfl l_X2_81 k_X2_placeOf rfl L_4 c_X2 rfl rfl (Nat.le_of_ble_eq_true rfl) (by omega) ⟨Nat.le_refl _, Nat.le_refl _, Nat.le_refl _, Nat.le_refl _⟩ h (fun r M' q => ?_)
  obtain ⟨v2, I3, J4, rfl, rfl, h⟩ := q
  change WP _ LAY m_X2_strike 13 [(3, vI (gi I 19 ((3 + (x1 * 14)) + 5).toNat)), (0, vR (some 4)), (1, vI x1), (2, vI x2)] [vI v2] (mem (P, some 5, some 22) I3 J4) Q
  refine st_istore (pc' := 15) (L' := [(4, vI v2), (3, vI (gi I 19 ((3 + (x1 * 14)) + 5).toNat)), (0, vR (some 4)), (1, vI x1), (2, vI x2)]) dX2_strike_13 rfl (by decide) rfl ?_
  refine st_iload (pc' := 17) dX2_strike_15 rfl (j := 0) rfl ?_
  refine st_iload_n (pc' := 18) dX2_strike_17 rfl rfl (j := 1) rfl ?_
  obtain ⟨e5, h⟩ := h
  refine st_icmp_ge (tg := 70) (pc' := 21) dX2_strike_18 (by decide) rfl e5 (gi_in _ _ _) (fun c => ?_) (fun c => ?_)
  · replace h := h.1 c
    refine st_aload_n (pc' := 71) dX2_strike_70 rfl rfl (j := 2) rfl ?_
    refine st_iload_n (pc' := 72) dX2_strike_71 rfl rfl (j := 3) rfl ?_
    refine st_iconst (pc' := 73) dX2_strike_72 rfl ?_
    refine st_callV (pc' := 76) (kc := k - 1) (E' := LAY) (cal := m_X2_of) (n := 2) (as := [vI x1, vI 3]) (S := []) dX2_strike_73 rfl l_X2_64 k_X2_of rfl L_4 c_X2 rfl rfl (Nat.le_of_ble_eq_true rfl) (by omega) ⟨Nat.le_refl _, Nat.le_refl _, Nat.le_refl _, Nat.le_refl _⟩ (Q1 := fun r M' => WP k LAY m_X2_strike 76 [(4, vI v2), (3, vI (gi I 19 ((3 + (x1 * 14)) + 5).toNat)), (0, vR (some 4)), (1, vI x1), (2, vI x2)] (r.toList ++ []) M' Q) (WPm.of k_X2_of.1 (Nat.le_of_ble_eq_true rfl) (B_X2_of_0 (by omega) ?_)) (fun r M' q => q)
    obtain ⟨e6, h⟩ := h
    refine ⟨e6, ?_⟩
    change WP _ LAY m_X2_strike 76 [(4, vI v2), (3, vI (gi I 19 ((3 + (x1 * 14)) + 5).toNat)), (0, vR (some 4)), (1, vI x1), (2, vI x2)] [vI (gi I3 19 ((3 + (x1 * 14)) + 3).toNat)] (mem (P, some 5, some 22) I3 J4) Q
    refine st_iload_n (pc' := 77) dX2_strike_76 rfl rfl (j := 4) rfl ?_
    obtain ⟨e7, h⟩ := h
    refine st_icmp_ne (tg := 94) (pc' := 80) dX2_strike_77 (by decide) rfl (gi_in _ _ _) e7 (fun c => ?_) (fun c => ?_)
    · replace h := h.1 c
      exact st_vret dX2_strike_94 rfl rfl h
    · replace h := h.2 c
      refine st_aload_n (pc' := 81) dX2_strike_80 rfl rfl (j := 2) rfl ?_
      refine st_iload_n (pc' := 82) dX2_strike_81 rfl rfl (j := 3) rfl ?_
      refine st_iconst (pc' := 83) dX2_strike_82 rfl ?_
      refine st_iconst (pc' := 84) dX2_strike_83 rfl ?_
      refine st_callV (pc' := 87) (kc := k - 1) (E' := LAY) (cal := m_X2_set) (n := 3) (as := [vI x1, vI 3, vI (-1)]) (S := []) dX2_strike_84 rfl l_X2_35 k_X2_set rfl L_4 c_X2 rfl rfl (Nat.le_of_ble_eq_true rfl) (by omega) ⟨Nat.le_refl _, Nat.le_refl _, Nat.le_refl _, Nat.le_refl _⟩ (Q1 := fun r M' => WP k LAY m_X2_strike 87 [(4, vI v2), (3, vI (gi I 19 ((3 + (x1 * 14)) + 5).toNat)), (0, vR (some 4)), (1, vI x1), (2, vI x2)] (r.toList ++ []) M' Q) (WPm.of k_X2_set.1 (Nat.le_of_ble_eq_true rfl) (B_X2_set_0 (by omega) ?_)) (fun r M' q => q)
      refine ⟨e6, ?_⟩
      change WP _ LAY m_X2_strike 87 [(4, vI v2), (3, vI (gi I 19 ((3 + (x1 * 14)) + 5).toNat)), (0, vR (some 4)), (1, vI x1), (2, vI x2)] [] (mem (P, some 5, some 22) (si I3 19 ((3 + (x1 * 14)) + 3).toNat (-1)) J4) Q
      refine st_aload_n (pc' := 88) dX2_strike_87 rfl rfl (j := 2) rfl ?_
      refine st_iload_n (pc' := 89) dX2_strike_88 rfl rfl (j := 3) rfl ?_
      refine st_iconst (pc' := 90) dX2_strike_89 rfl ?_
      refine st_iconst (pc' := 91) dX2_strike_90 rfl ?_
      refine st_callV (pc' := 94) (kc := k - 1) (E' := LAY) (cal := m_X2_set) (n := 3) (as := [vI x1, vI 4, vI 0]) (S := []) dX2_strike_91 rfl l_X2_35 k_X2_set rfl L_4 c_X2 rfl rfl (Nat.le_of_ble_eq_true rfl) (by omega) ⟨Nat.le_refl _, Nat.le_refl _, Nat.le_refl _, Nat.le_refl _⟩ (Q1 := fun r M' => WP k LAY m_X2_strike 94 [(4, vI v2), (3, vI (gi I 19 ((3 + (x1 * 14)) + 5).toNat)), (0, vR (some 4)), (1, vI x1), (2, vI x2)] (r.toList ++ []) M' Q) (WPm.of k_X2_set.1 (Nat.le_of_ble_eq_true rfl) (B_X2_set_0 (by omega) ?_)) (fun r M' q => q)
      obtain ⟨e8, h⟩ := h
      refine ⟨e8, ?_⟩
      change WP _ LAY m_X2_strike 94 [(4, vI v2), (3, vI (gi I 19 ((3 + (x1 * 14)) + 5).toNat)), (0, vR (some 4)), (1, vI x1), (2, vI x2)] [] (mem (P, some 5, some 22) (si (si I3 19 ((3 + (x1 * 14)) + 3).toNat (-1)) 19 ((3 + (x1 * 14)) + 4).toNat 0) J4) Q
      exact st_vret dX2_strike_94 rfl rfl h
  · replace h := h.2 c
    refine st_iload (pc' := 23) dX2_strike_21 rfl (j := 0) rfl ?_
    refine st_istore (pc' := 25) (L' := [(5, vI v2), (4, vI v2), (3, vI (gi I 19 ((3 + (x1 * 14)) + 5).toNat)), (0, vR (some 4)), (1, vI x1), (2, vI x2)]) dX2_strike_23 rfl (by decide) rfl ?_
    refine WP_sub (L' := [(0, vR (some 4)), (1, vI x1), (2, vI x2), (3, vI (gi I 19 ((3 + (x1 * 14)) + 5).toNat)), (5, vI v2)]) [3, 4, 5, 2, 0] rfl ?_
    exact h
set_option maxRecDepth 20000 in
set_option maxHeartbeats 4000000 in
theorem B_X2_strike_25 {k : Nat} {P : Option Nat} {I : Nat → Nat → Int32} {J : Nat → Nat → Int64} {x1 : Int} {x2 : Int} {x3 : Int} {x5 : Int} {Q : Option AV → Mem → Prop} (hk : 1 ≤ k) (h : inR (x5 + 1) ∧ (inR x3 ∧ ((x3 ≤ (x5 + 1) → ((0 ≤ ((3 + (x1 * 14)) + 5) ∧ ((3 + (x1 * 14)) + 5) < 87) ∧ ((0 ≤ ((3 + (x1 * 14)) + 3) ∧ ((3 + (x1 * 14)) + 3) < 87) ∧ (inR x2 ∧ ((¬ (gi (si I 19 ((3 + (x1 * 14)) + 5).toNat (x3 - 1)) 19 ((3 + (x1 * 14)) + 3).toNat) = x2 → (Q none (mem (P, some 5, some 22) (si I 19 ((3 + (x1 * 14)) + 5).toNat (x3 - 1)) J))) ∧ ((gi (si I 19 ((3 + (x1 * 14)) + 5).toNat (x3 - 1)) 19 ((3 + (x1 * 14)) + 3).toNat) = x2 → ((0 ≤ ((3 + (x1 * 14)) + 4) ∧ ((3 + (x1 * 14)) + 4) < 87) ∧ (Q none (mem (P, some 5, some 22) (si (si (si I 19 ((3 + (x1 * 14)) + 5).toNat (x3 - 1)) 19 ((3 + (x1 * 14)) + 3).toNat (-1)) 19 ((3 + (x1 * 14)) + 4).toNat 0) J))))))))) ∧ (¬ x3 ≤ (x5 + 1) → ((0 ≤ ((3 + (x1 * 14)) + ((6 + x5) + 1)) ∧ ((3 + (x1 * 14)) + ((6 + x5) + 1)) < 87) ∧ ((0 ≤ ((3 + (x1 * 14)) + (6 + x5)) ∧ ((3 + (x1 * 14)) + (6 + x5)) < 87) ∧ (WP k LAY m_X2_strike 25 [(0, vR (some 4)), (1, vI x1), (2, vI x2), (3, vI x3), (5, vI (x5 + 1))] [] (mem (P, some 5, some 22) (si I 19 ((3 + (x1 * 14)) + (6 + x5)).toNat (gi I 19 ((3 + (x1 * 14)) + ((6 + x5) + 1)).toNat)) J) Q))))))) : WP k LAY m_X2_strike 25 [(0, vR (some 4)), (1, vI x1), (2, vI x2), (3, vI x3), (5, vI x5)] [] (mem (P, some 5, some 22) I J) Q := by
  refine st_iload (pc' := 27) dX2_strike_25 rfl (j := 4) rfl ?_
  refine st_iconst (pc' := 28) dX2_strike_27 rfl ?_
  refine st_iadd (pc' := 29) dX2_strike_28 rfl ?_
  refine st_iload_n (pc' := 30) dX2_strike_29 rfl rfl (j := 3) rfl ?_
  obtain ⟨e1, h⟩ := h
  obtain ⟨e2, h⟩ := h
  refine st_icmp_ge (tg := 61) (pc' := 33) dX2_strike_30 (by decide) rfl e1 e2 (fun c => ?_) (fun c => ?_)
  · replace h := h.1 c
    refine st_aload_n (pc' := 62) dX2_strike_61 rfl rfl (j := 0) rfl ?_
    refine st_iload_n (pc' := 63) dX2_strike_62 rfl rfl (j := 1) rfl ?_
    refine st_iconst (pc' := 64) dX2_strike_63 rfl ?_
    refine st_iload_n (pc' := 65) dX2_strike_64 rfl rfl (j := 3) rfl ?_
    refine st_iconst (pc' := 66) dX2_strike_65 rfl ?_
    refine st_isub (pc' := 67) dX2_strike_66 rfl ?_
    refine st_callV (pc' := 70) (kc := k - 1) (E' := LAY) (cal := m_X2_set) (n := 3) (as := [vI x1, vI 5, vI (x3 - 1)]) (S := []) dX2_strike_67 rfl l_X2_35 k_X2_set rfl L_4 c_X2 rfl rfl (Nat.le_of_ble_eq_true rfl) (by omega) ⟨Nat.le_refl _, Nat.le_refl _, Nat.le_refl _, Nat.le_refl _⟩ (Q1 := fun r M' => WP k LAY m_X2_strike 70 [(0, vR (some 4)), (1, vI x1), (2, vI x2), (3, vI x3), (5, vI x5)] (r.toList ++ []) M' Q) (WPm.of k_X2_set.1 (Nat.le_of_ble_eq_true rfl) (B_X2_set_0 (by omega) ?_)) (fun r M' q => q)
    obtain ⟨e3, h⟩ := h
    refine ⟨e3, ?_⟩
    change WP _ LAY m_X2_strike 70 [(0, vR (some 4)), (1, vI x1), (2, vI x2), (3, vI x3), (5, vI x5)] [] (mem (P, some 5, some 22) (si I 19 ((3 + (x1 * 14)) + 5).toNat (x3 - 1)) J) Q
    refine st_aload_n (pc' := 71) dX2_strike_70 rfl rfl (j := 0) rfl ?_
    refine st_iload_n (pc' := 72) dX2_strike_71 rfl rfl (j := 1) rfl ?_
    refine st_iconst (pc' := 73) dX2_strike_72 rfl ?_
    refine st_callV (pc' := 76) (kc := k - 1) (E' := LAY) (cal := m_X2_of) (n := 2) (as := [vI x1, vI 3]) (S := []) dX2_strike_73 rfl l_X2_64 k_X2_of rfl L_4 c_X2 rfl rfl (Nat.le_of_ble_eq_true rfl) (by omega) ⟨Nat.le_refl _, Nat.le_refl _, Nat.le_refl _, Nat.le_refl _⟩ (Q1 := fun r M' => WP k LAY m_X2_strike 76 [(0, vR (some 4)), (1, vI x1), (2, vI x2), (3, vI x3), (5, vI x5)] (r.toList ++ []) M' Q) (WPm.of k_X2_of.1 (Nat.le_of_ble_eq_true rfl) (B_X2_of_0 (by omega) ?_)) (fun r M' q => q)
    obtain ⟨e4, h⟩ := h
    refine ⟨e4, ?_⟩
    change WP _ LAY m_X2_strike 76 [(0, vR (some 4)), (1, vI x1), (2, vI x2), (3, vI x3), (5, vI x5)] [vI (gi (si I 19 ((3 + (x1 * 14)) + 5).toNat (x3 - 1)) 19 ((3 + (x1 * 14)) + 3).toNat)] (mem (P, some 5, some 22) (si I 19 ((3 + (x1 * 14)) + 5).toNat (x3 - 1)) J) Q
    refine st_iload_n (pc' := 77) dX2_strike_76 rfl rfl (j := 2) rfl ?_
    obtain ⟨e5, h⟩ := h
    refine st_icmp_ne (tg := 94) (pc' := 80) dX2_strike_77 (by decide) rfl (gi_in _ _ _) e5 (fun c => ?_) (fun c => ?_)
    · replace h := h.1 c
      exact st_vret dX2_strike_94 rfl rfl h
    · replace h := h.2 c
      refine st_aload_n (pc' := 81) dX2_strike_80 rfl rfl (j := 0) rfl ?_
      refine st_iload_n (pc' := 82) dX2_strike_81 rfl rfl (j := 1) rfl ?_
      refine st_iconst (pc' := 83) dX2_strike_82 rfl ?_
      refine st_iconst (pc' := 84) dX2_strike_83 rfl ?_
      refine st_callV (pc' := 87) (kc := k - 1) (E' := LAY) (cal := m_X2_set) (n := 3) (as := [vI x1, vI 3, vI (-1)]) (S := []) dX2_strike_84 rfl l_X2_35 k_X2_set rfl L_4 c_X2 rfl rfl (Nat.le_of_ble_eq_true rfl) (by omega) ⟨Nat.le_refl _, Nat.le_refl _, Nat.le_refl _, Nat.le_refl _⟩ (Q1 := fun r M' => WP k LAY m_X2_strike 87 [(0, vR (some 4)), (1, vI x1), (2, vI x2), (3, vI x3), (5, vI x5)] (r.toList ++ []) M' Q) (WPm.of k_X2_set.1 (Nat.le_of_ble_eq_true rfl) (B_X2_set_0 (by omega) ?_)) (fun r M' q => q)
      refine ⟨e4, ?_⟩
      change WP _ LAY m_X2_strike 87 [(0, vR (some 4)), (1, vI x1), (2, vI x2), (3, vI x3), (5, vI x5)] [] (mem (P, some 5, some 22) (si (si I 19 ((3 + (x1 * 14)) + 5).toNat (x3 - 1)) 19 ((3 + (x1 * 14)) + 3).toNat (-1)) J) Q
      refine st_aload_n (pc' := 88) dX2_strike_87 rfl rfl (j := 0) rfl ?_
      refine st_iload_n (pc' := 89) dX2_strike_88 rfl rfl (j := 1) rfl ?_
      refine st_iconst (pc' := 90) dX2_strike_89 rfl ?_
      refine st_iconst (pc' := 91) dX2_strike_90 rfl ?_
      refine st_callV (pc' := 94) (kc := k - 1) (E' := LAY) (cal := m_X2_set) (n := 3) (as := [vI x1, vI 4, vI 0]) (S := []) dX2_strike_91 rfl l_X2_35 k_X2_set rfl L_4 c_X2 rfl rfl (Nat.le_of_ble_eq_true rfl) (by omega) ⟨Nat.le_refl _, Nat.le_refl _, Nat.le_refl _, Nat.le_refl _⟩ (Q1 := fun r M' => WP k LAY m_X2_strike 94 [(0, vR (some 4)), (1, vI x1), (2, vI x2), (3, vI x3), (5, vI x5)] (r.toList ++ []) M' Q) (WPm.of k_X2_set.1 (Nat.le_of_ble_eq_true rfl) (B_X2_set_0 (by omega) ?_)) (fun r M' q => q)
      obtain ⟨e6, h⟩ := h
      refine ⟨e6, ?_⟩
      change WP _ LAY m_X2_strike 94 [(0, vR (some 4)), (1, vI x1), (2, vI x2), (3, vI x3), (5, vI x5)] [] (mem (P, some 5, some 22) (si (si (si I 19 ((3 + (x1 * 14)) + 5).toNat (x3 - 1)) 19 ((3 + (x1 * 14)) + 3).toNat (-1)) 19 ((3 + (x1 * 14)) + 4).toNat 0) J) Q
      exact st_vret dX2_strike_94 rfl rfl h
  · replace h := h.2 c
    refine st_aload_n (pc' := 34) dX2_strike_33 rfl rfl (j := 0) rfl ?_
    refine st_iload_n (pc' := 35) dX2_strike_34 rfl rfl (j := 1) rfl ?_
    refine st_bipush (pc' := 37) dX2_strike_35 rfl (by decide) ?_
    refine st_iload (pc' := 39) dX2_strike_37 rfl (j := 4) rfl ?_
    refine st_iadd (pc' := 40) dX2_strike_39 rfl ?_
    refine st_aload_n (pc' := 41) dX2_strike_40 rfl rfl (j := 0) rfl ?_
    refine st_iload_n (pc' := 42) dX2_strike_41 rfl rfl (j := 1) rfl ?_
    refine st_bipush (pc' := 44) dX2_strike_42 rfl (by decide) ?_
    refine st_iload (pc' := 46) dX2_strike_44 rfl (j := 4) rfl ?_
    refine st_iadd (pc' := 47) dX2_strike_46 rfl ?_
    refine st_iconst (pc' := 48) dX2_strike_47 rfl ?_
    refine st_iadd (pc' := 49) dX2_strike_48 rfl ?_
    refine st_callV (pc' := 52) (kc := k - 1) (E' := LAY) (cal := m_X2_of) (n := 2) (as := [vI x1, vI ((6 + x5) + 1)]) (S := [vI (6 + x5), vI x1, vR (some 4)]) dX2_strike_49 rfl l_X2_64 k_X2_of rfl L_4 c_X2 rfl rfl (Nat.le_of_ble_eq_true rfl) (by omega) ⟨Nat.le_refl _, Nat.le_refl _, Nat.le_refl _, Nat.le_refl _⟩ (Q1 := fun r M' => WP k LAY m_X2_strike 52 [(0, vR (some 4)), (1, vI x1), (2, vI x2), (3, vI x3), (5, vI x5)] (r.toList ++ [vI (6 + x5), vI x1, vR (some 4)]) M' Q) (WPm.of k_X2_of.1 (Nat.le_of_ble_eq_true rfl) (B_X2_of_0 (by omega) ?_)) (fun r M' q => q)
    obtain ⟨e7, h⟩ := h
    refine ⟨e7, ?_⟩
    change WP _ LAY m_X2_strike 52 [(0, vR (some 4)), (1, vI x1), (2, vI x2), (3, vI x3), (5, vI x5)] [vI (gi I 19 ((3 + (x1 * 14)) + ((6 + x5) + 1)).toNat), vI (6 + x5), vI x1, vR (some 4)] (mem (P, some 5, some 22) I J) Q
    refine st_callV (pc' := 55) (kc := k - 1) (E' := LAY) (cal := m_X2_set) (n := 3) (as := [vI x1, vI (6 + x5), vI (gi I 19 ((3 + (x1 * 14)) + ((6 + x5) + 1)).toNat)]) (S := []) dX2_strike_52 rfl l_X2_35 k_X2_set rfl L_4 c_X2 rfl rfl (Nat.le_of_ble_eq_true rfl) (by omega) ⟨Nat.le_refl _, Nat.le_refl _, Nat.le_refl _, Nat.le_refl _⟩ (Q1 := fun r M' => WP k LAY m_X2_strike 55 [(0, vR (some 4)), (1, vI x1), (2, vI x2), (3, vI x3), (5, vI x5)] (r.toList ++ []) M' Q) (WPm.of k_X2_set.1 (Nat.le_of_ble_eq_true rfl) (B_X2_set_0 (by omega) ?_)) (fun r M' q => q)
    obtain ⟨e8, h⟩ := h
    refine ⟨e8, ?_⟩
    change WP _ LAY m_X2_strike 55 [(0, vR (some 4)), (1, vI x1), (2, vI x2), (3, vI x3), (5, vI x5)] [] (mem (P, some 5, some 22) (si I 19 ((3 + (x1 * 14)) + (6 + x5)).toNat (gi I 19 ((3 + (x1 * 14)) + ((6 + x5) + 1)).toNat)) J) Q
    refine st_iinc (pc' := 58) (L' := [(5, vI (x5 + 1)), (0, vR (some 4)), (1, vI x1), (2, vI x2), (3, vI x3)]) (j := 4) dX2_strike_55 rfl (by decide) rfl rfl ?_
    refine st_goto (pc' := 25) dX2_strike_58 (by decide) ?_
    refine WP_sub (L' := [(0, vR (some 4)), (1, vI x1), (2, vI x2), (3, vI x3), (5, vI (x5 + 1))]) [1, 2, 3, 4, 0] rfl ?_
    exact h
set_option maxRecDepth 20000 in
set_option maxHeartbeats 4000000 in
theorem B_X2_keep_0 {k : Nat} {P : Option Nat} {I : Nat → Nat → Int32} {J : Nat → Nat → Int64} {x1 : Int} {x2 : Int} {Q : Option AV → Mem → Prop} (hk : 0 ≤ k) (h : (84 ≤ (gi I 19 2) → (Q none (mem (P, some 5, some 22) I J))) ∧ (¬ 84 ≤ (gi I 19 2) → ((0 ≤ (gi I 19 2) ∧ (gi I 19 2) < 84) ∧ (Q none (mem (P, some 5, some 22) (si (si I 20 (gi I 19 2).toNat (or32 (or32 (shl32 (gi I 19 0) 7) (shl32 x1 4)) x2)) 19 2 ((gi I 19 2) + 1)) J))))) : WP k LAY m_X2_keep 0 [(0, vR (some 4)), (1, vI x1), (2, vI x2)] [] (mem (P, some 5, some 22) I J) Q := by
  refine st_aload_n (pc' := 1) dX2_keep_0 rfl rfl (j := 0) rfl ?_
  refine G_X2_9_4 dX2_keep_1 (pc' := 4) rfl rfl ?_
  refine st_iconst (pc' := 5) dX2_keep_4 rfl ?_
  refine st_iaload (pc' := 6) (v := (gi I 19 2)) dX2_keep_5 rfl L_19 (by decide) (by decide) (show gi I 19 2 = (gi I 19 2) from rfl) ?_
  refine st_istore_n (pc' := 7) (L' := [(3, vI (gi I 19 2)), (0, vR (some 4)), (1, vI x1), (2, vI x2)]) dX2_keep_6 rfl rfl (by decide) rfl ?_
  refine st_iload_n (pc' := 8) dX2_keep_7 rfl rfl (j := 0) rfl ?_
  refine st_bipush (pc' := 10) dX2_keep_8 rfl (by decide) ?_
  refine st_icmp_ge (tg := 43) (pc' := 13) dX2_keep_10 (by decide) rfl (gi_in _ _ _) (by decide) (fun c => ?_) (fun c => ?_)
  · replace h := h.1 c
    exact st_vret dX2_keep_43 rfl rfl h
  · replace h := h.2 c
    refine st_aload_n (pc' := 14) dX2_keep_13 rfl rfl (j := 1) rfl ?_
    refine G_X2_15_4 dX2_keep_14 (pc' := 17) rfl rfl ?_
    refine st_iload_n (pc' := 18) dX2_keep_17 rfl rfl (j := 0) rfl ?_
    refine st_aload_n (pc' := 19) dX2_keep_18 rfl rfl (j := 1) rfl ?_
    refine G_X2_9_4 dX2_keep_19 (pc' := 22) rfl rfl ?_
    refine st_iconst (pc' := 23) dX2_keep_22 rfl ?_
    refine st_iaload (pc' := 24) (v := (gi I 19 0)) dX2_keep_23 rfl L_19 (by decide) (by decide) (show gi I 19 0 = (gi I 19 0) from rfl) ?_
    refine st_bipush (pc' := 26) dX2_keep_24 rfl (by decide) ?_
    refine st_ishl (pc' := 27) (z := (shl32 (gi I 19 0) 7)) dX2_keep_26 rfl rfl ?_
    refine st_iload_n (pc' := 28) dX2_keep_27 rfl rfl (j := 2) rfl ?_
    refine st_iconst (pc' := 29) dX2_keep_28 rfl ?_
    refine st_ishl (pc' := 30) (z := (shl32 x1 4)) dX2_keep_29 rfl rfl ?_
    refine st_ior (pc' := 31) (z := (or32 (shl32 (gi I 19 0) 7) (shl32 x1 4))) dX2_keep_30 rfl rfl ?_
    refine st_iload_n (pc' := 32) dX2_keep_31 rfl rfl (j := 3) rfl ?_
    refine st_ior (pc' := 33) (z := (or32 (or32 (shl32 (gi I 19 0) 7) (shl32 x1 4)) x2)) dX2_keep_32 rfl rfl ?_
    obtain ⟨e1, h⟩ := h
    refine st_iastore (pc' := 34) (M' := (mem (P, some 5, some 22) (si I 20 (gi I 19 2).toNat (or32 (or32 (shl32 (gi I 19 0) 7) (shl32 x1 4)) x2)) J)) dX2_keep_33 rfl L_20 (by decide) e1 rfl ?_
    refine st_aload_n (pc' := 35) dX2_keep_34 rfl rfl (j := 1) rfl ?_
    refine G_X2_9_4 dX2_keep_35 (pc' := 38) rfl rfl ?_
    refine st_iconst (pc' := 39) dX2_keep_38 rfl ?_
    refine st_iload_n (pc' := 40) dX2_keep_39 rfl rfl (j := 0) rfl ?_
    refine st_iconst (pc' := 41) dX2_keep_40 rfl ?_
    refine st_iadd (pc' := 42) dX2_keep_41 rfl ?_
    refine st_iastore (pc' := 43) (M' := (mem (P, some 5, some 22) (si (si I 20 (gi I 19 2).toNat (or32 (or32 (shl32 (gi I 19 0) 7) (shl32 x1 4)) x2)) 19 2 ((gi I 19 2) + 1)) J)) dX2_keep_42 rfl L_19 (by decide) (by decide) rfl ?_
    exact st_vret dX2_keep_43 rfl rfl h
set_option maxRecDepth 20000 in
set_option maxHeartbeats 4000000 in
theorem B_X2_become_0 {k : Nat} {P : Option Nat} {I : Nat → Nat → Int32} {J : Nat → Nat → Int64}  {Q : Option AV → Mem → Prop} (hk : 1 ≤ k) (h : Q none (mem (P, some 5, some 22) (si (si (si (fc I 72 0 19 0 87) 4 4 0) 4 5 0) 4 6 ((gi (fc I 72 0 19 0 87) 4 6) + 1)) J)) : WP k LAY m_X2_become 0 [(0, vR (some 4)), (1, vR (some 72))] [] (mem (P, some 5, some 22) I J) Q := by
  refine st_aload_n (pc' := 1) dX2_become_0 rfl rfl (j := 1) rfl ?_
  refine st_iconst (pc' := 2) dX2_become_1 rfl ?_
  refine st_aload_n (pc' := 3) dX2_become_2 rfl rfl (j := 0) rfl ?_
  refine G_X2_9_4 dX2_become_3 (pc' := 6) rfl rfl ?_
  refine st_iconst (pc' := 7) dX2_become_6 rfl ?_
  refine st_bipush (pc' := 9) dX2_become_7 rfl (by decide) ?_
  refine st_copy (pc' := 12) (M' := (mem (P, some 5, some 22) (fc I 72 0 19 0 87) J)) dX2_become_9 rfl l_X2_42 a_copy L_72 L_19 (by decide) (by decide) (by decide) (by decide) (by omega) (Nat.le_of_ble_eq_true rfl) rfl ?_
  refine st_aload_n (pc' := 13) dX2_become_12 rfl rfl (j := 0) rfl ?_
  refine st_callV (pc' := 16) (kc := k - 1) (E' := LAY) (cal := m_X2_forget) (n := 0) (as := []) (S := []) dX2_become_13 rfl l_X2_39 k_X2_forget rfl L_4 c_X2 rfl rfl (Nat.le_of_ble_eq_true rfl) (by omega) ⟨Nat.le_refl _, Nat.le_refl _, Nat.le_refl _, Nat.le_refl _⟩ (Q1 := fun r M' => WP k LAY m_X2_become 16 [(0, vR (some 4)), (1, vR (some 72))] (r.toList ++ []) M' Q) (WPm.of k_X2_forget.1 (Nat.le_of_ble_eq_true rfl) (B_X2_forget_0 (by omega) ?_)) (fun r M' q => q)
  change WP _ LAY m_X2_become 16 [(0, vR (some 4)), (1, vR (some 72))] [] (mem (P, some 5, some 22) (si (si (si (fc I 72 0 19 0 87) 4 4 0) 4 5 0) 4 6 ((gi (fc I 72 0 19 0 87) 4 6) + 1)) J) Q
  exact st_vret dX2_become_16 rfl rfl h
set_option maxRecDepth 20000 in
set_option maxHeartbeats 4000000 in
theorem B_X2_knownBy_0 {k : Nat} {P : Option Nat} {I : Nat → Nat → Int32} {J : Nat → Nat → Int64} {x1 : Int} {Q : Option AV → Mem → Prop} (hk : 0 ≤ k) (h : WP k LAY m_X2_knownBy 4 [(0, vR (some 4)), (1, vI x1), (2, vI 0), (3, vI 0)] [] (mem (P, some 5, some 22) I J) Q) : WP k LAY m_X2_knownBy 0 [(0, vR (some 4)), (1, vI x1)] [] (mem (P, some 5, some 22) I J) Q := by
  refine st_iconst (pc' := 1) dX2_knownBy_0 rfl ?_
  refine st_istore_n (pc' := 2) (L' := [(2, vI 0), (0, vR (some 4)), (1, vI x1)]) dX2_knownBy_1 rfl rfl (by decide) rfl ?_
  refine st_iconst (pc' := 3) dX2_knownBy_2 rfl ?_
  refine st_istore_n (pc' := 4) (L' := [(3, vI 0), (2, vI 0), (0, vR (some 4)), (1, vI x1)]) dX2_knownBy_3 rfl rfl (by decide) rfl ?_
  refine WP_sub (L' := [(0, vR (some 4)), (1, vI x1), (2, vI 0), (3, vI 0)]) [2, 3, 1, 0] rfl ?_
  exact h
set_option maxRecDepth 20000 in
set_option maxHeartbeats 4000000 in
theorem B_X2_knownBy_4 {k : Nat} {P : Option Nat} {I : Nat → Nat → Int32} {J : Nat → Nat → Int64} {x1 : Int} {x2 : Int} {x3 : Int} {Q : Option AV → Mem → Prop} (hk : 2 ≤ k) (h : inR x3 ∧ (((gi I 6 2) ≤ x3 → (Q (some (vI x2)) (mem (P, some 5, some 22) I J))) ∧ (¬ (gi I 6 2) ≤ x3 → ((0 ≤ ((3 + (x3 * 14)) + 1) ∧ ((3 + (x3 * 14)) + 1) < 87) ∧ ((0 ≤ ((3 + (x3 * 14)) + 2) ∧ ((3 + (x3 * 14)) + 2) < 87) ∧ (∀ y4 : Int, y4 = (x2 + (and32 (shr32 (or32 (gi I 19 ((3 + (x3 * 14)) + 1).toNat) (gi I 19 ((3 + (x3 * 14)) + 2).toNat)) x1) 1)) → (WP k LAY m_X2_knownBy 4 [(0, vR (some 4)), (1, vI x1), (2, vI y4), (3, vI (x3 + 1))] [] (mem (P, some 5, some 22) I J) Q))))))) : WP k LAY m_X2_knownBy 4 [(0, vR (some 4)), (1, vI x1), (2, vI x2), (3, vI x3)] [] (mem (P, some 5, some 22) I J) Q := by
  refine st_iload_n (pc' := 5) dX2_knownBy_4 rfl rfl (j := 3) rfl ?_
  refine st_aload_n (pc' := 6) dX2_knownBy_5 rfl rfl (j := 0) rfl ?_
  refine G_X2_25_4 dX2_knownBy_6 (pc' := 9) rfl rfl ?_
  refine G_X2_67_5 dX2_knownBy_9 (pc' := 12) rfl rfl ?_
  refine st_iconst (pc' := 13) dX2_knownBy_12 rfl ?_
  refine st_iaload (pc' := 14) (v := (gi I 6 2)) dX2_knownBy_13 rfl L_6 (by decide) (by decide) (show gi I 6 2 = (gi I 6 2) from rfl) ?_
  obtain ⟨e1, h⟩ := h
  refine st_icmp_ge (tg := 35) (pc' := 17) dX2_knownBy_14 (by decide) rfl e1 (gi_in _ _ _) (fun c => ?_) (fun c => ?_)
  · replace h := h.1 c
    refine st_iload_n (pc' := 36) dX2_knownBy_35 rfl rfl (j := 2) rfl ?_
    exact st_iret (ty := .int) dX2_knownBy_36 rfl rfl rfl h
  · replace h := h.2 c
    refine st_iload_n (pc' := 18) dX2_knownBy_17 rfl rfl (j := 2) rfl ?_
    refine st_aload_n (pc' := 19) dX2_knownBy_18 rfl rfl (j := 0) rfl ?_
    refine st_iload_n (pc' := 20) dX2_knownBy_19 rfl rfl (j := 3) rfl ?_
    refine st_callV (pc' := 23) (kc := k - 1) (E' := LAY) (cal := m_X2_known) (n := 1) (as := [vI x3]) (S := [vI x2]) dX2_knownBy_20 rfl l_X2_72 k_X2_known rfl L_4 c_X2 rfl rfl (Nat.le_of_ble_eq_true rfl) (by omega) ⟨Nat.le_refl _, Nat.le_refl _, Nat.le_refl _, Nat.le_refl _⟩ (Q1 := fun r M' => WP k LAY m_X2_knownBy 23 [(0, vR (some 4)), (1, vI x1), (2, vI x2), (3, vI x3)] (r.toList ++ [vI x2]) M' Q) (WPm.of k_X2_known.1 (Nat.le_of_ble_eq_true rfl) (B_X2_known_0 (by omega) ?_)) (fun r M' q => q)
    obtain ⟨e2, h⟩ := h
    refine ⟨e2, ?_⟩
    obtain ⟨e3, h⟩ := h
    refine ⟨e3, ?_⟩
    change WP _ LAY m_X2_knownBy 23 [(0, vR (some 4)), (1, vI x1), (2, vI x2), (3, vI x3)] [vI (or32 (gi I 19 ((3 + (x3 * 14)) + 1).toNat) (gi I 19 ((3 + (x3 * 14)) + 2).toNat)), vI x2] (mem (P, some 5, some 22) I J) Q
    refine st_iload_n (pc' := 24) dX2_knownBy_23 rfl rfl (j := 1) rfl ?_
    refine st_ishr (pc' := 25) (z := (shr32 (or32 (gi I 19 ((3 + (x3 * 14)) + 1).toNat) (gi I 19 ((3 + (x3 * 14)) + 2).toNat)) x1)) dX2_knownBy_24 rfl rfl ?_
    refine st_iconst (pc' := 26) dX2_knownBy_25 rfl ?_
    refine st_iand (pc' := 27) (z := (and32 (shr32 (or32 (gi I 19 ((3 + (x3 * 14)) + 1).toNat) (gi I 19 ((3 + (x3 * 14)) + 2).toNat)) x1) 1)) dX2_knownBy_26 rfl rfl ?_
    refine st_iadd (pc' := 28) dX2_knownBy_27 rfl ?_
    obtain ⟨y4, hy4⟩ : ∃ y : Int, y = (x2 + (and32 (shr32 (or32 (gi I 19 ((3 + (x3 * 14)) + 1).toNat) (gi I 19 ((3 + (x3 * 14)) + 2).toNat)) x1) 1)) := ⟨_, rfl⟩
    rw [← hy4]
    replace h := h y4 hy4
    refine st_istore_n (pc' := 29) (L' := [(2, vI y4), (0, vR (some 4)), (1, vI x1), (3, vI x3)]) dX2_knownBy_28 rfl rfl (by decide) rfl ?_
    refine st_iinc (pc' := 32) (L' := [(3, vI (x3 + 1)), (2, vI y4), (0, vR (some 4)), (1, vI x1)]) (j := 3) dX2_knownBy_29 rfl (by decide) rfl rfl ?_
    refine st_goto (pc' := 4) dX2_knownBy_32 (by decide) ?_
    refine WP_sub (L' := [(0, vR (some 4)), (1, vI x1), (2, vI y4), (3, vI (x3 + 1))]) [2, 3, 1, 0] rfl ?_
    exact h
set_option maxRecDepth 20000 in
set_option maxHeartbeats 4000000 in
theorem B_X2_recall_0 {k : Nat} {P : Option Nat} {I : Nat → Nat → Int32} {J : Nat → Nat → Int64}  {Q : Option AV → Mem → Prop} (hk : 1 ≤ k) (h : (¬ (gi I 4 5) = 0 → (((0 : Int) ≤ ((rem32 (((gi I 4 4) + 20) - 1) 20) * 87) ∧ (0 : Int) ≤ 87 ∧ ((rem32 (((gi I 4 4) + 20) - 1) 20) * 87) + 87 ≤ 1740) ∧ (Q (some (vI 1)) (mem (P, some 5, some 22) (si (fc (si (si I 4 4 (rem32 (((gi I 4 4) + 20) - 1) 20)) 4 5 ((gi I 4 5) - 1)) 21 ((rem32 (((gi I 4 4) + 20) - 1) 20) * 87).toNat 19 0 87) 4 6 ((gi I 4 6) + 1)) J)))) ∧ ((gi I 4 5) = 0 → (Q (some (vI 0)) (mem (P, some 5, some 22) I J)))) : WP k LAY m_X2_recall 0 [(0, vR (some 4))] [] (mem (P, some 5, some 22) I J) Q := by
  refine st_aload_n (pc' := 1) dX2_recall_0 rfl rfl (j := 0) rfl ?_
  refine G_X2_52_4 dX2_recall_1 (pc' := 4) rfl rfl ?_
  refine st_if_ne (tg := 9) (pc' := 7) dX2_recall_4 (by decide) rfl (gi_in _ _ _) (fun c => ?_) (fun c => ?_)
  · replace h := h.1 c
    refine st_aload_n (pc' := 10) dX2_recall_9 rfl rfl (j := 0) rfl ?_
    refine st_aload_n (pc' := 11) dX2_recall_10 rfl rfl (j := 0) rfl ?_
    refine G_X2_48_4 dX2_recall_11 (pc' := 14) rfl rfl ?_
    refine st_bipush (pc' := 16) dX2_recall_14 rfl (by decide) ?_
    refine st_iadd (pc' := 17) dX2_recall_16 rfl ?_
    refine st_iconst (pc' := 18) dX2_recall_17 rfl ?_
    refine st_isub (pc' := 19) dX2_recall_18 rfl ?_
    refine st_bipush (pc' := 21) dX2_recall_19 rfl (by decide) ?_
    refine st_irem (pc' := 22) (z := (rem32 (((gi I 4 4) + 20) - 1) 20)) dX2_recall_21 rfl (by decide) rfl ?_
    refine P_X2_48_4 dX2_recall_22 (pc' := 25) rfl rfl ?_
    refine st_aload_n (pc' := 26) dX2_recall_25 rfl rfl (j := 0) rfl ?_
    refine st_dup (pc' := 27) dX2_recall_26 rfl rfl ?_
    refine G_X2_52_4 dX2_recall_27 (pc' := 30) rfl rfl ?_
    rw [show gi (si I 4 4 (rem32 (((gi I 4 4) + 20) - 1) 20)) 4 5 = (gi I 4 5) from (gi_idx _ _ _ (by decide))]
    refine st_iconst (pc' := 31) dX2_recall_30 rfl ?_
    refine st_isub (pc' := 32) dX2_recall_31 rfl ?_
    refine P_X2_52_4 dX2_recall_32 (pc' := 35) rfl rfl ?_
    refine st_aload_n (pc' := 36) dX2_recall_35 rfl rfl (j := 0) rfl ?_
    refine G_X2_18_4 dX2_recall_36 (pc' := 39) rfl rfl ?_
    refine st_aload_n (pc' := 40) dX2_recall_39 rfl rfl (j := 0) rfl ?_
    refine G_X2_48_4 dX2_recall_40 (pc' := 43) rfl rfl ?_
    rw [show gi (si (si I 4 4 (rem32 (((gi I 4 4) + 20) - 1) 20)) 4 5 ((gi I 4 5) - 1)) 4 4 = (rem32 (((gi I 4 4) + 20) - 1) 20) from ((gi_idx _ _ _ (by decide)).trans (gi_same _ _ _ (rem32_in _ _)))]
    refine st_bipush (pc' := 45) dX2_recall_43 rfl (by decide) ?_
    refine st_imul (pc' := 46) dX2_recall_45 rfl ?_
    refine st_aload_n (pc' := 47) dX2_recall_46 rfl rfl (j := 0) rfl ?_
    refine G_X2_9_4 dX2_recall_47 (pc' := 50) rfl rfl ?_
    refine st_iconst (pc' := 51) dX2_recall_50 rfl ?_
    refine st_bipush (pc' := 53) dX2_recall_51 rfl (by decide) ?_
    obtain ⟨e1, h⟩ := h
    refine st_copy (pc' := 56) (M' := (mem (P, some 5, some 22) (fc (si (si I 4 4 (rem32 (((gi I 4 4) + 20) - 1) 20)) 4 5 ((gi I 4 5) - 1)) 21 ((rem32 (((gi I 4 4) + 20) - 1) 20) * 87).toNat 19 0 87) J)) dX2_recall_53 rfl l_X2_42 a_copy L_21 L_19 (by decide) (by decide) e1 (by decide) (by omega) (Nat.le_of_ble_eq_true rfl) rfl ?_
    refine st_aload_n (pc' := 57) dX2_recall_56 rfl rfl (j := 0) rfl ?_
    refine st_dup (pc' := 58) dX2_recall_57 rfl rfl ?_
    refine G_X2_55_4 dX2_recall_58 (pc' := 61) rfl rfl ?_
    rw [show gi (fc (si (si I 4 4 (rem32 (((gi I 4 4) + 20) - 1) 20)) 4 5 ((gi I 4 5) - 1)) 21 ((rem32 (((gi I 4 4) + 20) - 1) 20) * 87).toNat 19 0 87) 4 6 = (gi I 4 6) from ((gi_fcell _ _ _ _ _ _ (by decide)).trans ((gi_idx _ _ _ (by decide)).trans (gi_idx _ _ _ (by decide))))]
    refine st_iconst (pc' := 62) dX2_recall_61 rfl ?_
    refine st_iadd (pc' := 63) dX2_recall_62 rfl ?_
    refine P_X2_55_4 dX2_recall_63 (pc' := 66) rfl rfl ?_
    refine st_iconst (pc' := 67) dX2_recall_66 rfl ?_
    exact st_iret (ty := .boolean) dX2_recall_67 rfl (by decide) rfl h
  · replace h := h.2 c
    refine st_iconst (pc' := 8) dX2_recall_7 rfl ?_
    exact st_iret (ty := .boolean) dX2_recall_8 rfl (by decide) rfl h
end WX2

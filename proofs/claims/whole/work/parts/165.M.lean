section WM5
set_option maxRecDepth 20000 in
set_option maxHeartbeats 4000000 in
theorem B_X12_undo_0 {k : Nat} {P : Option Nat} {I : Nat → Nat → Int32} {J : Nat → Nat → Int64}  {Q : Option AV → Mem → Prop} (hk : 1 ≤ k) (h : (¬ (gi I 74 66) = 0 → (WPm (k - 1) LAY m_X12_copies [vR (some 74), vI 0, vI (2 + (rem32 ((gi (si I 74 66 ((gi I 74 66) - 1)) 74 65) + (gi (si I 74 66 ((gi I 74 66) - 1)) 74 66)) 20))] (mem (P, some 5, some 22) (si I 74 66 ((gi I 74 66) - 1)) J) (retV (fun I2 J3 => Q (some (vI 1)) (mem (P, some 5, some 22) I2 J3)) (P, some 5, some 22)))) ∧ ((gi I 74 66) = 0 → (Q (some (vI 0)) (mem (P, some 5, some 22) (si I 107 4 ((gi I 107 4) + 1)) J)))) : WP k LAY m_X12_undo 0 [(0, vR (some 74))] [] (mem (P, some 5, some 22) I J) Q := by
  refine st_aload_n (pc' := 1) dX12_undo_0 rfl rfl (j := 0) rfl ?_
  refine G_X12_213_74 dX12_undo_1 (pc' := 4) rfl rfl ?_
  refine st_if_ne (tg := 21) (pc' := 7) dX12_undo_4 (by decide) rfl (gi_in _ _ _) (fun c => ?_) (fun c => ?_)
  · replace h := h.1 c
    refine st_aload_n (pc' := 22) dX12_undo_21 rfl rfl (j := 0) rfl ?_
    refine st_dup (pc' := 23) dX12_undo_22 rfl rfl ?_
    refine G_X12_213_74 dX12_undo_23 (pc' := 26) rfl rfl ?_
    refine st_iconst (pc' := 27) dX12_undo_26 rfl ?_
    refine st_isub (pc' := 28) dX12_undo_27 rfl ?_
    refine P_X12_213_74 dX12_undo_28 (pc' := 31) rfl rfl ?_
    refine st_aload_n (pc' := 32) dX12_undo_31 rfl rfl (j := 0) rfl ?_
    refine st_iconst (pc' := 33) dX12_undo_32 rfl ?_
    refine st_aload_n (pc' := 34) dX12_undo_33 rfl rfl (j := 0) rfl ?_
    refine st_aload_n (pc' := 35) dX12_undo_34 rfl rfl (j := 0) rfl ?_
    refine G_X12_213_74 dX12_undo_35 (pc' := 38) rfl rfl ?_
    refine st_callV (pc' := 41) (kc := k - 1) (E' := LAY) (cal := m_X12_ring) (n := 1) (as := [vI (gi (si I 74 66 ((gi I 74 66) - 1)) 74 66)]) (S := [vI 0, vR (some 74)]) dX12_undo_38 rfl l_X12_476 k_X12_ring rfl L_74 c_X12 rfl rfl (Nat.le_of_ble_eq_true rfl) (by omega) ⟨Nat.le_refl _, Nat.le_refl _, Nat.le_refl _, Nat.le_refl _⟩ (Q1 := fun r M' => WP k LAY m_X12_undo 41 [(0, vR (some 74))] (r.toList ++ [vI 0, vR (some 74)]) M' Q) (WPm.of k_X12_ring.1 (Nat.le_of_ble_eq_true rfl) (B_X12_ring_0 (by omega) ?_)) (fun r M' q => q)
    change WP _ LAY m_X12_undo 41 [(0, vR (some 74))] [vI (2 + (rem32 ((gi (si I 74 66 ((gi I 74 66) - 1)) 74 65) + (gi (si I 74 66 ((gi I 74 66) - 1)) 74 66)) 20)), vI 0, vR (some 74)] (mem (P, some 5, some 22) (si I 74 66 ((gi I 74 66) - 1)) J) Q
    refine st_callV (pc' := 44) (kc := k - 1) (E' := LAY) (cal := m_X12_copies) (n := 2) (as := [vI 0, vI (2 + (rem32 ((gi (si I 74 66 ((gi I 74 66) - 1)) 74 65) + (gi (si I 74 66 ((gi I 74 66) - 1)) 74 66)) 20))]) (S := []) dX12_undo_41 rfl l_X12_479 k_X12_copies rfl L_74 c_X12 rfl rfl (Nat.le_of_ble_eq_true rfl) (by omega) ⟨Nat.le_refl _, Nat.le_refl _, Nat.le_refl _, Nat.le_refl _⟩ h (fun r M' q => ?_)
    obtain ⟨I2, J3, rfl, rfl, h⟩ := q
    change WP _ LAY m_X12_undo 44 [(0, vR (some 74))] [] (mem (P, some 5, some 22) I2 J3) Q
    refine st_iconst (pc' := 45) dX12_undo_44 rfl ?_
    exact st_iret (ty := .boolean) dX12_undo_45 rfl (by decide) rfl h
  · replace h := h.2 c
    refine st_aload_n (pc' := 8) dX12_undo_7 rfl rfl (j := 0) rfl ?_
    refine st_iconst (pc' := 9) dX12_undo_8 rfl ?_
    refine st_callV (pc' := 12) (kc := k - 1) (E' := LAY) (cal := m_X12_refuses) (n := 1) (as := [vI 4]) (S := []) dX12_undo_9 rfl l_X12_279 k_X12_refuses rfl L_74 c_X12 rfl rfl (Nat.le_of_ble_eq_true rfl) (by omega) ⟨Nat.le_refl _, Nat.le_refl _, Nat.le_refl _, Nat.le_refl _⟩ (Q1 := fun r M' => WP k LAY m_X12_undo 12 [(0, vR (some 74))] (r.toList ++ []) M' Q) (WPm.of k_X12_refuses.1 (Nat.le_of_ble_eq_true rfl) (B_X12_refuses_0 (by omega) ?_)) (fun r M' q => q)
    refine ⟨by decide, ?_⟩
    change WP _ LAY m_X12_undo 12 [(0, vR (some 74))] [vI (-1)] (mem (P, some 5, some 22) (si I 107 4 ((gi I 107 4) + 1)) J) Q
    refine st_if_lt (tg := 19) (pc' := 15) dX12_undo_12 (by decide) rfl (by decide) (fun c => ?_) (fun c => ?_)
    · refine st_iconst (pc' := 20) dX12_undo_19 rfl ?_
      exact st_iret (ty := .boolean) dX12_undo_20 rfl (by decide) rfl h
    · exact absurd c (by decide)
set_option maxRecDepth 20000 in
set_option maxHeartbeats 4000000 in
theorem B_X12_wax_0 {k : Nat} {P : Option Nat} {I : Nat → Nat → Int32} {J : Nat → Nat → Int64} {x1 : Int} {x2 : Int} {x3 : Int} {Q : Option AV → Mem → Prop} (hk : 1 ≤ k) (h : (0 ≤ (gi I 74 13) ∧ (gi I 74 13) < 2) ∧ (inR x1 ∧ ((¬ (0 ≤ x1 ∧ x1 < gi I 83 (gi I 74 13).toNat) → (Q (some (vI (-1))) (mem (P, some 5, some 22) I J))) ∧ ((0 ≤ x1 ∧ x1 < gi I 83 (gi I 74 13).toNat) → (inR x2 ∧ ((x2 < 0 → (Q (some (vI (-1))) (mem (P, some 5, some 22) I J))) ∧ (¬ x2 < 0 → (inR x3 ∧ (((0 ≤ x3 ∧ x3 ≤ 2) → (WP k LAY m_X12_wax 31 [(0, vR (some 74)), (1, vI x1), (2, vI x2), (3, vI x3), (4, vI 0)] [] (mem (P, some 5, some 22) (si I 74 72 0) J) Q)) ∧ (¬ (0 ≤ x3 ∧ x3 ≤ 2) → (Q (some (vI (-1))) (mem (P, some 5, some 22) I J)))))))))))) : WP k LAY m_X12_wax 0 [(0, vR (some 74)), (1, vI x1), (2, vI x2), (3, vI x3)] [] (mem (P, some 5, some 22) I J) Q := by
  refine st_aload_n (pc' := 1) dX12_wax_0 rfl rfl (j := 0) rfl ?_
  refine st_iload_n (pc' := 2) dX12_wax_1 rfl rfl (j := 1) rfl ?_
  obtain ⟨e1, h⟩ := h
  obtain ⟨e2, h⟩ := h
  refine st_callV (pc' := 5) (kc := k - 1) (E' := LAY) (cal := m_X12_isReader) (n := 1) (as := [vI x1]) (S := []) dX12_wax_2 rfl l_X12_562 k_X12_isReader rfl L_74 c_X12 rfl rfl (Nat.le_of_ble_eq_true rfl) (by omega) ⟨Nat.le_refl _, Nat.le_refl _, Nat.le_refl _, Nat.le_refl _⟩ (Q1 := fun r M' => WP k LAY m_X12_wax 5 [(0, vR (some 74)), (1, vI x1), (2, vI x2), (3, vI x3)] (r.toList ++ []) M' Q) (S_X12_isReader (by omega) e1 e2 ?_) (fun r M' q => q)
  change WP _ LAY m_X12_wax 5 [(0, vR (some 74)), (1, vI x1), (2, vI x2), (3, vI x3)] [vI (b2i (0 ≤ x1 ∧ x1 < gi I 83 (gi I 74 13).toNat))] (mem (P, some 5, some 22) I J) Q
  refine st_if_eq (tg := 21) (pc' := 8) dX12_wax_5 (by decide) rfl (b2i_in _) (fun c => ?_) (fun c => ?_)
  · replace h := h.1 (b2i_f.mp c)
    refine st_iconst (pc' := 22) dX12_wax_21 rfl ?_
    exact st_iret (ty := .int) dX12_wax_22 rfl rfl rfl h
  · replace h := h.2 (b2i_t.mp c)
    refine st_iload_n (pc' := 9) dX12_wax_8 rfl rfl (j := 2) rfl ?_
    obtain ⟨e3, h⟩ := h
    refine st_if_lt (tg := 21) (pc' := 12) dX12_wax_9 (by decide) rfl e3 (fun c => ?_) (fun c => ?_)
    · replace h := h.1 c
      refine st_iconst (pc' := 22) dX12_wax_21 rfl ?_
      exact st_iret (ty := .int) dX12_wax_22 rfl rfl rfl h
    · replace h := h.2 c
      refine st_iload_n (pc' := 13) dX12_wax_12 rfl rfl (j := 3) rfl ?_
      refine st_iconst (pc' := 14) dX12_wax_13 rfl ?_
      refine st_iconst (pc' := 15) dX12_wax_14 rfl ?_
      obtain ⟨e4, h⟩ := h
      refine st_callS (pc' := 18) (kc := k - 1) (E' := LAY) (cal := m_X12_is) (n := 3) (as := [vI x3, vI 0, vI 2]) (S := []) dX12_wax_15 rfl l_X12_369 k_X12_is rfl rfl (Nat.le_of_ble_eq_true rfl) (by omega) ⟨Nat.le_refl _, Nat.le_refl _, Nat.le_refl _, Nat.le_refl _⟩ (Q1 := fun r M' => WP k LAY m_X12_wax 18 [(0, vR (some 74)), (1, vI x1), (2, vI x2), (3, vI x3)] (r.toList ++ []) M' Q) (S_X12_is (by omega) e4 (by decide) (by decide) ?_) (fun r M' q => q)
      change WP _ LAY m_X12_wax 18 [(0, vR (some 74)), (1, vI x1), (2, vI x2), (3, vI x3)] [vI (b2i (0 ≤ x3 ∧ x3 ≤ 2))] (mem (P, some 5, some 22) I J) Q
      refine st_if_ne (tg := 23) (pc' := 21) dX12_wax_18 (by decide) rfl (b2i_in _) (fun c => ?_) (fun c => ?_)
      · replace h := h.1 (b2i_t.mp c)
        refine st_aload_n (pc' := 24) dX12_wax_23 rfl rfl (j := 0) rfl ?_
        refine st_iconst (pc' := 25) dX12_wax_24 rfl ?_
        refine P_X12_231_74 dX12_wax_25 (pc' := 28) rfl rfl ?_
        refine st_iconst (pc' := 29) dX12_wax_28 rfl ?_
        refine st_istore (pc' := 31) (L' := [(4, vI 0), (0, vR (some 74)), (1, vI x1), (2, vI x2), (3, vI x3)]) dX12_wax_29 rfl (by decide) rfl ?_
        refine WP_sub (L' := [(0, vR (some 74)), (1, vI x1), (2, vI x2), (3, vI x3), (4, vI 0)]) [1, 2, 3, 4, 0] rfl ?_
        exact h
      · replace h := h.2 (b2i_f.mp c)
        refine st_iconst (pc' := 22) dX12_wax_21 rfl ?_
        exact st_iret (ty := .int) dX12_wax_22 rfl rfl rfl h
set_option maxRecDepth 20000 in
set_option maxHeartbeats 4000000 in
theorem B_X12_wax_31 {k : Nat} {P : Option Nat} {I : Nat → Nat → Int32} {J : Nat → Nat → Int64} {x1 : Int} {x2 : Int} {x3 : Int} {x4 : Int} {Q : Option AV → Mem → Prop} (hk : 1 ≤ k) (h : (0 ≤ (gi I 74 13) ∧ (gi I 74 13) < 2) ∧ (inR x4 ∧ (((gi I 77 (gi I 74 13).toNat) ≤ x4 → (WP k LAY m_X12_wax 95 [(0, vR (some 74)), (2, vI x2), (3, vI x3), (4, vI 0), (5, vI ((shl32 1 (gi I 77 (gi I 74 13).toNat)) - 1)), (6, vI 0), (7, vI 0)] [] (mem (P, some 5, some 22) (si I 74 72 (-1)) J) Q)) ∧ (¬ (gi I 77 (gi I 74 13).toNat) ≤ x4 → (WPm (k - 1) LAY m_X12_longOf [vR (some 74), vI 0, vI x1, vI x4] (mem (P, some 5, some 22) I J) (retI (fun v3 I4 J5 => (0 ≤ x4 ∧ x4 < 14) ∧ (WP k LAY m_X12_wax 31 [(0, vR (some 74)), (1, vI x1), (2, vI x2), (3, vI x3), (4, vI (x4 + 1))] [] (mem (P, some 5, some 22) (si I4 130 (x4).toNat v3) J5) Q)) (P, some 5, some 22))))))) : WP k LAY m_X12_wax 31 [(0, vR (some 74)), (1, vI x1), (2, vI x2), (3, vI x3), (4, vI x4)] [] (mem (P, some 5, some 22) I J) Q := by
  refine st_iload (pc' := 33) dX12_wax_31 rfl (j := 4) rfl ?_
  refine st_aload_n (pc' := 34) dX12_wax_33 rfl rfl (j := 0) rfl ?_
  refine G_X12_57_74 dX12_wax_34 (pc' := 37) rfl rfl ?_
  refine st_aload_n (pc' := 38) dX12_wax_37 rfl rfl (j := 0) rfl ?_
  refine G_X12_51_74 dX12_wax_38 (pc' := 41) rfl rfl ?_
  obtain ⟨e1, h⟩ := h
  refine st_iaload (pc' := 42) (v := (gi I 77 (gi I 74 13).toNat)) dX12_wax_41 rfl L_77 (by decide) e1 (show gi I 77 (gi I 74 13).toNat = (gi I 77 (gi I 74 13).toNat) from rfl) ?_
  obtain ⟨e2, h⟩ := h
  refine st_icmp_ge (tg := 66) (pc' := 45) dX12_wax_42 (by decide) rfl e2 (gi_in _ _ _) (fun c => ?_) (fun c => ?_)
  · replace h := h.1 c
    refine st_aload_n (pc' := 67) dX12_wax_66 rfl rfl (j := 0) rfl ?_
    refine st_iconst (pc' := 68) dX12_wax_67 rfl ?_
    refine P_X12_231_74 dX12_wax_68 (pc' := 71) rfl rfl ?_
    refine st_iconst (pc' := 72) dX12_wax_71 rfl ?_
    refine st_istore (pc' := 74) (L' := [(4, vI 0), (0, vR (some 74)), (1, vI x1), (2, vI x2), (3, vI x3)]) dX12_wax_72 rfl (by decide) rfl ?_
    refine st_iconst (pc' := 75) dX12_wax_74 rfl ?_
    refine st_aload_n (pc' := 76) dX12_wax_75 rfl rfl (j := 1) rfl ?_
    refine G_X12_57_74 dX12_wax_76 (pc' := 79) rfl rfl ?_
    refine st_aload_n (pc' := 80) dX12_wax_79 rfl rfl (j := 1) rfl ?_
    refine G_X12_51_74 dX12_wax_80 (pc' := 83) rfl rfl ?_
    rw [show gi (si I 74 72 (-1)) 74 13 = (gi I 74 13) from (gi_idx _ _ _ (by decide))]
    refine st_iaload (pc' := 84) (v := (gi I 77 (gi I 74 13).toNat)) dX12_wax_83 rfl L_77 (by decide) e1 (show gi (si I 74 72 (-1)) 77 (gi I 74 13).toNat = (gi I 77 (gi I 74 13).toNat) from (gi_cell _ _ _ _ (by decide))) ?_
    refine st_ishl (pc' := 85) (z := (shl32 1 (gi I 77 (gi I 74 13).toNat))) dX12_wax_84 rfl rfl ?_
    refine st_iconst (pc' := 86) dX12_wax_85 rfl ?_
    refine st_isub (pc' := 87) dX12_wax_86 rfl ?_
    refine st_istore (pc' := 89) (L' := [(5, vI ((shl32 1 (gi I 77 (gi I 74 13).toNat)) - 1)), (4, vI 0), (0, vR (some 74)), (1, vI x1), (2, vI x2), (3, vI x3)]) dX12_wax_87 rfl (by decide) rfl ?_
    refine st_iconst (pc' := 90) dX12_wax_89 rfl ?_
    refine st_istore (pc' := 92) (L' := [(6, vI 0), (5, vI ((shl32 1 (gi I 77 (gi I 74 13).toNat)) - 1)), (4, vI 0), (0, vR (some 74)), (1, vI x1), (2, vI x2), (3, vI x3)]) dX12_wax_90 rfl (by decide) rfl ?_
    refine st_iconst (pc' := 93) dX12_wax_92 rfl ?_
    refine st_istore (pc' := 95) (L' := [(7, vI 0), (6, vI 0), (5, vI ((shl32 1 (gi I 77 (gi I 74 13).toNat)) - 1)), (4, vI 0), (0, vR (some 74)), (1, vI x1), (2, vI x2), (3, vI x3)]) dX12_wax_93 rfl (by decide) rfl ?_
    refine WP_sub (L' := [(0, vR (some 74)), (2, vI x2), (3, vI x3), (4, vI 0), (5, vI ((shl32 1 (gi I 77 (gi I 74 13).toNat)) - 1)), (6, vI 0), (7, vI 0)]) [4, 6, 7, 3, 2, 1, 0] rfl ?_
    exact h
  · replace h := h.2 c
    refine st_aload_n (pc' := 46) dX12_wax_45 rfl rfl (j := 0) rfl ?_
    refine G_X12_270_74 dX12_wax_46 (pc' := 49) rfl rfl ?_
    refine st_iload (pc' := 51) dX12_wax_49 rfl (j := 4) rfl ?_
    refine st_aload_n (pc' := 52) dX12_wax_51 rfl rfl (j := 0) rfl ?_
    refine st_iconst (pc' := 53) dX12_wax_52 rfl ?_
    refine st_iload_n (pc' := 54) dX12_wax_53 rfl rfl (j := 1) rfl ?_
    refine st_iload (pc' := 56) dX12_wax_54 rfl (j := 4) rfl ?_
    refine st_callV (pc' := 59) (kc := k - 1) (E' := LAY) (cal := m_X12_longOf) (n := 3) (as := [vI 0, vI x1, vI x4]) (S := [vI x4, vR (some 130)]) dX12_wax_56 rfl l_X12_530 k_X12_longOf rfl L_74 c_X12 rfl rfl (Nat.le_of_ble_eq_true rfl) (by omega) ⟨Nat.le_refl _, Nat.le_refl _, Nat.le_refl _, Nat.le_refl _⟩ h (fun r M' q => ?_)
    obtain ⟨v3, I4, J5, rfl, rfl, h⟩ := q
    change WP _ LAY m_X12_wax 59 [(0, vR (some 74)), (1, vI x1), (2, vI x2), (3, vI x3), (4, vI x4)] [vI v3, vI x4, vR (some 130)] (mem (P, some 5, some 22) I4 J5) Q
    obtain ⟨e6, h⟩ := h
    refine st_iastore (pc' := 60) (M' := (mem (P, some 5, some 22) (si I4 130 (x4).toNat v3) J5)) dX12_wax_59 rfl L_130 (by decide) e6 rfl ?_
    refine st_iinc (pc' := 63) (L' := [(4, vI (x4 + 1)), (0, vR (some 74)), (1, vI x1), (2, vI x2), (3, vI x3)]) (j := 4) dX12_wax_60 rfl (by decide) rfl rfl ?_
    refine st_goto (pc' := 31) dX12_wax_63 (by decide) ?_
    refine WP_sub (L' := [(0, vR (some 74)), (1, vI x1), (2, vI x2), (3, vI x3), (4, vI (x4 + 1))]) [1, 2, 3, 4, 0] rfl ?_
    exact h
set_option maxRecDepth 20000 in
set_option maxHeartbeats 4000000 in
theorem B_X12_wax_95 {k : Nat} {P : Option Nat} {I : Nat → Nat → Int32} {J : Nat → Nat → Int64} {x2 : Int} {x3 : Int} {x4 : Int} {x5 : Int} {x6 : Int} {x7 : Int} {Q : Option AV → Mem → Prop} (hk : 0 ≤ k) (h : (0 ≤ (gi I 74 13) ∧ (gi I 74 13) < 2) ∧ (inR x7 ∧ (((shl32 1 (gi I 77 (gi I 74 13).toNat)) ≤ x7 → (inR x3 ∧ ((¬ x3 = 0 → ((¬ x3 = 1 → (Q (some (vI x6)) (mem (P, some 5, some 22) I J))) ∧ (x3 = 1 → (inR x4 ∧ ((¬ x4 = 0 → (Q (some (vI x5)) (mem (P, some 5, some 22) I J))) ∧ (x4 = 0 → (Q (some (vI 0)) (mem (P, some 5, some 22) I J)))))))) ∧ (x3 = 0 → (Q (some (vI x4)) (mem (P, some 5, some 22) I J)))))) ∧ (¬ (shl32 1 (gi I 77 (gi I 74 13).toNat)) ≤ x7 → (WP k LAY m_X12_wax 120 [(0, vR (some 74)), (2, vI x2), (3, vI x3), (4, vI x4), (5, vI x5), (6, vI x6), (7, vI x7), (8, vI 0), (9, vI 1), (10, vI 0)] [] (mem (P, some 5, some 22) I J) Q))))) : WP k LAY m_X12_wax 95 [(0, vR (some 74)), (2, vI x2), (3, vI x3), (4, vI x4), (5, vI x5), (6, vI x6), (7, vI x7)] [] (mem (P, some 5, some 22) I J) Q := by
  refine st_iload (pc' := 97) dX12_wax_95 rfl (j := 6) rfl ?_
  refine st_iconst (pc' := 98) dX12_wax_97 rfl ?_
  refine st_aload_n (pc' := 99) dX12_wax_98 rfl rfl (j := 0) rfl ?_
  refine G_X12_57_74 dX12_wax_99 (pc' := 102) rfl rfl ?_
  refine st_aload_n (pc' := 103) dX12_wax_102 rfl rfl (j := 0) rfl ?_
  refine G_X12_51_74 dX12_wax_103 (pc' := 106) rfl rfl ?_
  obtain ⟨e1, h⟩ := h
  refine st_iaload (pc' := 107) (v := (gi I 77 (gi I 74 13).toNat)) dX12_wax_106 rfl L_77 (by decide) e1 (show gi I 77 (gi I 74 13).toNat = (gi I 77 (gi I 74 13).toNat) from rfl) ?_
  refine st_ishl (pc' := 108) (z := (shl32 1 (gi I 77 (gi I 74 13).toNat))) dX12_wax_107 rfl rfl ?_
  obtain ⟨e2, h⟩ := h
  refine st_icmp_ge (tg := 228) (pc' := 111) dX12_wax_108 (by decide) rfl e2 (shl32_in _ _) (fun c => ?_) (fun c => ?_)
  · replace h := h.1 c
    refine st_iload_n (pc' := 229) dX12_wax_228 rfl rfl (j := 2) rfl ?_
    obtain ⟨e3, h⟩ := h
    refine st_if_ne (tg := 237) (pc' := 232) dX12_wax_229 (by decide) rfl e3 (fun c => ?_) (fun c => ?_)
    · replace h := h.1 c
      refine st_iload_n (pc' := 238) dX12_wax_237 rfl rfl (j := 2) rfl ?_
      refine st_iconst (pc' := 239) dX12_wax_238 rfl ?_
      refine st_icmp_ne (tg := 256) (pc' := 242) dX12_wax_239 (by decide) rfl e3 (by decide) (fun c => ?_) (fun c => ?_)
      · replace h := h.1 c
        refine st_iload (pc' := 258) dX12_wax_256 rfl (j := 5) rfl ?_
        exact st_iret (ty := .int) dX12_wax_258 rfl rfl rfl h
      · replace h := h.2 c
        refine st_iload (pc' := 244) dX12_wax_242 rfl (j := 3) rfl ?_
        obtain ⟨e4, h⟩ := h
        refine st_if_ne (tg := 251) (pc' := 247) dX12_wax_244 (by decide) rfl e4 (fun c => ?_) (fun c => ?_)
        · replace h := h.1 c
          refine st_iload (pc' := 253) dX12_wax_251 rfl (j := 4) rfl ?_
          refine st_goto (pc' := 258) dX12_wax_253 (by decide) ?_
          exact st_iret (ty := .int) dX12_wax_258 rfl rfl rfl h
        · replace h := h.2 c
          refine st_iconst (pc' := 248) dX12_wax_247 rfl ?_
          refine st_goto (pc' := 258) dX12_wax_248 (by decide) ?_
          exact st_iret (ty := .int) dX12_wax_258 rfl rfl rfl h
    · replace h := h.2 c
      refine st_iload (pc' := 234) dX12_wax_232 rfl (j := 3) rfl ?_
      refine st_goto (pc' := 258) dX12_wax_234 (by decide) ?_
      exact st_iret (ty := .int) dX12_wax_258 rfl rfl rfl h
  · replace h := h.2 c
    refine st_iconst (pc' := 112) dX12_wax_111 rfl ?_
    refine st_istore (pc' := 114) (L' := [(8, vI 0), (0, vR (some 74)), (2, vI x2), (3, vI x3), (4, vI x4), (5, vI x5), (6, vI x6), (7, vI x7)]) dX12_wax_112 rfl (by decide) rfl ?_
    refine st_iconst (pc' := 115) dX12_wax_114 rfl ?_
    refine st_istore (pc' := 117) (L' := [(9, vI 1), (8, vI 0), (0, vR (some 74)), (2, vI x2), (3, vI x3), (4, vI x4), (5, vI x5), (6, vI x6), (7, vI x7)]) dX12_wax_115 rfl (by decide) rfl ?_
    refine st_iconst (pc' := 118) dX12_wax_117 rfl ?_
    refine st_istore (pc' := 120) (L' := [(10, vI 0), (9, vI 1), (8, vI 0), (0, vR (some 74)), (2, vI x2), (3, vI x3), (4, vI x4), (5, vI x5), (6, vI x6), (7, vI x7)]) dX12_wax_118 rfl (by decide) rfl ?_
    refine WP_sub (L' := [(0, vR (some 74)), (2, vI x2), (3, vI x3), (4, vI x4), (5, vI x5), (6, vI x6), (7, vI x7), (8, vI 0), (9, vI 1), (10, vI 0)]) [3, 4, 5, 6, 7, 8, 9, 2, 1, 0] rfl ?_
    exact h
set_option maxRecDepth 20000 in
set_option maxHeartbeats 4000000 in
theorem B_X12_wax_120 {k : Nat} {P : Option Nat} {I : Nat → Nat → Int32} {J : Nat → Nat → Int64} {x2 : Int} {x3 : Int} {x4 : Int} {x5 : Int} {x6 : Int} {x7 : Int} {x8 : Int} {x9 : Int} {x10 : Int} {Q : Option AV → Mem → Prop} (hk : 1 ≤ k) (h : (0 ≤ (gi I 74 13) ∧ (gi I 74 13) < 2) ∧ (inR x10 ∧ (((gi I 77 (gi I 74 13).toNat) ≤ x10 → (inR x9 ∧ ((x9 = 0 → (WP k LAY m_X12_wax 95 [(0, vR (some 74)), (2, vI x2), (3, vI x3), (4, vI x4), (5, vI x5), (6, vI x6), (7, vI (x7 + 1))] [] (mem (P, some 5, some 22) I J) Q)) ∧ (¬ x9 = 0 → (inR x8 ∧ (inR x2 ∧ ((x8 = x2 → (WP k LAY m_X12_wax 95 [(0, vR (some 74)), (2, vI x2), (3, vI x3), (4, vI (x4 + 1)), (5, vI (and32 x5 x7)), (6, vI (or32 x6 x7)), (7, vI (x7 + 1))] [] (mem (P, some 5, some 22) I J) Q)) ∧ (¬ x8 = x2 → (WP k LAY m_X12_wax 95 [(0, vR (some 74)), (2, vI x2), (3, vI x3), (4, vI x4), (5, vI x5), (6, vI x6), (7, vI (x7 + 1))] [] (mem (P, some 5, some 22) I J) Q))))))))) ∧ (¬ (gi I 77 (gi I 74 13).toNat) ≤ x10 → (inR x9 ∧ ((x9 = 0 → ((x9 = 0 → (WP k LAY m_X12_wax 95 [(0, vR (some 74)), (2, vI x2), (3, vI x3), (4, vI x4), (5, vI x5), (6, vI x6), (7, vI (x7 + 1))] [] (mem (P, some 5, some 22) I J) Q)) ∧ (¬ x9 = 0 → (inR x8 ∧ (inR x2 ∧ ((x8 = x2 → (WP k LAY m_X12_wax 95 [(0, vR (some 74)), (2, vI x2), (3, vI x3), (4, vI (x4 + 1)), (5, vI (and32 x5 x7)), (6, vI (or32 x6 x7)), (7, vI (x7 + 1))] [] (mem (P, some 5, some 22) I J) Q)) ∧ (¬ x8 = x2 → (WP k LAY m_X12_wax 95 [(0, vR (some 74)), (2, vI x2), (3, vI x3), (4, vI x4), (5, vI x5), (6, vI x6), (7, vI (x7 + 1))] [] (mem (P, some 5, some 22) I J) Q)))))))) ∧ (¬ x9 = 0 → (((and32 (shr32 x7 x10) 1 = 1) → ((0 ≤ x10 ∧ x10 < 14) ∧ ((0 ≤ ((14 * (gi I 74 13)) + x10) ∧ ((14 * (gi I 74 13)) + x10) < 28) ∧ ((¬ (and32 (gi I 81 (((14 * (gi I 74 13)) + x10) : Int).toNat) (xor32 x7 (-1))) = 0 → (WP k LAY m_X12_wax 120 [(0, vR (some 74)), (2, vI x2), (3, vI x3), (4, vI x4), (5, vI x5), (6, vI x6), (7, vI x7), (8, vI (x8 + (gi I 130 (x10).toNat))), (9, vI 0), (10, vI (x10 + 1))] [] (mem (P, some 5, some 22) I J) Q)) ∧ ((and32 (gi I 81 (((14 * (gi I 74 13)) + x10) : Int).toNat) (xor32 x7 (-1))) = 0 → (WP k LAY m_X12_wax 120 [(0, vR (some 74)), (2, vI x2), (3, vI x3), (4, vI x4), (5, vI x5), (6, vI x6), (7, vI x7), (8, vI (x8 + (gi I 130 (x10).toNat))), (9, vI 1), (10, vI (x10 + 1))] [] (mem (P, some 5, some 22) I J) Q)))))) ∧ (¬ (and32 (shr32 x7 x10) 1 = 1) → (WP k LAY m_X12_wax 120 [(0, vR (some 74)), (2, vI x2), (3, vI x3), (4, vI x4), (5, vI x5), (6, vI x6), (7, vI x7), (8, vI x8), (9, vI x9), (10, vI (x10 + 1))] [] (mem (P, some 5, some 22) I J) Q)))))))))) : WP k LAY m_X12_wax 120 [(0, vR (some 74)), (2, vI x2), (3, vI x3), (4, vI x4), (5, vI x5), (6, vI x6), (7, vI x7), (8, vI x8), (9, vI x9), (10, vI x10)] [] (mem (P, some 5, some 22) I J) Q := by
  refine st_iload (pc' := 122) dX12_wax_120 rfl (j := 9) rfl ?_
  refine st_aload_n (pc' := 123) dX12_wax_122 rfl rfl (j := 0) rfl ?_
  refine G_X12_57_74 dX12_wax_123 (pc' := 126) rfl rfl ?_
  refine st_aload_n (pc' := 127) dX12_wax_126 rfl rfl (j := 0) rfl ?_
  refine G_X12_51_74 dX12_wax_127 (pc' := 130) rfl rfl ?_
  obtain ⟨e1, h⟩ := h
  refine st_iaload (pc' := 131) (v := (gi I 77 (gi I 74 13).toNat)) dX12_wax_130 rfl L_77 (by decide) e1 (show gi I 77 (gi I 74 13).toNat = (gi I 77 (gi I 74 13).toNat) from rfl) ?_
  obtain ⟨e2, h⟩ := h
  refine st_icmp_ge (tg := 191) (pc' := 134) dX12_wax_131 (by decide) rfl e2 (gi_in _ _ _) (fun c => ?_) (fun c => ?_)
  · replace h := h.1 c
    refine st_iload (pc' := 193) dX12_wax_191 rfl (j := 8) rfl ?_
    obtain ⟨e3, h⟩ := h
    refine st_if_eq (tg := 222) (pc' := 196) dX12_wax_193 (by decide) rfl e3 (fun c => ?_) (fun c => ?_)
    · replace h := h.1 c
      refine st_iinc (pc' := 225) (L' := [(7, vI (x7 + 1)), (0, vR (some 74)), (2, vI x2), (3, vI x3), (4, vI x4), (5, vI x5), (6, vI x6), (8, vI x8), (9, vI x9), (10, vI x10)]) (j := 6) dX12_wax_222 rfl (by decide) rfl rfl ?_
      refine st_goto (pc' := 95) dX12_wax_225 (by decide) ?_
      refine WP_sub (L' := [(0, vR (some 74)), (2, vI x2), (3, vI x3), (4, vI x4), (5, vI x5), (6, vI x6), (7, vI (x7 + 1))]) [1, 2, 3, 4, 5, 6, 0] rfl ?_
      exact h
    · replace h := h.2 c
      refine st_iload (pc' := 198) dX12_wax_196 rfl (j := 7) rfl ?_
      refine st_iload_n (pc' := 199) dX12_wax_198 rfl rfl (j := 1) rfl ?_
      obtain ⟨e4, h⟩ := h
      obtain ⟨e5, h⟩ := h
      refine st_icmp_eq (tg := 205) (pc' := 202) dX12_wax_199 (by decide) rfl e4 e5 (fun c => ?_) (fun c => ?_)
      · replace h := h.1 c
        refine st_iinc (pc' := 208) (L' := [(4, vI (x4 + 1)), (0, vR (some 74)), (2, vI x2), (3, vI x3), (5, vI x5), (6, vI x6), (7, vI x7), (8, vI x8), (9, vI x9), (10, vI x10)]) (j := 3) dX12_wax_205 rfl (by decide) rfl rfl ?_
        refine st_iload (pc' := 210) dX12_wax_208 rfl (j := 4) rfl ?_
        refine st_iload (pc' := 212) dX12_wax_210 rfl (j := 6) rfl ?_
        refine st_iand (pc' := 213) (z := (and32 x5 x7)) dX12_wax_212 rfl rfl ?_
        refine st_istore (pc' := 215) (L' := [(5, vI (and32 x5 x7)), (4, vI (x4 + 1)), (0, vR (some 74)), (2, vI x2), (3, vI x3), (6, vI x6), (7, vI x7), (8, vI x8), (9, vI x9), (10, vI x10)]) dX12_wax_213 rfl (by decide) rfl ?_
        refine st_iload (pc' := 217) dX12_wax_215 rfl (j := 5) rfl ?_
        refine st_iload (pc' := 219) dX12_wax_217 rfl (j := 6) rfl ?_
        refine st_ior (pc' := 220) (z := (or32 x6 x7)) dX12_wax_219 rfl rfl ?_
        refine st_istore (pc' := 222) (L' := [(6, vI (or32 x6 x7)), (5, vI (and32 x5 x7)), (4, vI (x4 + 1)), (0, vR (some 74)), (2, vI x2), (3, vI x3), (7, vI x7), (8, vI x8), (9, vI x9), (10, vI x10)]) dX12_wax_220 rfl (by decide) rfl ?_
        refine st_iinc (pc' := 225) (L' := [(7, vI (x7 + 1)), (6, vI (or32 x6 x7)), (5, vI (and32 x5 x7)), (4, vI (x4 + 1)), (0, vR (some 74)), (2, vI x2), (3, vI x3), (8, vI x8), (9, vI x9), (10, vI x10)]) (j := 6) dX12_wax_222 rfl (by decide) rfl rfl ?_
        refine st_goto (pc' := 95) dX12_wax_225 (by decide) ?_
        refine WP_sub (L' := [(0, vR (some 74)), (2, vI x2), (3, vI x3), (4, vI (x4 + 1)), (5, vI (and32 x5 x7)), (6, vI (or32 x6 x7)), (7, vI (x7 + 1))]) [4, 5, 6, 3, 2, 1, 0] rfl ?_
        exact h
      · replace h := h.2 c
        refine st_goto (pc' := 222) dX12_wax_202 (by decide) ?_
        refine st_iinc (pc' := 225) (L' := [(7, vI (x7 + 1)), (0, vR (some 74)), (2, vI x2), (3, vI x3), (4, vI x4), (5, vI x5), (6, vI x6), (8, vI x8), (9, vI x9), (10, vI x10)]) (j := 6) dX12_wax_222 rfl (by decide) rfl rfl ?_
        refine st_goto (pc' := 95) dX12_wax_225 (by decide) ?_
        refine WP_sub (L' := [(0, vR (some 74)), (2, vI x2), (3, vI x3), (4, vI x4), (5, vI x5), (6, vI x6), (7, vI (x7 + 1))]) [1, 2, 3, 4, 5, 6, 0] rfl ?_
        exact h
  · replace h := h.2 c
    refine st_iload (pc' := 136) dX12_wax_134 rfl (j := 8) rfl ?_
    obtain ⟨e6, h⟩ := h
    refine st_if_eq (tg := 191) (pc' := 139) dX12_wax_136 (by decide) rfl e6 (fun c => ?_) (fun c => ?_)
    · replace h := h.1 c
      refine st_iload (pc' := 193) dX12_wax_191 rfl (j := 8) rfl ?_
      refine st_if_eq (tg := 222) (pc' := 196) dX12_wax_193 (by decide) rfl e6 (fun c => ?_) (fun c => ?_)
      · replace h := h.1 c
        refine st_iinc (pc' := 225) (L' := [(7, vI (x7 + 1)), (0, vR (some 74)), (2, vI x2), (3, vI x3), (4, vI x4), (5, vI x5), (6, vI x6), (8, vI x8), (9, vI x9), (10, vI x10)]) (j := 6) dX12_wax_222 rfl (by decide) rfl rfl ?_
        refine st_goto (pc' := 95) dX12_wax_225 (by decide) ?_
        refine WP_sub (L' := [(0, vR (some 74)), (2, vI x2), (3, vI x3), (4, vI x4), (5, vI x5), (6, vI x6), (7, vI (x7 + 1))]) [1, 2, 3, 4, 5, 6, 0] rfl ?_
        exact h
      · replace h := h.2 c
        refine st_iload (pc' := 198) dX12_wax_196 rfl (j := 7) rfl ?_
        refine st_iload_n (pc' := 199) dX12_wax_198 rfl rfl (j := 1) rfl ?_
        obtain ⟨e7, h⟩ := h
        obtain ⟨e8, h⟩ := h
        refine st_icmp_eq (tg := 205) (pc' := 202) dX12_wax_199 (by decide) rfl e7 e8 (fun c => ?_) (fun c => ?_)
        · replace h := h.1 c
          refine st_iinc (pc' := 208) (L' := [(4, vI (x4 + 1)), (0, vR (some 74)), (2, vI x2), (3, vI x3), (5, vI x5), (6, vI x6), (7, vI x7), (8, vI x8), (9, vI x9), (10, vI x10)]) (j := 3) dX12_wax_205 rfl (by decide) rfl rfl ?_
          refine st_iload (pc' := 210) dX12_wax_208 rfl (j := 4) rfl ?_
          refine st_iload (pc' := 212) dX12_wax_210 rfl (j := 6) rfl ?_
          refine st_iand (pc' := 213) (z := (and32 x5 x7)) dX12_wax_212 rfl rfl ?_
          refine st_istore (pc' := 215) (L' := [(5, vI (and32 x5 x7)), (4, vI (x4 + 1)), (0, vR (some 74)), (2, vI x2), (3, vI x3), (6, vI x6), (7, vI x7), (8, vI x8), (9, vI x9), (10, vI x10)]) dX12_wax_213 rfl (by decide) rfl ?_
          refine st_iload (pc' := 217) dX12_wax_215 rfl (j := 5) rfl ?_
          refine st_iload (pc' := 219) dX12_wax_217 rfl (j := 6) rfl ?_
          refine st_ior (pc' := 220) (z := (or32 x6 x7)) dX12_wax_219 rfl rfl ?_
          refine st_istore (pc' := 222) (L' := [(6, vI (or32 x6 x7)), (5, vI (and32 x5 x7)), (4, vI (x4 + 1)), (0, vR (some 74)), (2, vI x2), (3, vI x3), (7, vI x7), (8, vI x8), (9, vI x9), (10, vI x10)]) dX12_wax_220 rfl (by decide) rfl ?_
          refine st_iinc (pc' := 225) (L' := [(7, vI (x7 + 1)), (6, vI (or32 x6 x7)), (5, vI (and32 x5 x7)), (4, vI (x4 + 1)), (0, vR (some 74)), (2, vI x2), (3, vI x3), (8, vI x8), (9, vI x9), (10, vI x10)]) (j := 6) dX12_wax_222 rfl (by decide) rfl rfl ?_
          refine st_goto (pc' := 95) dX12_wax_225 (by decide) ?_
          refine WP_sub (L' := [(0, vR (some 74)), (2, vI x2), (3, vI x3), (4, vI (x4 + 1)), (5, vI (and32 x5 x7)), (6, vI (or32 x6 x7)), (7, vI (x7 + 1))]) [4, 5, 6, 3, 2, 1, 0] rfl ?_
          exact h
        · replace h := h.2 c
          refine st_goto (pc' := 222) dX12_wax_202 (by decide) ?_
          refine st_iinc (pc' := 225) (L' := [(7, vI (x7 + 1)), (0, vR (some 74)), (2, vI x2), (3, vI x3), (4, vI x4), (5, vI x5), (6, vI x6), (8, vI x8), (9, vI x9), (10, vI x10)]) (j := 6) dX12_wax_222 rfl (by decide) rfl rfl ?_
          refine st_goto (pc' := 95) dX12_wax_225 (by decide) ?_
          refine WP_sub (L' := [(0, vR (some 74)), (2, vI x2), (3, vI x3), (4, vI x4), (5, vI x5), (6, vI x6), (7, vI (x7 + 1))]) [1, 2, 3, 4, 5, 6, 0] rfl ?_
          exact h
    · replace h := h.2 c
      refine st_iload (pc' := 141) dX12_wax_139 rfl (j := 6) rfl ?_
      refine st_iload (pc' := 143) dX12_wax_141 rfl (j := 9) rfl ?_
      refine st_callS (pc' := 146) (kc := k - 1) (E' := LAY) (cal := m_X12_has) (n := 2) (as := [vI x7, vI x10]) (S := []) dX12_wax_143 rfl l_X12_552 k_X12_has rfl rfl (Nat.le_of_ble_eq_true rfl) (by omega) ⟨Nat.le_refl _, Nat.le_refl _, Nat.le_refl _, Nat.le_refl _⟩ (Q1 := fun r M' => WP k LAY m_X12_wax 146 [(0, vR (some 74)), (2, vI x2), (3, vI x3), (4, vI x4), (5, vI x5), (6, vI x6), (7, vI x7), (8, vI x8), (9, vI x9), (10, vI x10)] (r.toList ++ []) M' Q) (S_X12_has (by omega)  ?_) (fun r M' q => q)
      change WP _ LAY m_X12_wax 146 [(0, vR (some 74)), (2, vI x2), (3, vI x3), (4, vI x4), (5, vI x5), (6, vI x6), (7, vI x7), (8, vI x8), (9, vI x9), (10, vI x10)] [vI (b2i (and32 (shr32 x7 x10) 1 = 1))] (mem (P, some 5, some 22) I J) Q
      refine st_if_ne (tg := 152) (pc' := 149) dX12_wax_146 (by decide) rfl (b2i_in _) (fun c => ?_) (fun c => ?_)
      · replace h := h.1 (b2i_t.mp c)
        refine st_iload (pc' := 154) dX12_wax_152 rfl (j := 7) rfl ?_
        refine st_aload_n (pc' := 155) dX12_wax_154 rfl rfl (j := 0) rfl ?_
        refine G_X12_270_74 dX12_wax_155 (pc' := 158) rfl rfl ?_
        refine st_iload (pc' := 160) dX12_wax_158 rfl (j := 9) rfl ?_
        obtain ⟨e9, h⟩ := h
        refine st_iaload (pc' := 161) (v := (gi I 130 (x10).toNat)) dX12_wax_160 rfl L_130 (by decide) e9 (show gi I 130 (x10).toNat = (gi I 130 (x10).toNat) from rfl) ?_
        refine st_iadd (pc' := 162) dX12_wax_161 rfl ?_
        refine st_istore (pc' := 164) (L' := [(8, vI (x8 + (gi I 130 (x10).toNat))), (0, vR (some 74)), (2, vI x2), (3, vI x3), (4, vI x4), (5, vI x5), (6, vI x6), (7, vI x7), (9, vI x9), (10, vI x10)]) dX12_wax_162 rfl (by decide) rfl ?_
        refine st_aload_n (pc' := 165) dX12_wax_164 rfl rfl (j := 1) rfl ?_
        refine st_iload (pc' := 167) dX12_wax_165 rfl (j := 9) rfl ?_
        refine st_callV (pc' := 170) (kc := k - 1) (E' := LAY) (cal := m_X12_needsOf) (n := 1) (as := [vI x10]) (S := []) dX12_wax_167 rfl l_X12_470 k_X12_needsOf rfl L_74 c_X12 rfl rfl (Nat.le_of_ble_eq_true rfl) (by omega) ⟨Nat.le_refl _, Nat.le_refl _, Nat.le_refl _, Nat.le_refl _⟩ (Q1 := fun r M' => WP k LAY m_X12_wax 170 [(8, vI (x8 + (gi I 130 (x10).toNat))), (0, vR (some 74)), (2, vI x2), (3, vI x3), (4, vI x4), (5, vI x5), (6, vI x6), (7, vI x7), (9, vI x9), (10, vI x10)] (r.toList ++ []) M' Q) (WPm.of k_X12_needsOf.1 (Nat.le_of_ble_eq_true rfl) (B_X12_needsOf_0 (by omega) ?_)) (fun r M' q => q)
        obtain ⟨e10, h⟩ := h
        refine ⟨e10, ?_⟩
        change WP _ LAY m_X12_wax 170 [(8, vI (x8 + (gi I 130 (x10).toNat))), (0, vR (some 74)), (2, vI x2), (3, vI x3), (4, vI x4), (5, vI x5), (6, vI x6), (7, vI x7), (9, vI x9), (10, vI x10)] [vI (gi I 81 (((14 * (gi I 74 13)) + x10) : Int).toNat)] (mem (P, some 5, some 22) I J) Q
        refine st_iload (pc' := 172) dX12_wax_170 rfl (j := 7) rfl ?_
        refine st_iconst (pc' := 173) dX12_wax_172 rfl ?_
        refine st_ixor (pc' := 174) (z := (xor32 x7 (-1))) dX12_wax_173 rfl rfl ?_
        refine st_iand (pc' := 175) (z := (and32 (gi I 81 (((14 * (gi I 74 13)) + x10) : Int).toNat) (xor32 x7 (-1)))) dX12_wax_174 rfl rfl ?_
        refine st_if_ne (tg := 182) (pc' := 178) dX12_wax_175 (by decide) rfl (and32_in _ _) (fun c => ?_) (fun c => ?_)
        · replace h := h.1 c
          refine st_iconst (pc' := 183) dX12_wax_182 rfl ?_
          refine st_istore (pc' := 185) (L' := [(9, vI 0), (8, vI (x8 + (gi I 130 (x10).toNat))), (0, vR (some 74)), (2, vI x2), (3, vI x3), (4, vI x4), (5, vI x5), (6, vI x6), (7, vI x7), (10, vI x10)]) dX12_wax_183 rfl (by decide) rfl ?_
          refine st_iinc (pc' := 188) (L' := [(10, vI (x10 + 1)), (9, vI 0), (8, vI (x8 + (gi I 130 (x10).toNat))), (0, vR (some 74)), (2, vI x2), (3, vI x3), (4, vI x4), (5, vI x5), (6, vI x6), (7, vI x7)]) (j := 9) dX12_wax_185 rfl (by decide) rfl rfl ?_
          refine st_goto (pc' := 120) dX12_wax_188 (by decide) ?_
          refine WP_sub (L' := [(0, vR (some 74)), (2, vI x2), (3, vI x3), (4, vI x4), (5, vI x5), (6, vI x6), (7, vI x7), (8, vI (x8 + (gi I 130 (x10).toNat))), (9, vI 0), (10, vI (x10 + 1))]) [3, 4, 5, 6, 7, 8, 9, 2, 1, 0] rfl ?_
          exact h
        · replace h := h.2 c
          refine st_iconst (pc' := 179) dX12_wax_178 rfl ?_
          refine st_goto (pc' := 183) dX12_wax_179 (by decide) ?_
          refine st_istore (pc' := 185) (L' := [(9, vI 1), (8, vI (x8 + (gi I 130 (x10).toNat))), (0, vR (some 74)), (2, vI x2), (3, vI x3), (4, vI x4), (5, vI x5), (6, vI x6), (7, vI x7), (10, vI x10)]) dX12_wax_183 rfl (by decide) rfl ?_
          refine st_iinc (pc' := 188) (L' := [(10, vI (x10 + 1)), (9, vI 1), (8, vI (x8 + (gi I 130 (x10).toNat))), (0, vR (some 74)), (2, vI x2), (3, vI x3), (4, vI x4), (5, vI x5), (6, vI x6), (7, vI x7)]) (j := 9) dX12_wax_185 rfl (by decide) rfl rfl ?_
          refine st_goto (pc' := 120) dX12_wax_188 (by decide) ?_
          refine WP_sub (L' := [(0, vR (some 74)), (2, vI x2), (3, vI x3), (4, vI x4), (5, vI x5), (6, vI x6), (7, vI x7), (8, vI (x8 + (gi I 130 (x10).toNat))), (9, vI 1), (10, vI (x10 + 1))]) [3, 4, 5, 6, 7, 8, 9, 2, 1, 0] rfl ?_
          exact h
      · replace h := h.2 (b2i_f.mp c)
        refine st_goto (pc' := 185) dX12_wax_149 (by decide) ?_
        refine st_iinc (pc' := 188) (L' := [(10, vI (x10 + 1)), (0, vR (some 74)), (2, vI x2), (3, vI x3), (4, vI x4), (5, vI x5), (6, vI x6), (7, vI x7), (8, vI x8), (9, vI x9)]) (j := 9) dX12_wax_185 rfl (by decide) rfl rfl ?_
        refine st_goto (pc' := 120) dX12_wax_188 (by decide) ?_
        refine WP_sub (L' := [(0, vR (some 74)), (2, vI x2), (3, vI x3), (4, vI x4), (5, vI x5), (6, vI x6), (7, vI x7), (8, vI x8), (9, vI x9), (10, vI (x10 + 1))]) [1, 2, 3, 4, 5, 6, 7, 8, 9, 0] rfl ?_
        exact h
set_option maxRecDepth 20000 in
set_option maxHeartbeats 4000000 in
theorem B_X12_whole_0 {k : Nat} {P : Option Nat} {I : Nat → Nat → Int32} {J : Nat → Nat → Int64} {x1 : Int} {Q : Option AV → Mem → Prop} (hk : 1 ≤ k) (h : inR x1 ∧ (((0 ≤ x1 ∧ x1 ≤ 3) → (WPm (k - 1) LAY m_X12_triesNight [vR (some 74)] (mem (P, some 5, some 22) I J) (retI (fun v2 I3 J4 => (¬ x1 = 1 → ((¬ x1 = 3 → ((¬ x1 = 0 → ((¬ x1 = 2 → (Q (some (vI 0)) (mem (P, some 5, some 22) I3 J4))) ∧ (x1 = 2 → (Q (some (vI v2)) (mem (P, some 5, some 22) I3 J4))))) ∧ (x1 = 0 → (Q (some (vI (gi I3 74 77))) (mem (P, some 5, some 22) I3 J4))))) ∧ (x1 = 3 → (WP k LAY m_X12_whole 64 [(0, vR (some 74)), (1, vI x1), (2, vI v2), (3, vI 0), (4, vI 0)] [] (mem (P, some 5, some 22) I3 J4) Q)))) ∧ (x1 = 1 → (WP k LAY m_X12_whole 26 [(0, vR (some 74)), (1, vI x1), (2, vI v2), (3, vI 0), (4, vI 0)] [] (mem (P, some 5, some 22) I3 J4) Q))) (P, some 5, some 22)))) ∧ (¬ (0 ≤ x1 ∧ x1 ≤ 3) → (Q (some (vI (-1))) (mem (P, some 5, some 22) I J))))) : WP k LAY m_X12_whole 0 [(0, vR (some 74)), (1, vI x1)] [] (mem (P, some 5, some 22) I J) Q := by
  refine st_iload_n (pc' := 1) dX12_whole_0 rfl rfl (j := 1) rfl ?_
  refine st_iconst (pc' := 2) dX12_whole_1 rfl ?_
  refine st_iconst (pc' := 3) dX12_whole_2 rfl ?_
  obtain ⟨e1, h⟩ := h
  refine st_callS (pc' := 6) (kc := k - 1) (E' := LAY) (cal := m_X12_is) (n := 3) (as := [vI x1, vI 0, vI 3]) (S := []) dX12_whole_3 rfl l_X12_369 k_X12_is rfl rfl (Nat.le_of_ble_eq_true rfl) (by omega) ⟨Nat.le_refl _, Nat.le_refl _, Nat.le_refl _, Nat.le_refl _⟩ (Q1 := fun r M' => WP k LAY m_X12_whole 6 [(0, vR (some 74)), (1, vI x1)] (r.toList ++ []) M' Q) (S_X12_is (by omega) e1 (by decide) (by decide) ?_) (fun r M' q => q)
  change WP _ LAY m_X12_whole 6 [(0, vR (some 74)), (1, vI x1)] [vI (b2i (0 ≤ x1 ∧ x1 ≤ 3))] (mem (P, some 5, some 22) I J) Q
  refine st_if_ne (tg := 11) (pc' := 9) dX12_whole_6 (by decide) rfl (b2i_in _) (fun c => ?_) (fun c => ?_)
  · replace h := h.1 (b2i_t.mp c)
    refine st_aload_n (pc' := 12) dX12_whole_11 rfl rfl (j := 0) rfl ?_
    refine st_callV (pc' := 15) (kc := k - 1) (E' := LAY) (cal := m_X12_triesNight) (n := 0) (as := []) (S := []) dX12_whole_12 rfl l_X12_568 k_X12_triesNight rfl L_74 c_X12 rfl rfl (Nat.le_of_ble_eq_true rfl) (by omega) ⟨Nat.le_refl _, Nat.le_refl _, Nat.le_refl _, Nat.le_refl _⟩ h (fun r M' q => ?_)
    obtain ⟨v2, I3, J4, rfl, rfl, h⟩ := q
    change WP _ LAY m_X12_whole 15 [(0, vR (some 74)), (1, vI x1)] [vI v2] (mem (P, some 5, some 22) I3 J4) Q
    refine st_istore_n (pc' := 16) (L' := [(2, vI v2), (0, vR (some 74)), (1, vI x1)]) dX12_whole_15 rfl rfl (by decide) rfl ?_
    refine st_iconst (pc' := 17) dX12_whole_16 rfl ?_
    refine st_istore_n (pc' := 18) (L' := [(3, vI 0), (2, vI v2), (0, vR (some 74)), (1, vI x1)]) dX12_whole_17 rfl rfl (by decide) rfl ?_
    refine st_iload_n (pc' := 19) dX12_whole_18 rfl rfl (j := 3) rfl ?_
    refine st_iconst (pc' := 20) dX12_whole_19 rfl ?_
    refine st_icmp_ne (tg := 56) (pc' := 23) dX12_whole_20 (by decide) rfl e1 (by decide) (fun c => ?_) (fun c => ?_)
    · replace h := h.1 c
      refine st_iload_n (pc' := 57) dX12_whole_56 rfl rfl (j := 3) rfl ?_
      refine st_iconst (pc' := 58) dX12_whole_57 rfl ?_
      refine st_icmp_ne (tg := 102) (pc' := 61) dX12_whole_58 (by decide) rfl e1 (by decide) (fun c => ?_) (fun c => ?_)
      · replace h := h.1 c
        refine st_iload_n (pc' := 103) dX12_whole_102 rfl rfl (j := 3) rfl ?_
        refine st_if_ne (tg := 113) (pc' := 106) dX12_whole_103 (by decide) rfl e1 (fun c => ?_) (fun c => ?_)
        · replace h := h.1 c
          refine st_iload_n (pc' := 114) dX12_whole_113 rfl rfl (j := 3) rfl ?_
          refine st_iconst (pc' := 115) dX12_whole_114 rfl ?_
          refine st_icmp_ne (tg := 122) (pc' := 118) dX12_whole_115 (by decide) rfl e1 (by decide) (fun c => ?_) (fun c => ?_)
          · replace h := h.1 c
            refine st_iload_n (pc' := 123) dX12_whole_122 rfl rfl (j := 0) rfl ?_
            exact st_iret (ty := .int) dX12_whole_123 rfl rfl rfl h
          · replace h := h.2 c
            refine st_iload_n (pc' := 119) dX12_whole_118 rfl rfl (j := 1) rfl ?_
            refine st_goto (pc' := 123) dX12_whole_119 (by decide) ?_
            exact st_iret (ty := .int) dX12_whole_123 rfl rfl rfl h
        · replace h := h.2 c
          refine st_aload_n (pc' := 107) dX12_whole_106 rfl rfl (j := 2) rfl ?_
          refine G_X12_246_74 dX12_whole_107 (pc' := 110) rfl rfl ?_
          refine st_goto (pc' := 123) dX12_whole_110 (by decide) ?_
          exact st_iret (ty := .int) dX12_whole_123 rfl rfl rfl h
      · replace h := h.2 c
        refine st_iconst (pc' := 62) dX12_whole_61 rfl ?_
        refine st_istore (pc' := 64) (L' := [(4, vI 0), (3, vI 0), (2, vI v2), (0, vR (some 74)), (1, vI x1)]) dX12_whole_62 rfl (by decide) rfl ?_
        refine WP_sub (L' := [(0, vR (some 74)), (1, vI x1), (2, vI v2), (3, vI 0), (4, vI 0)]) [3, 4, 2, 1, 0] rfl ?_
        exact h
    · replace h := h.2 c
      refine st_iconst (pc' := 24) dX12_whole_23 rfl ?_
      refine st_istore (pc' := 26) (L' := [(4, vI 0), (3, vI 0), (2, vI v2), (0, vR (some 74)), (1, vI x1)]) dX12_whole_24 rfl (by decide) rfl ?_
      refine WP_sub (L' := [(0, vR (some 74)), (1, vI x1), (2, vI v2), (3, vI 0), (4, vI 0)]) [3, 4, 2, 1, 0] rfl ?_
      exact h
  · replace h := h.2 (b2i_f.mp c)
    refine st_iconst (pc' := 10) dX12_whole_9 rfl ?_
    exact st_iret (ty := .int) dX12_whole_10 rfl rfl rfl h
set_option maxRecDepth 20000 in
set_option maxHeartbeats 4000000 in
theorem B_X12_whole_64 {k : Nat} {P : Option Nat} {I : Nat → Nat → Int32} {J : Nat → Nat → Int64} {x1 : Int} {x2 : Int} {x3 : Int} {x4 : Int} {Q : Option AV → Mem → Prop} (hk : 0 ≤ k) (h : (0 ≤ (gi I 74 13) ∧ (gi I 74 13) < 2) ∧ (inR x4 ∧ (((gi I 83 (gi I 74 13).toNat) ≤ x4 → (inR x1 ∧ ((¬ x1 = 0 → ((¬ x1 = 2 → (Q (some (vI x3)) (mem (P, some 5, some 22) I J))) ∧ (x1 = 2 → (Q (some (vI x2)) (mem (P, some 5, some 22) I J))))) ∧ (x1 = 0 → (Q (some (vI (gi I 74 77))) (mem (P, some 5, some 22) I J)))))) ∧ (¬ (gi I 83 (gi I 74 13).toNat) ≤ x4 → ((0 ≤ x4 ∧ x4 < 6) ∧ ((¬ (gi I 123 (x4).toNat) = 0 → (WP k LAY m_X12_whole 64 [(0, vR (some 74)), (1, vI x1), (2, vI x2), (3, vI (x3 + 0)), (4, vI (x4 + 1))] [] (mem (P, some 5, some 22) I J) Q)) ∧ ((gi I 123 (x4).toNat) = 0 → (WP k LAY m_X12_whole 64 [(0, vR (some 74)), (1, vI x1), (2, vI x2), (3, vI (x3 + 1)), (4, vI (x4 + 1))] [] (mem (P, some 5, some 22) I J) Q)))))))) : WP k LAY m_X12_whole 64 [(0, vR (some 74)), (1, vI x1), (2, vI x2), (3, vI x3), (4, vI x4)] [] (mem (P, some 5, some 22) I J) Q := by
  refine st_iload (pc' := 66) dX12_whole_64 rfl (j := 4) rfl ?_
  refine st_aload_n (pc' := 67) dX12_whole_66 rfl rfl (j := 0) rfl ?_
  refine G_X12_75_74 dX12_whole_67 (pc' := 70) rfl rfl ?_
  refine st_aload_n (pc' := 71) dX12_whole_70 rfl rfl (j := 0) rfl ?_
  refine G_X12_51_74 dX12_whole_71 (pc' := 74) rfl rfl ?_
  obtain ⟨e1, h⟩ := h
  refine st_iaload (pc' := 75) (v := (gi I 83 (gi I 74 13).toNat)) dX12_whole_74 rfl L_83 (by decide) e1 (show gi I 83 (gi I 74 13).toNat = (gi I 83 (gi I 74 13).toNat) from rfl) ?_
  obtain ⟨e2, h⟩ := h
  refine st_icmp_ge (tg := 102) (pc' := 78) dX12_whole_75 (by decide) rfl e2 (gi_in _ _ _) (fun c => ?_) (fun c => ?_)
  · replace h := h.1 c
    refine st_iload_n (pc' := 103) dX12_whole_102 rfl rfl (j := 1) rfl ?_
    obtain ⟨e3, h⟩ := h
    refine st_if_ne (tg := 113) (pc' := 106) dX12_whole_103 (by decide) rfl e3 (fun c => ?_) (fun c => ?_)
    · replace h := h.1 c
      refine st_iload_n (pc' := 114) dX12_whole_113 rfl rfl (j := 1) rfl ?_
      refine st_iconst (pc' := 115) dX12_whole_114 rfl ?_
      refine st_icmp_ne (tg := 122) (pc' := 118) dX12_whole_115 (by decide) rfl e3 (by decide) (fun c => ?_) (fun c => ?_)
      · replace h := h.1 c
        refine st_iload_n (pc' := 123) dX12_whole_122 rfl rfl (j := 3) rfl ?_
        exact st_iret (ty := .int) dX12_whole_123 rfl rfl rfl h
      · replace h := h.2 c
        refine st_iload_n (pc' := 119) dX12_whole_118 rfl rfl (j := 2) rfl ?_
        refine st_goto (pc' := 123) dX12_whole_119 (by decide) ?_
        exact st_iret (ty := .int) dX12_whole_123 rfl rfl rfl h
    · replace h := h.2 c
      refine st_aload_n (pc' := 107) dX12_whole_106 rfl rfl (j := 0) rfl ?_
      refine G_X12_246_74 dX12_whole_107 (pc' := 110) rfl rfl ?_
      refine st_goto (pc' := 123) dX12_whole_110 (by decide) ?_
      exact st_iret (ty := .int) dX12_whole_123 rfl rfl rfl h
  · replace h := h.2 c
    refine st_iload_n (pc' := 79) dX12_whole_78 rfl rfl (j := 3) rfl ?_
    refine st_aload_n (pc' := 80) dX12_whole_79 rfl rfl (j := 0) rfl ?_
    refine G_X12_240_74 dX12_whole_80 (pc' := 83) rfl rfl ?_
    refine st_iload (pc' := 85) dX12_whole_83 rfl (j := 4) rfl ?_
    obtain ⟨e4, h⟩ := h
    refine st_iaload (pc' := 86) (v := (gi I 123 (x4).toNat)) dX12_whole_85 rfl L_123 (by decide) e4 (show gi I 123 (x4).toNat = (gi I 123 (x4).toNat) from rfl) ?_
    refine st_if_ne (tg := 93) (pc' := 89) dX12_whole_86 (by decide) rfl (gi_in _ _ _) (fun c => ?_) (fun c => ?_)
    · replace h := h.1 c
      refine st_iconst (pc' := 94) dX12_whole_93 rfl ?_
      refine st_iadd (pc' := 95) dX12_whole_94 rfl ?_
      refine st_istore_n (pc' := 96) (L' := [(3, vI (x3 + 0)), (0, vR (some 74)), (1, vI x1), (2, vI x2), (4, vI x4)]) dX12_whole_95 rfl rfl (by decide) rfl ?_
      refine st_iinc (pc' := 99) (L' := [(4, vI (x4 + 1)), (3, vI (x3 + 0)), (0, vR (some 74)), (1, vI x1), (2, vI x2)]) (j := 4) dX12_whole_96 rfl (by decide) rfl rfl ?_
      refine st_goto (pc' := 64) dX12_whole_99 (by decide) ?_
      refine WP_sub (L' := [(0, vR (some 74)), (1, vI x1), (2, vI x2), (3, vI (x3 + 0)), (4, vI (x4 + 1))]) [2, 3, 4, 1, 0] rfl ?_
      exact h
    · replace h := h.2 c
      refine st_iconst (pc' := 90) dX12_whole_89 rfl ?_
      refine st_goto (pc' := 94) dX12_whole_90 (by decide) ?_
      refine st_iadd (pc' := 95) dX12_whole_94 rfl ?_
      refine st_istore_n (pc' := 96) (L' := [(3, vI (x3 + 1)), (0, vR (some 74)), (1, vI x1), (2, vI x2), (4, vI x4)]) dX12_whole_95 rfl rfl (by decide) rfl ?_
      refine st_iinc (pc' := 99) (L' := [(4, vI (x4 + 1)), (3, vI (x3 + 1)), (0, vR (some 74)), (1, vI x1), (2, vI x2)]) (j := 4) dX12_whole_96 rfl (by decide) rfl rfl ?_
      refine st_goto (pc' := 64) dX12_whole_99 (by decide) ?_
      refine WP_sub (L' := [(0, vR (some 74)), (1, vI x1), (2, vI x2), (3, vI (x3 + 1)), (4, vI (x4 + 1))]) [2, 3, 4, 1, 0] rfl ?_
      exact h
set_option maxRecDepth 20000 in
set_option maxHeartbeats 4000000 in
theorem B_X12_whole_26 {k : Nat} {P : Option Nat} {I : Nat → Nat → Int32} {J : Nat → Nat → Int64} {x1 : Int} {x2 : Int} {x3 : Int} {x4 : Int} {Q : Option AV → Mem → Prop} (hk : 0 ≤ k) (h : (0 ≤ (gi I 74 13) ∧ (gi I 74 13) < 2) ∧ (inR x4 ∧ (((gi I 86 (gi I 74 13).toNat) ≤ x4 → (inR x1 ∧ ((¬ x1 = 3 → ((¬ x1 = 0 → ((¬ x1 = 2 → (Q (some (vI x3)) (mem (P, some 5, some 22) I J))) ∧ (x1 = 2 → (Q (some (vI x2)) (mem (P, some 5, some 22) I J))))) ∧ (x1 = 0 → (Q (some (vI (gi I 74 77))) (mem (P, some 5, some 22) I J))))) ∧ (x1 = 3 → (WP k LAY m_X12_whole 64 [(0, vR (some 74)), (1, vI x1), (2, vI x2), (3, vI x3), (4, vI 0)] [] (mem (P, some 5, some 22) I J) Q))))) ∧ (¬ (gi I 86 (gi I 74 13).toNat) ≤ x4 → ((0 ≤ x4 ∧ x4 < 5) ∧ (WP k LAY m_X12_whole 26 [(0, vR (some 74)), (1, vI x1), (2, vI x2), (3, vI (x3 + (gi I 124 (x4).toNat))), (4, vI (x4 + 1))] [] (mem (P, some 5, some 22) I J) Q)))))) : WP k LAY m_X12_whole 26 [(0, vR (some 74)), (1, vI x1), (2, vI x2), (3, vI x3), (4, vI x4)] [] (mem (P, some 5, some 22) I J) Q := by
  refine st_iload (pc' := 28) dX12_whole_26 rfl (j := 4) rfl ?_
  refine st_aload_n (pc' := 29) dX12_whole_28 rfl rfl (j := 0) rfl ?_
  refine G_X12_84_74 dX12_whole_29 (pc' := 32) rfl rfl ?_
  refine st_aload_n (pc' := 33) dX12_whole_32 rfl rfl (j := 0) rfl ?_
  refine G_X12_51_74 dX12_whole_33 (pc' := 36) rfl rfl ?_
  obtain ⟨e1, h⟩ := h
  refine st_iaload (pc' := 37) (v := (gi I 86 (gi I 74 13).toNat)) dX12_whole_36 rfl L_86 (by decide) e1 (show gi I 86 (gi I 74 13).toNat = (gi I 86 (gi I 74 13).toNat) from rfl) ?_
  obtain ⟨e2, h⟩ := h
  refine st_icmp_ge (tg := 56) (pc' := 40) dX12_whole_37 (by decide) rfl e2 (gi_in _ _ _) (fun c => ?_) (fun c => ?_)
  · replace h := h.1 c
    refine st_iload_n (pc' := 57) dX12_whole_56 rfl rfl (j := 1) rfl ?_
    refine st_iconst (pc' := 58) dX12_whole_57 rfl ?_
    obtain ⟨e3, h⟩ := h
    refine st_icmp_ne (tg := 102) (pc' := 61) dX12_whole_58 (by decide) rfl e3 (by decide) (fun c => ?_) (fun c => ?_)
    · replace h := h.1 c
      refine st_iload_n (pc' := 103) dX12_whole_102 rfl rfl (j := 1) rfl ?_
      refine st_if_ne (tg := 113) (pc' := 106) dX12_whole_103 (by decide) rfl e3 (fun c => ?_) (fun c => ?_)
      · replace h := h.1 c
        refine st_iload_n (pc' := 114) dX12_whole_113 rfl rfl (j := 1) rfl ?_
        refine st_iconst (pc' := 115) dX12_whole_114 rfl ?_
        refine st_icmp_ne (tg := 122) (pc' := 118) dX12_whole_115 (by decide) rfl e3 (by decide) (fun c => ?_) (fun c => ?_)
        · replace h := h.1 c
          refine st_iload_n (pc' := 123) dX12_whole_122 rfl rfl (j := 3) rfl ?_
          exact st_iret (ty := .int) dX12_whole_123 rfl rfl rfl h
        · replace h := h.2 c
          refine st_iload_n (pc' := 119) dX12_whole_118 rfl rfl (j := 2) rfl ?_
          refine st_goto (pc' := 123) dX12_whole_119 (by decide) ?_
          exact st_iret (ty := .int) dX12_whole_123 rfl rfl rfl h
      · replace h := h.2 c
        refine st_aload_n (pc' := 107) dX12_whole_106 rfl rfl (j := 0) rfl ?_
        refine G_X12_246_74 dX12_whole_107 (pc' := 110) rfl rfl ?_
        refine st_goto (pc' := 123) dX12_whole_110 (by decide) ?_
        exact st_iret (ty := .int) dX12_whole_123 rfl rfl rfl h
    · replace h := h.2 c
      refine st_iconst (pc' := 62) dX12_whole_61 rfl ?_
      refine st_istore (pc' := 64) (L' := [(4, vI 0), (0, vR (some 74)), (1, vI x1), (2, vI x2), (3, vI x3)]) dX12_whole_62 rfl (by decide) rfl ?_
      refine WP_sub (L' := [(0, vR (some 74)), (1, vI x1), (2, vI x2), (3, vI x3), (4, vI 0)]) [1, 2, 3, 4, 0] rfl ?_
      exact h
  · replace h := h.2 c
    refine st_iload_n (pc' := 41) dX12_whole_40 rfl rfl (j := 3) rfl ?_
    refine st_aload_n (pc' := 42) dX12_whole_41 rfl rfl (j := 0) rfl ?_
    refine G_X12_243_74 dX12_whole_42 (pc' := 45) rfl rfl ?_
    refine st_iload (pc' := 47) dX12_whole_45 rfl (j := 4) rfl ?_
    obtain ⟨e4, h⟩ := h
    refine st_iaload (pc' := 48) (v := (gi I 124 (x4).toNat)) dX12_whole_47 rfl L_124 (by decide) e4 (show gi I 124 (x4).toNat = (gi I 124 (x4).toNat) from rfl) ?_
    refine st_iadd (pc' := 49) dX12_whole_48 rfl ?_
    refine st_istore_n (pc' := 50) (L' := [(3, vI (x3 + (gi I 124 (x4).toNat))), (0, vR (some 74)), (1, vI x1), (2, vI x2), (4, vI x4)]) dX12_whole_49 rfl rfl (by decide) rfl ?_
    refine st_iinc (pc' := 53) (L' := [(4, vI (x4 + 1)), (3, vI (x3 + (gi I 124 (x4).toNat))), (0, vR (some 74)), (1, vI x1), (2, vI x2)]) (j := 4) dX12_whole_50 rfl (by decide) rfl rfl ?_
    refine st_goto (pc' := 26) dX12_whole_53 (by decide) ?_
    refine WP_sub (L' := [(0, vR (some 74)), (1, vI x1), (2, vI x2), (3, vI (x3 + (gi I 124 (x4).toNat))), (4, vI (x4 + 1))]) [2, 3, 4, 1, 0] rfl ?_
    exact h
set_option maxRecDepth 20000 in
set_option maxHeartbeats 4000000 in
theorem B_X12_winter_0 {k : Nat} {P : Option Nat} {I : Nat → Nat → Int32} {J : Nat → Nat → Int64} {x1 : Int} {Q : Option AV → Mem → Prop} (hk : 1 ≤ k) (h : inR x1 ∧ ((¬ (1 ≤ x1 ∧ x1 ≤ 30) → (Q (some (vI (-1))) (mem (P, some 5, some 22) (si I 107 3 ((gi I 107 3) + 1)) J))) ∧ ((1 ≤ x1 ∧ x1 ≤ 30) → (inR ((gi I 108 0) + x1) ∧ ((999 < ((gi I 108 0) + x1) → (Q (some (vI (-1))) (mem (P, some 5, some 22) (si I 107 3 ((gi I 107 3) + 1)) J))) ∧ (¬ 999 < ((gi I 108 0) + x1) → ((0 ≤ (gi I 74 13) ∧ (gi I 74 13) < 2) ∧ ((¬ (gi I 86 (gi I 74 13).toNat) = 0 → (WPm (k - 1) LAY m_X12_keeps [vR (some 74)] (mem (P, some 5, some 22) I J) (retV (fun I5 J6 => WP k LAY m_X12_winter 50 [(0, vR (some 74)), (1, vI x1), (2, vI 0), (3, vI 0)] [] (mem (P, some 5, some 22) I5 J6) Q) (P, some 5, some 22)))) ∧ ((gi I 86 (gi I 74 13).toNat) = 0 → (Q (some (vI (-1))) (mem (P, some 5, some 22) (si I 107 3 ((gi I 107 3) + 1)) J))))))))))) : WP k LAY m_X12_winter 0 [(0, vR (some 74)), (1, vI x1)] [] (mem (P, some 5, some 22) I J) Q := by
  refine st_iload_n (pc' := 1) dX12_winter_0 rfl rfl (j := 1) rfl ?_
  refine st_iconst (pc' := 2) dX12_winter_1 rfl ?_
  refine st_bipush (pc' := 4) dX12_winter_2 rfl (by decide) ?_
  obtain ⟨e1, h⟩ := h
  refine st_callS (pc' := 7) (kc := k - 1) (E' := LAY) (cal := m_X12_is) (n := 3) (as := [vI x1, vI 1, vI 30]) (S := []) dX12_winter_4 rfl l_X12_369 k_X12_is rfl rfl (Nat.le_of_ble_eq_true rfl) (by omega) ⟨Nat.le_refl _, Nat.le_refl _, Nat.le_refl _, Nat.le_refl _⟩ (Q1 := fun r M' => WP k LAY m_X12_winter 7 [(0, vR (some 74)), (1, vI x1)] (r.toList ++ []) M' Q) (S_X12_is (by omega) e1 (by decide) (by decide) ?_) (fun r M' q => q)
  change WP _ LAY m_X12_winter 7 [(0, vR (some 74)), (1, vI x1)] [vI (b2i (1 ≤ x1 ∧ x1 ≤ 30))] (mem (P, some 5, some 22) I J) Q
  refine st_if_eq (tg := 36) (pc' := 10) dX12_winter_7 (by decide) rfl (b2i_in _) (fun c => ?_) (fun c => ?_)
  · replace h := h.1 (b2i_f.mp c)
    refine st_aload_n (pc' := 37) dX12_winter_36 rfl rfl (j := 0) rfl ?_
    refine st_iconst (pc' := 38) dX12_winter_37 rfl ?_
    refine st_callV (pc' := 41) (kc := k - 1) (E' := LAY) (cal := m_X12_refuses) (n := 1) (as := [vI 3]) (S := []) dX12_winter_38 rfl l_X12_279 k_X12_refuses rfl L_74 c_X12 rfl rfl (Nat.le_of_ble_eq_true rfl) (by omega) ⟨Nat.le_refl _, Nat.le_refl _, Nat.le_refl _, Nat.le_refl _⟩ (Q1 := fun r M' => WP k LAY m_X12_winter 41 [(0, vR (some 74)), (1, vI x1)] (r.toList ++ []) M' Q) (WPm.of k_X12_refuses.1 (Nat.le_of_ble_eq_true rfl) (B_X12_refuses_0 (by omega) ?_)) (fun r M' q => q)
    refine ⟨by decide, ?_⟩
    change WP _ LAY m_X12_winter 41 [(0, vR (some 74)), (1, vI x1)] [vI (-1)] (mem (P, some 5, some 22) (si I 107 3 ((gi I 107 3) + 1)) J) Q
    exact st_iret (ty := .int) dX12_winter_41 rfl rfl rfl h
  · replace h := h.2 (b2i_t.mp c)
    refine st_aload_n (pc' := 11) dX12_winter_10 rfl rfl (j := 0) rfl ?_
    refine G_X12_171_74 dX12_winter_11 (pc' := 14) rfl rfl ?_
    refine st_iconst (pc' := 15) dX12_winter_14 rfl ?_
    refine st_iaload (pc' := 16) (v := (gi I 108 0)) dX12_winter_15 rfl L_108 (by decide) (by decide) (show gi I 108 0 = (gi I 108 0) from rfl) ?_
    refine st_iload_n (pc' := 17) dX12_winter_16 rfl rfl (j := 1) rfl ?_
    refine st_iadd (pc' := 18) dX12_winter_17 rfl ?_
    refine st_sipush (pc' := 21) dX12_winter_18 rfl (by decide) ?_
    obtain ⟨e2, h⟩ := h
    refine st_icmp_gt (tg := 36) (pc' := 24) dX12_winter_21 (by decide) rfl e2 (by decide) (fun c => ?_) (fun c => ?_)
    · replace h := h.1 c
      refine st_aload_n (pc' := 37) dX12_winter_36 rfl rfl (j := 0) rfl ?_
      refine st_iconst (pc' := 38) dX12_winter_37 rfl ?_
      refine st_callV (pc' := 41) (kc := k - 1) (E' := LAY) (cal := m_X12_refuses) (n := 1) (as := [vI 3]) (S := []) dX12_winter_38 rfl l_X12_279 k_X12_refuses rfl L_74 c_X12 rfl rfl (Nat.le_of_ble_eq_true rfl) (by omega) ⟨Nat.le_refl _, Nat.le_refl _, Nat.le_refl _, Nat.le_refl _⟩ (Q1 := fun r M' => WP k LAY m_X12_winter 41 [(0, vR (some 74)), (1, vI x1)] (r.toList ++ []) M' Q) (WPm.of k_X12_refuses.1 (Nat.le_of_ble_eq_true rfl) (B_X12_refuses_0 (by omega) ?_)) (fun r M' q => q)
      refine ⟨by decide, ?_⟩
      change WP _ LAY m_X12_winter 41 [(0, vR (some 74)), (1, vI x1)] [vI (-1)] (mem (P, some 5, some 22) (si I 107 3 ((gi I 107 3) + 1)) J) Q
      exact st_iret (ty := .int) dX12_winter_41 rfl rfl rfl h
    · replace h := h.2 c
      refine st_aload_n (pc' := 25) dX12_winter_24 rfl rfl (j := 0) rfl ?_
      refine G_X12_84_74 dX12_winter_25 (pc' := 28) rfl rfl ?_
      refine st_aload_n (pc' := 29) dX12_winter_28 rfl rfl (j := 0) rfl ?_
      refine G_X12_51_74 dX12_winter_29 (pc' := 32) rfl rfl ?_
      obtain ⟨e3, h⟩ := h
      refine st_iaload (pc' := 33) (v := (gi I 86 (gi I 74 13).toNat)) dX12_winter_32 rfl L_86 (by decide) e3 (show gi I 86 (gi I 74 13).toNat = (gi I 86 (gi I 74 13).toNat) from rfl) ?_
      refine st_if_ne (tg := 42) (pc' := 36) dX12_winter_33 (by decide) rfl (gi_in _ _ _) (fun c => ?_) (fun c => ?_)
      · replace h := h.1 c
        refine st_aload_n (pc' := 43) dX12_winter_42 rfl rfl (j := 0) rfl ?_
        refine st_callV (pc' := 46) (kc := k - 1) (E' := LAY) (cal := m_X12_keeps) (n := 0) (as := []) (S := []) dX12_winter_43 rfl l_X12_572 k_X12_keeps rfl L_74 c_X12 rfl rfl (Nat.le_of_ble_eq_true rfl) (by omega) ⟨Nat.le_refl _, Nat.le_refl _, Nat.le_refl _, Nat.le_refl _⟩ h (fun r M' q => ?_)
        obtain ⟨I5, J6, rfl, rfl, h⟩ := q
        change WP _ LAY m_X12_winter 46 [(0, vR (some 74)), (1, vI x1)] [] (mem (P, some 5, some 22) I5 J6) Q
        refine st_iconst (pc' := 47) dX12_winter_46 rfl ?_
        refine st_istore_n (pc' := 48) (L' := [(2, vI 0), (0, vR (some 74)), (1, vI x1)]) dX12_winter_47 rfl rfl (by decide) rfl ?_
        refine st_iconst (pc' := 49) dX12_winter_48 rfl ?_
        refine st_istore_n (pc' := 50) (L' := [(3, vI 0), (2, vI 0), (0, vR (some 74)), (1, vI x1)]) dX12_winter_49 rfl rfl (by decide) rfl ?_
        refine WP_sub (L' := [(0, vR (some 74)), (1, vI x1), (2, vI 0), (3, vI 0)]) [2, 3, 1, 0] rfl ?_
        exact h
      · replace h := h.2 c
        refine st_aload_n (pc' := 37) dX12_winter_36 rfl rfl (j := 0) rfl ?_
        refine st_iconst (pc' := 38) dX12_winter_37 rfl ?_
        refine st_callV (pc' := 41) (kc := k - 1) (E' := LAY) (cal := m_X12_refuses) (n := 1) (as := [vI 3]) (S := []) dX12_winter_38 rfl l_X12_279 k_X12_refuses rfl L_74 c_X12 rfl rfl (Nat.le_of_ble_eq_true rfl) (by omega) ⟨Nat.le_refl _, Nat.le_refl _, Nat.le_refl _, Nat.le_refl _⟩ (Q1 := fun r M' => WP k LAY m_X12_winter 41 [(0, vR (some 74)), (1, vI x1)] (r.toList ++ []) M' Q) (WPm.of k_X12_refuses.1 (Nat.le_of_ble_eq_true rfl) (B_X12_refuses_0 (by omega) ?_)) (fun r M' q => q)
        refine ⟨by decide, ?_⟩
        change WP _ LAY m_X12_winter 41 [(0, vR (some 74)), (1, vI x1)] [vI (-1)] (mem (P, some 5, some 22) (si I 107 3 ((gi I 107 3) + 1)) J) Q
        exact st_iret (ty := .int) dX12_winter_41 rfl rfl rfl h
set_option maxRecDepth 20000 in
set_option maxHeartbeats 4000000 in
theorem B_X12_winter_50 {k : Nat} {P : Option Nat} {I : Nat → Nat → Int32} {J : Nat → Nat → Int64} {x1 : Int} {x2 : Int} {x3 : Int} {Q : Option AV → Mem → Prop} (hk : 1 ≤ k) (h : inR x3 ∧ (inR x1 ∧ ((x1 ≤ x3 → (Q (some (vI x2)) (mem (P, some 5, some 22) (si I 74 73 (-1)) J))) ∧ (¬ x1 ≤ x3 → ((0 ≤ (gi I 74 13) ∧ (gi I 74 13) < 2) ∧ (¬ (gi I 86 (gi I 74 13).toNat) = 0 ∧ (WPm (k - 1) LAY m_X12_nightGoes [vR (some 74)] (mem (P, some 5, some 22) (si I 74 73 (rem64 (div64 (rem64 ((1103515245 * (gl J 74 67)) + 12345) 2147483648) 64) (gi I 86 (gi I 74 13).toNat))) (sl J 74 67 (rem64 ((1103515245 * (gl J 74 67)) + 12345) 2147483648))) (retI (fun v5 I6 J7 => WP k LAY m_X12_winter 50 [(0, vR (some 74)), (1, vI x1), (2, vI (x2 + v5)), (3, vI (x3 + 1))] [] (mem (P, some 5, some 22) I6 J7) Q) (P, some 5, some 22))))))))) : WP k LAY m_X12_winter 50 [(0, vR (some 74)), (1, vI x1), (2, vI x2), (3, vI x3)] [] (mem (P, some 5, some 22) I J) Q := by
  refine st_iload_n (pc' := 51) dX12_winter_50 rfl rfl (j := 3) rfl ?_
  refine st_iload_n (pc' := 52) dX12_winter_51 rfl rfl (j := 1) rfl ?_
  obtain ⟨e1, h⟩ := h
  obtain ⟨e2, h⟩ := h
  refine st_icmp_ge (tg := 85) (pc' := 55) dX12_winter_52 (by decide) rfl e1 e2 (fun c => ?_) (fun c => ?_)
  · replace h := h.1 c
    refine st_aload_n (pc' := 86) dX12_winter_85 rfl rfl (j := 0) rfl ?_
    refine st_iconst (pc' := 87) dX12_winter_86 rfl ?_
    refine P_X12_234_74 dX12_winter_87 (pc' := 90) rfl rfl ?_
    refine st_iload_n (pc' := 91) dX12_winter_90 rfl rfl (j := 2) rfl ?_
    exact st_iret (ty := .int) dX12_winter_91 rfl rfl rfl h
  · replace h := h.2 c
    refine st_aload_n (pc' := 56) dX12_winter_55 rfl rfl (j := 0) rfl ?_
    refine st_aload_n (pc' := 57) dX12_winter_56 rfl rfl (j := 0) rfl ?_
    refine st_aload_n (pc' := 58) dX12_winter_57 rfl rfl (j := 0) rfl ?_
    refine G_X12_84_74 dX12_winter_58 (pc' := 61) rfl rfl ?_
    refine st_aload_n (pc' := 62) dX12_winter_61 rfl rfl (j := 0) rfl ?_
    refine G_X12_51_74 dX12_winter_62 (pc' := 65) rfl rfl ?_
    obtain ⟨e3, h⟩ := h
    refine st_iaload (pc' := 66) (v := (gi I 86 (gi I 74 13).toNat)) dX12_winter_65 rfl L_86 (by decide) e3 (show gi I 86 (gi I 74 13).toNat = (gi I 86 (gi I 74 13).toNat) from rfl) ?_
    refine st_callV (pc' := 69) (kc := k - 1) (E' := LAY) (cal := m_X12_draw) (n := 1) (as := [vI (gi I 86 (gi I 74 13).toNat)]) (S := [vR (some 74)]) dX12_winter_66 rfl l_X12_592 k_X12_draw rfl L_74 c_X12 rfl rfl (Nat.le_of_ble_eq_true rfl) (by omega) ⟨Nat.le_refl _, Nat.le_refl _, Nat.le_refl _, Nat.le_refl _⟩ (Q1 := fun r M' => WP k LAY m_X12_winter 69 [(0, vR (some 74)), (1, vI x1), (2, vI x2), (3, vI x3)] (r.toList ++ [vR (some 74)]) M' Q) (WPm.of k_X12_draw.1 (Nat.le_of_ble_eq_true rfl) (B_X12_draw_0 (by omega) ?_)) (fun r M' q => q)
    refine ⟨(gi_in _ _ _), ?_⟩
    obtain ⟨e4, h⟩ := h
    refine ⟨e4, ?_⟩
    change WP _ LAY m_X12_winter 69 [(0, vR (some 74)), (1, vI x1), (2, vI x2), (3, vI x3)] [vI (rem64 (div64 (rem64 ((1103515245 * (gl J 74 67)) + 12345) 2147483648) 64) (gi I 86 (gi I 74 13).toNat)), vR (some 74)] (mem (P, some 5, some 22) I (sl J 74 67 (rem64 ((1103515245 * (gl J 74 67)) + 12345) 2147483648))) Q
    refine P_X12_234_74 dX12_winter_69 (pc' := 72) rfl rfl ?_
    refine st_iload_n (pc' := 73) dX12_winter_72 rfl rfl (j := 2) rfl ?_
    refine st_aload_n (pc' := 74) dX12_winter_73 rfl rfl (j := 0) rfl ?_
    refine st_callV (pc' := 77) (kc := k - 1) (E' := LAY) (cal := m_X12_nightGoes) (n := 0) (as := []) (S := [vI x2]) dX12_winter_74 rfl l_X12_581 k_X12_nightGoes rfl L_74 c_X12 rfl rfl (Nat.le_of_ble_eq_true rfl) (by omega) ⟨Nat.le_refl _, Nat.le_refl _, Nat.le_refl _, Nat.le_refl _⟩ h (fun r M' q => ?_)
    obtain ⟨v5, I6, J7, rfl, rfl, h⟩ := q
    change WP _ LAY m_X12_winter 77 [(0, vR (some 74)), (1, vI x1), (2, vI x2), (3, vI x3)] [vI v5, vI x2] (mem (P, some 5, some 22) I6 J7) Q
    refine st_iadd (pc' := 78) dX12_winter_77 rfl ?_
    refine st_istore_n (pc' := 79) (L' := [(2, vI (x2 + v5)), (0, vR (some 74)), (1, vI x1), (3, vI x3)]) dX12_winter_78 rfl rfl (by decide) rfl ?_
    refine st_iinc (pc' := 82) (L' := [(3, vI (x3 + 1)), (2, vI (x2 + v5)), (0, vR (some 74)), (1, vI x1)]) (j := 3) dX12_winter_79 rfl (by decide) rfl rfl ?_
    refine st_goto (pc' := 50) dX12_winter_82 (by decide) ?_
    refine WP_sub (L' := [(0, vR (some 74)), (1, vI x1), (2, vI (x2 + v5)), (3, vI (x3 + 1))]) [2, 3, 1, 0] rfl ?_
    exact h
set_option maxRecDepth 20000 in
set_option maxHeartbeats 4000000 in
theorem B_X12_work_0 {k : Nat} {P : Option Nat} {I : Nat → Nat → Int32} {J : Nat → Nat → Int64} {x1 : Int} {x2 : Int} {x3 : Int} {Q : Option AV → Mem → Prop} (hk : 2 ≤ k) (h : (0 ≤ (gi I 74 13) ∧ (gi I 74 13) < 2) ∧ (inR x1 ∧ ((¬ (0 ≤ x1 ∧ x1 < gi I 83 (gi I 74 13).toNat) → (Q (some (vI (-1))) (mem (P, some 5, some 22) I J))) ∧ ((0 ≤ x1 ∧ x1 < gi I 83 (gi I 74 13).toNat) → (inR x2 ∧ (inR ((shl32 1 (gi I 77 (gi I 74 13).toNat)) - 1) ∧ ((¬ (0 ≤ x2 ∧ x2 ≤ ((shl32 1 (gi I 77 (gi I 74 13).toNat)) - 1)) → (Q (some (vI (-1))) (mem (P, some 5, some 22) I J))) ∧ ((0 ≤ x2 ∧ x2 ≤ ((shl32 1 (gi I 77 (gi I 74 13).toNat)) - 1)) → (inR x3 ∧ (((0 ≤ x3 ∧ x3 ≤ 2) → (WPm (k - 1) LAY m_X12_workOf [vR (some 74), vI x1, vI x2, vI (-1)] (mem (P, some 5, some 22) I J) (retI (fun v6 I7 J8 => WPm (k - 1) LAY m_X12_nightsFor [vR (some 74), vI x1, vI v6] (mem (P, some 5, some 22) I7 J8) (retI (fun v9 I10 J11 => (¬ x3 = 0 → ((¬ x3 = 1 → ((0 ≤ ((6 * 0) + x1) ∧ ((6 * 0) + x1) < 132) ∧ (WPm (k - 1) LAY m_X12_closed [vR (some 74), vI x2, vI (or32 (gi I10 111 (((6 * 0) + x1) : Int).toNat) (gi I10 112 (((6 * 0) + x1) : Int).toNat)), vI (-1)] (mem (P, some 5, some 22) I10 J11) (retI (fun v13 I14 J15 => Q (some (vI v13)) (mem (P, some 5, some 22) I14 J15)) (P, some 5, some 22))))) ∧ (x3 = 1 → (Q (some (vI v9)) (mem (P, some 5, some 22) I10 J11))))) ∧ (x3 = 0 → (Q (some (vI v6)) (mem (P, some 5, some 22) I10 J11)))) (P, some 5, some 22))) (P, some 5, some 22)))) ∧ (¬ (0 ≤ x3 ∧ x3 ≤ 2) → (Q (some (vI (-1))) (mem (P, some 5, some 22) I J))))))))))))) : WP k LAY m_X12_work 0 [(0, vR (some 74)), (1, vI x1), (2, vI x2), (3, vI x3)] [] (mem (P, some 5, some 22) I J) Q := by
  refine st_aload_n (pc' := 1) dX12_work_0 rfl rfl (j := 0) rfl ?_
  refine st_iload_n (pc' := 2) dX12_work_1 rfl rfl (j := 1) rfl ?_
  obtain ⟨e1, h⟩ := h
  obtain ⟨e2, h⟩ := h
  refine st_callV (pc' := 5) (kc := k - 1) (E' := LAY) (cal := m_X12_isReader) (n := 1) (as := [vI x1]) (S := []) dX12_work_2 rfl l_X12_562 k_X12_isReader rfl L_74 c_X12 rfl rfl (Nat.le_of_ble_eq_true rfl) (by omega) ⟨Nat.le_refl _, Nat.le_refl _, Nat.le_refl _, Nat.le_refl _⟩ (Q1 := fun r M' => WP k LAY m_X12_work 5 [(0, vR (some 74)), (1, vI x1), (2, vI x2), (3, vI x3)] (r.toList ++ []) M' Q) (S_X12_isReader (by omega) e1 e2 ?_) (fun r M' q => q)
  change WP _ LAY m_X12_work 5 [(0, vR (some 74)), (1, vI x1), (2, vI x2), (3, vI x3)] [vI (b2i (0 ≤ x1 ∧ x1 < gi I 83 (gi I 74 13).toNat))] (mem (P, some 5, some 22) I J) Q
  refine st_if_eq (tg := 25) (pc' := 8) dX12_work_5 (by decide) rfl (b2i_in _) (fun c => ?_) (fun c => ?_)
  · replace h := h.1 (b2i_f.mp c)
    refine st_iconst (pc' := 26) dX12_work_25 rfl ?_
    exact st_iret (ty := .int) dX12_work_26 rfl rfl rfl h
  · replace h := h.2 (b2i_t.mp c)
    refine st_aload_n (pc' := 9) dX12_work_8 rfl rfl (j := 0) rfl ?_
    refine st_iload_n (pc' := 10) dX12_work_9 rfl rfl (j := 2) rfl ?_
    refine st_callV (pc' := 13) (kc := k - 1) (E' := LAY) (cal := m_X12_isQuestion) (n := 1) (as := [vI x2]) (S := []) dX12_work_10 rfl l_X12_598 k_X12_isQuestion rfl L_74 c_X12 rfl rfl (Nat.le_of_ble_eq_true rfl) (by omega) ⟨Nat.le_refl _, Nat.le_refl _, Nat.le_refl _, Nat.le_refl _⟩ (Q1 := fun r M' => WP k LAY m_X12_work 13 [(0, vR (some 74)), (1, vI x1), (2, vI x2), (3, vI x3)] (r.toList ++ []) M' Q) (WPm.of k_X12_isQuestion.1 (Nat.le_of_ble_eq_true rfl) (B_X12_isQuestion_0 (by omega) ?_)) (fun r M' q => q)
    refine ⟨e1, ?_⟩
    obtain ⟨e3, h⟩ := h
    refine ⟨e3, ?_⟩
    obtain ⟨e4, h⟩ := h
    refine ⟨e4, ?_⟩
    change WP _ LAY m_X12_work 13 [(0, vR (some 74)), (1, vI x1), (2, vI x2), (3, vI x3)] [vI (b2i (0 ≤ x2 ∧ x2 ≤ ((shl32 1 (gi I 77 (gi I 74 13).toNat)) - 1)))] (mem (P, some 5, some 22) I J) Q
    refine st_if_eq (tg := 25) (pc' := 16) dX12_work_13 (by decide) rfl (b2i_in _) (fun c => ?_) (fun c => ?_)
    · replace h := h.1 (b2i_f.mp c)
      refine st_iconst (pc' := 26) dX12_work_25 rfl ?_
      exact st_iret (ty := .int) dX12_work_26 rfl rfl rfl h
    · replace h := h.2 (b2i_t.mp c)
      refine st_iload_n (pc' := 17) dX12_work_16 rfl rfl (j := 3) rfl ?_
      refine st_iconst (pc' := 18) dX12_work_17 rfl ?_
      refine st_iconst (pc' := 19) dX12_work_18 rfl ?_
      obtain ⟨e5, h⟩ := h
      refine st_callS (pc' := 22) (kc := k - 1) (E' := LAY) (cal := m_X12_is) (n := 3) (as := [vI x3, vI 0, vI 2]) (S := []) dX12_work_19 rfl l_X12_369 k_X12_is rfl rfl (Nat.le_of_ble_eq_true rfl) (by omega) ⟨Nat.le_refl _, Nat.le_refl _, Nat.le_refl _, Nat.le_refl _⟩ (Q1 := fun r M' => WP k LAY m_X12_work 22 [(0, vR (some 74)), (1, vI x1), (2, vI x2), (3, vI x3)] (r.toList ++ []) M' Q) (S_X12_is (by omega) e5 (by decide) (by decide) ?_) (fun r M' q => q)
      change WP _ LAY m_X12_work 22 [(0, vR (some 74)), (1, vI x1), (2, vI x2), (3, vI x3)] [vI (b2i (0 ≤ x3 ∧ x3 ≤ 2))] (mem (P, some 5, some 22) I J) Q
      refine st_if_ne (tg := 27) (pc' := 25) dX12_work_22 (by decide) rfl (b2i_in _) (fun c => ?_) (fun c => ?_)
      · replace h := h.1 (b2i_t.mp c)
        refine st_aload_n (pc' := 28) dX12_work_27 rfl rfl (j := 0) rfl ?_
        refine st_iload_n (pc' := 29) dX12_work_28 rfl rfl (j := 1) rfl ?_
        refine st_iload_n (pc' := 30) dX12_work_29 rfl rfl (j := 2) rfl ?_
        refine st_iconst (pc' := 31) dX12_work_30 rfl ?_
        refine st_callV (pc' := 34) (kc := k - 1) (E' := LAY) (cal := m_X12_workOf) (n := 3) (as := [vI x1, vI x2, vI (-1)]) (S := []) dX12_work_31 rfl l_X12_601 k_X12_workOf rfl L_74 c_X12 rfl rfl (Nat.le_of_ble_eq_true rfl) (by omega) ⟨Nat.le_refl _, Nat.le_refl _, Nat.le_refl _, Nat.le_refl _⟩ h (fun r M' q => ?_)
        obtain ⟨v6, I7, J8, rfl, rfl, h⟩ := q
        change WP _ LAY m_X12_work 34 [(0, vR (some 74)), (1, vI x1), (2, vI x2), (3, vI x3)] [vI v6] (mem (P, some 5, some 22) I7 J8) Q
        refine st_istore (pc' := 36) (L' := [(4, vI v6), (0, vR (some 74)), (1, vI x1), (2, vI x2), (3, vI x3)]) dX12_work_34 rfl (by decide) rfl ?_
        refine st_aload_n (pc' := 37) dX12_work_36 rfl rfl (j := 1) rfl ?_
        refine st_iload_n (pc' := 38) dX12_work_37 rfl rfl (j := 2) rfl ?_
        refine st_iload (pc' := 40) dX12_work_38 rfl (j := 0) rfl ?_
        refine st_callV (pc' := 43) (kc := k - 1) (E' := LAY) (cal := m_X12_nightsFor) (n := 2) (as := [vI x1, vI v6]) (S := []) dX12_work_40 rfl l_X12_604 k_X12_nightsFor rfl L_74 c_X12 rfl rfl (Nat.le_of_ble_eq_true rfl) (by omega) ⟨Nat.le_refl _, Nat.le_refl _, Nat.le_refl _, Nat.le_refl _⟩ h (fun r M' q => ?_)
        obtain ⟨v9, I10, J11, rfl, rfl, h⟩ := q
        change WP _ LAY m_X12_work 43 [(4, vI v6), (0, vR (some 74)), (1, vI x1), (2, vI x2), (3, vI x3)] [vI v9] (mem (P, some 5, some 22) I10 J11) Q
        refine st_istore (pc' := 45) (L' := [(5, vI v9), (4, vI v6), (0, vR (some 74)), (1, vI x1), (2, vI x2), (3, vI x3)]) dX12_work_43 rfl (by decide) rfl ?_
        refine st_iload_n (pc' := 46) dX12_work_45 rfl rfl (j := 5) rfl ?_
        refine st_if_ne (tg := 54) (pc' := 49) dX12_work_46 (by decide) rfl e5 (fun c => ?_) (fun c => ?_)
        · replace h := h.1 c
          refine st_iload_n (pc' := 55) dX12_work_54 rfl rfl (j := 5) rfl ?_
          refine st_iconst (pc' := 56) dX12_work_55 rfl ?_
          refine st_icmp_ne (tg := 64) (pc' := 59) dX12_work_56 (by decide) rfl e5 (by decide) (fun c => ?_) (fun c => ?_)
          · replace h := h.1 c
            refine st_aload_n (pc' := 65) dX12_work_64 rfl rfl (j := 2) rfl ?_
            refine st_iload_n (pc' := 66) dX12_work_65 rfl rfl (j := 4) rfl ?_
            refine st_aload_n (pc' := 67) dX12_work_66 rfl rfl (j := 2) rfl ?_
            refine st_iconst (pc' := 68) dX12_work_67 rfl ?_
            refine st_iload_n (pc' := 69) dX12_work_68 rfl rfl (j := 3) rfl ?_
            refine st_callV (pc' := 72) (kc := k - 1) (E' := LAY) (cal := m_X12_known) (n := 2) (as := [vI 0, vI x1]) (S := [vI x2, vR (some 74)]) dX12_work_69 rfl l_X12_473 k_X12_known rfl L_74 c_X12 rfl rfl (Nat.le_of_ble_eq_true rfl) (by omega) ⟨Nat.le_refl _, Nat.le_refl _, Nat.le_refl _, Nat.le_refl _⟩ (Q1 := fun r M' => WP k LAY m_X12_work 72 [(5, vI v9), (4, vI v6), (0, vR (some 74)), (1, vI x1), (2, vI x2), (3, vI x3)] (r.toList ++ [vI x2, vR (some 74)]) M' Q) (WPm.of k_X12_known.1 (Nat.le_of_ble_eq_true rfl) (B_X12_known_0 (by omega) ?_)) (fun r M' q => q)
            obtain ⟨e12, h⟩ := h
            refine ⟨e12, ?_⟩
            change WP _ LAY m_X12_work 72 [(5, vI v9), (4, vI v6), (0, vR (some 74)), (1, vI x1), (2, vI x2), (3, vI x3)] [vI (or32 (gi I10 111 (((6 * 0) + x1) : Int).toNat) (gi I10 112 (((6 * 0) + x1) : Int).toNat)), vI x2, vR (some 74)] (mem (P, some 5, some 22) I10 J11) Q
            refine st_iconst (pc' := 73) dX12_work_72 rfl ?_
            refine st_callV (pc' := 76) (kc := k - 1) (E' := LAY) (cal := m_X12_closed) (n := 3) (as := [vI x2, vI (or32 (gi I10 111 (((6 * 0) + x1) : Int).toNat) (gi I10 112 (((6 * 0) + x1) : Int).toNat)), vI (-1)]) (S := []) dX12_work_73 rfl l_X12_559 k_X12_closed rfl L_74 c_X12 rfl rfl (Nat.le_of_ble_eq_true rfl) (by omega) ⟨Nat.le_refl _, Nat.le_refl _, Nat.le_refl _, Nat.le_refl _⟩ h (fun r M' q => ?_)
            obtain ⟨v13, I14, J15, rfl, rfl, h⟩ := q
            change WP _ LAY m_X12_work 76 [(5, vI v9), (4, vI v6), (0, vR (some 74)), (1, vI x1), (2, vI x2), (3, vI x3)] [vI v13] (mem (P, some 5, some 22) I14 J15) Q
            exact st_iret (ty := .int) dX12_work_76 rfl rfl rfl h
          · replace h := h.2 c
            refine st_iload (pc' := 61) dX12_work_59 rfl (j := 0) rfl ?_
            refine st_goto (pc' := 76) dX12_work_61 (by decide) ?_
            exact st_iret (ty := .int) dX12_work_76 rfl rfl rfl h
        · replace h := h.2 c
          refine st_iload (pc' := 51) dX12_work_49 rfl (j := 1) rfl ?_
          refine st_goto (pc' := 76) dX12_work_51 (by decide) ?_
          exact st_iret (ty := .int) dX12_work_76 rfl rfl rfl h
      · replace h := h.2 (b2i_f.mp c)
        refine st_iconst (pc' := 26) dX12_work_25 rfl ?_
        exact st_iret (ty := .int) dX12_work_26 rfl rfl rfl h
end WM5

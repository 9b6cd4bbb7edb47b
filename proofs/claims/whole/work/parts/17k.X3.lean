section WX3
set_option maxRecDepth 20000 in
set_option maxHeartbeats 4000000 in
theorem B_X3_fail_0 {k : Nat} {I : Nat → Nat → Int32} {J : Nat → Nat → Int64} {x1 : Int} {x2 : Int} {Q : Option AV → Mem → Prop} (hk : 0 ≤ k) (h : Q (some (vI 0)) (mem (some 22, some 5, some 22) (si (si I 3 2 x1) 3 3 x2) J)) : WP k LAY m_X3_fail 0 [(0, vR (some 3)), (1, vI x1), (2, vI x2)] [] (mem (some 22, some 5, some 22) I J) Q := by
  refine st_aload_n (pc' := 1) dX3_fail_0 rfl rfl (j := 0) rfl ?_
  refine st_iload_n (pc' := 2) dX3_fail_1 rfl rfl (j := 1) rfl ?_
  refine P_X3_28_3 dX3_fail_2 (pc' := 5) rfl rfl ?_
  refine st_aload_n (pc' := 6) dX3_fail_5 rfl rfl (j := 0) rfl ?_
  refine st_iload_n (pc' := 7) dX3_fail_6 rfl rfl (j := 2) rfl ?_
  refine P_X3_9_3 dX3_fail_7 (pc' := 10) rfl rfl ?_
  refine st_iconst (pc' := 11) dX3_fail_10 rfl ?_
  exact st_iret (ty := .boolean) dX3_fail_11 rfl (by decide) rfl h
set_option maxRecDepth 20000 in
set_option maxHeartbeats 4000000 in
theorem B_X3_refuseWord_0 {k : Nat} {I : Nat → Nat → Int32} {J : Nat → Nat → Int64}  {Q : Option AV → Mem → Prop} (hk : 1 ≤ k) (h : Q (some (vI 0)) (mem (some 22, some 5, some 22) (si (si I 3 2 1) 3 3 (gi I 1 6)) J)) : WP k LAY m_X3_refuseWord 0 [(0, vR (some 3))] [] (mem (some 22, some 5, some 22) I J) Q := by
  refine st_aload_n (pc' := 1) dX3_refuseWord_0 rfl rfl (j := 0) rfl ?_
  refine st_iconst (pc' := 2) dX3_refuseWord_1 rfl ?_
  refine st_aload_n (pc' := 3) dX3_refuseWord_2 rfl rfl (j := 0) rfl ?_
  refine G_X3_15_3 dX3_refuseWord_3 (pc' := 6) rfl rfl ?_
  refine G_X3_214_1 dX3_refuseWord_6 (pc' := 9) rfl rfl ?_
  refine st_callV (pc' := 12) (kc := k - 1) (E' := LAY) (cal := m_X3_fail) (n := 2) (as := [vI 1, vI (gi I 1 6)]) (S := []) dX3_refuseWord_9 rfl l_X3_53 k_X3_fail rfl L_3 c_X3 rfl rfl (Nat.le_of_ble_eq_true rfl) (by omega) ⟨Nat.le_refl _, Nat.le_refl _, Nat.le_refl _, Nat.le_refl _⟩ (Q1 := fun r M' => WP k LAY m_X3_refuseWord 12 [(0, vR (some 3))] (r.toList ++ []) M' Q) (WPm.of k_X3_fail.1 (Nat.le_of_ble_eq_true rfl) (B_X3_fail_0 (by omega) ?_)) (fun r M' q => q)
  change WP _ LAY m_X3_refuseWord 12 [(0, vR (some 3))] [vI 0] (mem (some 22, some 5, some 22) (si (si I 3 2 1) 3 3 (gi I 1 6)) J) Q
  exact st_iret (ty := .boolean) dX3_refuseWord_12 rfl (by decide) rfl h
set_option maxRecDepth 20000 in
set_option maxHeartbeats 4000000 in
theorem B_X3_askName_0 {k : Nat} {I : Nat → Nat → Int32} {J : Nat → Nat → Int64} {x1 : Int} {Q : Option AV → Mem → Prop} (hk : 2 ≤ k) (h : ((gi I 1 2) = 1 → (WPm (k - 1) LAY m_X7_findName [vR (some 22), vI x1, vR (some 1)] (mem (some 22, some 5, some 22) I J) (retI (fun v1 I2 J3 => inR v1 ∧ ((¬ v1 = (-1) → (Q (some (vI v1)) (mem (some 22, some 5, some 22) I2 J3))) ∧ (v1 = (-1) → (Q (some (vI v1)) (mem (some 22, some 5, some 22) (si (si I2 3 2 3) 3 3 (gi I2 1 3)) J3))))) (some 22, some 5, some 22)))) ∧ (¬ (gi I 1 2) = 1 → (Q (some (vI (-1))) (mem (some 22, some 5, some 22) (si (si I 3 2 1) 3 3 (gi I 1 6)) J)))) : WP k LAY m_X3_askName 0 [(0, vR (some 3)), (1, vI x1)] [] (mem (some 22, some 5, some 22) I J) Q := by
  refine st_aload_n (pc' := 1) dX3_askName_0 rfl rfl (j := 0) rfl ?_
  refine G_X3_15_3 dX3_askName_1 (pc' := 4) rfl rfl ?_
  refine G_X3_39_1 dX3_askName_4 (pc' := 7) rfl rfl ?_
  refine st_iconst (pc' := 8) dX3_askName_7 rfl ?_
  refine st_icmp_eq (tg := 18) (pc' := 11) dX3_askName_8 (by decide) rfl (gi_in _ _ _) (by decide) (fun c => ?_) (fun c => ?_)
  · replace h := h.1 c
    refine st_aload_n (pc' := 19) dX3_askName_18 rfl rfl (j := 0) rfl ?_
    refine G_X3_19_3 dX3_askName_19 (pc' := 22) rfl rfl ?_
    refine st_iload_n (pc' := 23) dX3_askName_22 rfl rfl (j := 1) rfl ?_
    refine st_aload_n (pc' := 24) dX3_askName_23 rfl rfl (j := 0) rfl ?_
    refine G_X3_15_3 dX3_askName_24 (pc' := 27) rfl rfl ?_
    refine st_callV (pc' := 30) (kc := k - 1) (E' := LAY) (cal := m_X7_findName) (n := 2) (as := [vI x1, vR (some 1)]) (S := []) dX3_askName_27 rfl l_X3_206 k_X7_findName rfl L_22 c_X7 rfl rfl (Nat.le_of_ble_eq_true rfl) (by omega) ⟨Nat.le_refl _, Nat.le_refl _, Nat.le_refl _, Nat.le_refl _⟩ h (fun r M' q => ?_)
    obtain ⟨v1, I2, J3, rfl, rfl, h⟩ := q
    change WP _ LAY m_X3_askName 30 [(0, vR (some 3)), (1, vI x1)] [vI v1] (mem (some 22, some 5, some 22) I2 J3) Q
    refine st_istore_n (pc' := 31) (L' := [(2, vI v1), (0, vR (some 3)), (1, vI x1)]) dX3_askName_30 rfl rfl (by decide) rfl ?_
    refine st_iload_n (pc' := 32) dX3_askName_31 rfl rfl (j := 0) rfl ?_
    refine st_iconst (pc' := 33) dX3_askName_32 rfl ?_
    obtain ⟨e4, h⟩ := h
    refine st_icmp_ne (tg := 49) (pc' := 36) dX3_askName_33 (by decide) rfl e4 (by decide) (fun c => ?_) (fun c => ?_)
    · replace h := h.1 c
      refine st_iload_n (pc' := 50) dX3_askName_49 rfl rfl (j := 0) rfl ?_
      exact st_iret (ty := .int) dX3_askName_50 rfl rfl rfl h
    · replace h := h.2 c
      refine st_aload_n (pc' := 37) dX3_askName_36 rfl rfl (j := 1) rfl ?_
      refine st_iconst (pc' := 38) dX3_askName_37 rfl ?_
      refine st_aload_n (pc' := 39) dX3_askName_38 rfl rfl (j := 1) rfl ?_
      refine G_X3_15_3 dX3_askName_39 (pc' := 42) rfl rfl ?_
      refine G_X3_71_1 dX3_askName_42 (pc' := 45) rfl rfl ?_
      refine st_callV (pc' := 48) (kc := k - 1) (E' := LAY) (cal := m_X3_fail) (n := 2) (as := [vI 3, vI (gi I2 1 3)]) (S := []) dX3_askName_45 rfl l_X3_53 k_X3_fail rfl L_3 c_X3 rfl rfl (Nat.le_of_ble_eq_true rfl) (by omega) ⟨Nat.le_refl _, Nat.le_refl _, Nat.le_refl _, Nat.le_refl _⟩ (Q1 := fun r M' => WP k LAY m_X3_askName 48 [(2, vI v1), (0, vR (some 3)), (1, vI x1)] (r.toList ++ []) M' Q) (WPm.of k_X3_fail.1 (Nat.le_of_ble_eq_true rfl) (B_X3_fail_0 (by omega) ?_)) (fun r M' q => q)
      change WP _ LAY m_X3_askName 48 [(2, vI v1), (0, vR (some 3)), (1, vI x1)] [vI 0] (mem (some 22, some 5, some 22) (si (si I2 3 2 3) 3 3 (gi I2 1 3)) J3) Q
      refine st_pop (pc' := 49) dX3_askName_48 rfl rfl ?_
      refine st_iload_n (pc' := 50) dX3_askName_49 rfl rfl (j := 0) rfl ?_
      exact st_iret (ty := .int) dX3_askName_50 rfl rfl rfl h
  · replace h := h.2 c
    refine st_aload_n (pc' := 12) dX3_askName_11 rfl rfl (j := 0) rfl ?_
    refine st_callV (pc' := 15) (kc := k - 1) (E' := LAY) (cal := m_X3_refuseWord) (n := 0) (as := []) (S := []) dX3_askName_12 rfl l_X3_67 k_X3_refuseWord rfl L_3 c_X3 rfl rfl (Nat.le_of_ble_eq_true rfl) (by omega) ⟨Nat.le_refl _, Nat.le_refl _, Nat.le_refl _, Nat.le_refl _⟩ (Q1 := fun r M' => WP k LAY m_X3_askName 15 [(0, vR (some 3)), (1, vI x1)] (r.toList ++ []) M' Q) (WPm.of k_X3_refuseWord.1 (Nat.le_of_ble_eq_true rfl) (B_X3_refuseWord_0 (by omega) ?_)) (fun r M' q => q)
    change WP _ LAY m_X3_askName 15 [(0, vR (some 3)), (1, vI x1)] [vI 0] (mem (some 22, some 5, some 22) (si (si I 3 2 1) 3 3 (gi I 1 6)) J) Q
    refine st_pop (pc' := 16) dX3_askName_15 rfl rfl ?_
    refine st_iconst (pc' := 17) dX3_askName_16 rfl ?_
    exact st_iret (ty := .int) dX3_askName_17 rfl rfl rfl h
set_option maxRecDepth 20000 in
set_option maxHeartbeats 4000000 in
theorem B_X3_askNumber_0 {k : Nat} {I : Nat → Nat → Int32} {J : Nat → Nat → Int64} {x1 : Int} {x2 : Int} {Q : Option AV → Mem → Prop} (hk : 2 ≤ k) (h : ((gi I 1 2) = 3 → (inR x1 ∧ (((gi I 1 5) < x1 → (Q (some (vI (-1))) (mem (some 22, some 5, some 22) (si (si I 3 2 4) 3 3 (gi I 1 3)) J))) ∧ (¬ (gi I 1 5) < x1 → (inR x2 ∧ (((gi I 1 5) ≤ x2 → (WPm (k - 1) LAY m_X10_step [vR (some 1)] (mem (some 22, some 5, some 22) I J) (retV (fun I4 J5 => Q (some (vI (gi I 1 5))) (mem (some 22, some 5, some 22) I4 J5)) (some 22, some 5, some 22)))) ∧ (¬ (gi I 1 5) ≤ x2 → (Q (some (vI (-1))) (mem (some 22, some 5, some 22) (si (si I 3 2 4) 3 3 (gi I 1 3)) J))))))))) ∧ (¬ (gi I 1 2) = 3 → (Q (some (vI (-1))) (mem (some 22, some 5, some 22) (si (si I 3 2 1) 3 3 (gi I 1 6)) J)))) : WP k LAY m_X3_askNumber 0 [(0, vR (some 3)), (1, vI x1), (2, vI x2)] [] (mem (some 22, some 5, some 22) I J) Q := by
  refine st_aload_n (pc' := 1) dX3_askNumber_0 rfl rfl (j := 0) rfl ?_
  refine G_X3_15_3 dX3_askNumber_1 (pc' := 4) rfl rfl ?_
  refine G_X3_39_1 dX3_askNumber_4 (pc' := 7) rfl rfl ?_
  refine st_iconst (pc' := 8) dX3_askNumber_7 rfl ?_
  refine st_icmp_eq (tg := 18) (pc' := 11) dX3_askNumber_8 (by decide) rfl (gi_in _ _ _) (by decide) (fun c => ?_) (fun c => ?_)
  · replace h := h.1 c
    refine st_aload_n (pc' := 19) dX3_askNumber_18 rfl rfl (j := 0) rfl ?_
    refine G_X3_15_3 dX3_askNumber_19 (pc' := 22) rfl rfl ?_
    refine G_X3_60_1 dX3_askNumber_22 (pc' := 25) rfl rfl ?_
    refine st_istore_n (pc' := 26) (L' := [(3, vI (gi I 1 5)), (0, vR (some 3)), (1, vI x1), (2, vI x2)]) dX3_askNumber_25 rfl rfl (by decide) rfl ?_
    refine st_iload_n (pc' := 27) dX3_askNumber_26 rfl rfl (j := 0) rfl ?_
    refine st_iload_n (pc' := 28) dX3_askNumber_27 rfl rfl (j := 2) rfl ?_
    obtain ⟨e1, h⟩ := h
    refine st_icmp_lt (tg := 36) (pc' := 31) dX3_askNumber_28 (by decide) rfl (gi_in _ _ _) e1 (fun c => ?_) (fun c => ?_)
    · replace h := h.1 c
      refine st_aload_n (pc' := 37) dX3_askNumber_36 rfl rfl (j := 1) rfl ?_
      refine st_iconst (pc' := 38) dX3_askNumber_37 rfl ?_
      refine st_aload_n (pc' := 39) dX3_askNumber_38 rfl rfl (j := 1) rfl ?_
      refine G_X3_15_3 dX3_askNumber_39 (pc' := 42) rfl rfl ?_
      refine G_X3_71_1 dX3_askNumber_42 (pc' := 45) rfl rfl ?_
      refine st_callV (pc' := 48) (kc := k - 1) (E' := LAY) (cal := m_X3_fail) (n := 2) (as := [vI 4, vI (gi I 1 3)]) (S := []) dX3_askNumber_45 rfl l_X3_53 k_X3_fail rfl L_3 c_X3 rfl rfl (Nat.le_of_ble_eq_true rfl) (by omega) ⟨Nat.le_refl _, Nat.le_refl _, Nat.le_refl _, Nat.le_refl _⟩ (Q1 := fun r M' => WP k LAY m_X3_askNumber 48 [(3, vI (gi I 1 5)), (0, vR (some 3)), (1, vI x1), (2, vI x2)] (r.toList ++ []) M' Q) (WPm.of k_X3_fail.1 (Nat.le_of_ble_eq_true rfl) (B_X3_fail_0 (by omega) ?_)) (fun r M' q => q)
      change WP _ LAY m_X3_askNumber 48 [(3, vI (gi I 1 5)), (0, vR (some 3)), (1, vI x1), (2, vI x2)] [vI 0] (mem (some 22, some 5, some 22) (si (si I 3 2 4) 3 3 (gi I 1 3)) J) Q
      refine st_pop (pc' := 49) dX3_askNumber_48 rfl rfl ?_
      refine st_iconst (pc' := 50) dX3_askNumber_49 rfl ?_
      exact st_iret (ty := .int) dX3_askNumber_50 rfl rfl rfl h
    · replace h := h.2 c
      refine st_iload_n (pc' := 32) dX3_askNumber_31 rfl rfl (j := 0) rfl ?_
      refine st_iload_n (pc' := 33) dX3_askNumber_32 rfl rfl (j := 3) rfl ?_
      obtain ⟨e2, h⟩ := h
      refine st_icmp_le (tg := 51) (pc' := 36) dX3_askNumber_33 (by decide) rfl (gi_in _ _ _) e2 (fun c => ?_) (fun c => ?_)
      · replace h := h.1 c
        refine st_aload_n (pc' := 52) dX3_askNumber_51 rfl rfl (j := 1) rfl ?_
        refine G_X3_15_3 dX3_askNumber_52 (pc' := 55) rfl rfl ?_
        refine st_callV (pc' := 58) (kc := k - 1) (E' := LAY) (cal := m_X10_step) (n := 0) (as := []) (S := []) dX3_askNumber_55 rfl l_X3_74 k_X10_step rfl L_1 c_X10 rfl rfl (Nat.le_of_ble_eq_true rfl) (by omega) ⟨Nat.le_refl _, Nat.le_refl _, Nat.le_refl _, Nat.le_refl _⟩ h (fun r M' q => ?_)
        obtain ⟨I4, J5, rfl, rfl, h⟩ := q
        change WP _ LAY m_X3_askNumber 58 [(3, vI (gi I 1 5)), (0, vR (some 3)), (1, vI x1), (2, vI x2)] [] (mem (some 22, some 5, some 22) I4 J5) Q
        refine st_iload_n (pc' := 59) dX3_askNumber_58 rfl rfl (j := 0) rfl ?_
        exact st_iret (ty := .int) dX3_askNumber_59 rfl rfl rfl h
      · replace h := h.2 c
        refine st_aload_n (pc' := 37) dX3_askNumber_36 rfl rfl (j := 1) rfl ?_
        refine st_iconst (pc' := 38) dX3_askNumber_37 rfl ?_
        refine st_aload_n (pc' := 39) dX3_askNumber_38 rfl rfl (j := 1) rfl ?_
        refine G_X3_15_3 dX3_askNumber_39 (pc' := 42) rfl rfl ?_
        refine G_X3_71_1 dX3_askNumber_42 (pc' := 45) rfl rfl ?_
        refine st_callV (pc' := 48) (kc := k - 1) (E' := LAY) (cal := m_X3_fail) (n := 2) (as := [vI 4, vI (gi I 1 3)]) (S := []) dX3_askNumber_45 rfl l_X3_53 k_X3_fail rfl L_3 c_X3 rfl rfl (Nat.le_of_ble_eq_true rfl) (by omega) ⟨Nat.le_refl _, Nat.le_refl _, Nat.le_refl _, Nat.le_refl _⟩ (Q1 := fun r M' => WP k LAY m_X3_askNumber 48 [(3, vI (gi I 1 5)), (0, vR (some 3)), (1, vI x1), (2, vI x2)] (r.toList ++ []) M' Q) (WPm.of k_X3_fail.1 (Nat.le_of_ble_eq_true rfl) (B_X3_fail_0 (by omega) ?_)) (fun r M' q => q)
        change WP _ LAY m_X3_askNumber 48 [(3, vI (gi I 1 5)), (0, vR (some 3)), (1, vI x1), (2, vI x2)] [vI 0] (mem (some 22, some 5, some 22) (si (si I 3 2 4) 3 3 (gi I 1 3)) J) Q
        refine st_pop (pc' := 49) dX3_askNumber_48 rfl rfl ?_
        refine st_iconst (pc' := 50) dX3_askNumber_49 rfl ?_
        exact st_iret (ty := .int) dX3_askNumber_50 rfl rfl rfl h
  · replace h := h.2 c
    refine st_aload_n (pc' := 12) dX3_askNumber_11 rfl rfl (j := 0) rfl ?_
    refine st_callV (pc' := 15) (kc := k - 1) (E' := LAY) (cal := m_X3_refuseWord) (n := 0) (as := []) (S := []) dX3_askNumber_12 rfl l_X3_67 k_X3_refuseWord rfl L_3 c_X3 rfl rfl (Nat.le_of_ble_eq_true rfl) (by omega) ⟨Nat.le_refl _, Nat.le_refl _, Nat.le_refl _, Nat.le_refl _⟩ (Q1 := fun r M' => WP k LAY m_X3_askNumber 15 [(0, vR (some 3)), (1, vI x1), (2, vI x2)] (r.toList ++ []) M' Q) (WPm.of k_X3_refuseWord.1 (Nat.le_of_ble_eq_true rfl) (B_X3_refuseWord_0 (by omega) ?_)) (fun r M' q => q)
    change WP _ LAY m_X3_askNumber 15 [(0, vR (some 3)), (1, vI x1), (2, vI x2)] [vI 0] (mem (some 22, some 5, some 22) (si (si I 3 2 1) 3 3 (gi I 1 6)) J) Q
    refine st_pop (pc' := 16) dX3_askNumber_15 rfl rfl ?_
    refine st_iconst (pc' := 17) dX3_askNumber_16 rfl ?_
    exact st_iret (ty := .int) dX3_askNumber_17 rfl rfl rfl h
set_option maxRecDepth 20000 in
set_option maxHeartbeats 4000000 in
theorem B_X3_beginRule_0 {k : Nat} {I : Nat → Nat → Int32} {J : Nat → Nat → Int64} {x1 : Int} {Q : Option AV → Mem → Prop} (hk : 0 ≤ k) (h : (0 ≤ x1 ∧ x1 < 3) ∧ (Q (some (vI 1)) (mem (some 22, some 5, some 22) (si I 34 (x1).toNat (gi I 22 13)) J))) : WP k LAY m_X3_beginRule 0 [(0, vR (some 3)), (1, vI x1)] [] (mem (some 22, some 5, some 22) I J) Q := by
  refine st_aload_n (pc' := 1) dX3_beginRule_0 rfl rfl (j := 0) rfl ?_
  refine G_X3_19_3 dX3_beginRule_1 (pc' := 4) rfl rfl ?_
  refine G_X3_153_22 dX3_beginRule_4 (pc' := 7) rfl rfl ?_
  refine st_iload_n (pc' := 8) dX3_beginRule_7 rfl rfl (j := 1) rfl ?_
  refine st_aload_n (pc' := 9) dX3_beginRule_8 rfl rfl (j := 0) rfl ?_
  refine G_X3_19_3 dX3_beginRule_9 (pc' := 12) rfl rfl ?_
  refine G_X3_156_22 dX3_beginRule_12 (pc' := 15) rfl rfl ?_
  obtain ⟨e1, h⟩ := h
  refine st_iastore (pc' := 16) (M' := (mem (some 22, some 5, some 22) (si I 34 (x1).toNat (gi I 22 13)) J)) dX3_beginRule_15 rfl L_34 (by decide) e1 rfl ?_
  refine st_iconst (pc' := 17) dX3_beginRule_16 rfl ?_
  exact st_iret (ty := .boolean) dX3_beginRule_17 rfl (by decide) rfl h
set_option maxRecDepth 20000 in
set_option maxHeartbeats 4000000 in
theorem B_X3_wantSign_0 {k : Nat} {I : Nat → Nat → Int32} {J : Nat → Nat → Int64} {x1 : Int} {Q : Option AV → Mem → Prop} (hk : 2 ≤ k) (h : inR x1 ∧ (((gi I 1 2 = 4 ∧ gi I 1 5 = x1) → (WPm (k - 1) LAY m_X10_step [vR (some 1)] (mem (some 22, some 5, some 22) I J) (retV (fun I3 J4 => Q (some (vI 1)) (mem (some 22, some 5, some 22) I3 J4)) (some 22, some 5, some 22)))) ∧ (¬ (gi I 1 2 = 4 ∧ gi I 1 5 = x1) → (Q (some (vI 0)) (mem (some 22, some 5, some 22) (si (si I 3 2 1) 3 3 (gi I 1 6)) J))))) : WP k LAY m_X3_wantSign 0 [(0, vR (some 3)), (1, vI x1)] [] (mem (some 22, some 5, some 22) I J) Q := by
  refine st_aload_n (pc' := 1) dX3_wantSign_0 rfl rfl (j := 0) rfl ?_
  refine G_X3_15_3 dX3_wantSign_1 (pc' := 4) rfl rfl ?_
  refine st_iload_n (pc' := 5) dX3_wantSign_4 rfl rfl (j := 1) rfl ?_
  obtain ⟨e1, h⟩ := h
  refine st_callV (pc' := 8) (kc := k - 1) (E' := LAY) (cal := m_X10_isSign) (n := 1) (as := [vI x1]) (S := []) dX3_wantSign_5 rfl l_X3_178 k_X10_isSign rfl L_1 c_X10 rfl rfl (Nat.le_of_ble_eq_true rfl) (by omega) ⟨Nat.le_refl _, Nat.le_refl _, Nat.le_refl _, Nat.le_refl _⟩ (Q1 := fun r M' => WP k LAY m_X3_wantSign 8 [(0, vR (some 3)), (1, vI x1)] (r.toList ++ []) M' Q) (S_X10_isSign (by omega) e1 ?_) (fun r M' q => q)
  change WP _ LAY m_X3_wantSign 8 [(0, vR (some 3)), (1, vI x1)] [vI (b2i (gi I 1 2 = 4 ∧ gi I 1 5 = x1))] (mem (some 22, some 5, some 22) I J) Q
  refine st_if_ne (tg := 16) (pc' := 11) dX3_wantSign_8 (by decide) rfl (b2i_in _) (fun c => ?_) (fun c => ?_)
  · replace h := h.1 (b2i_t.mp c)
    refine st_aload_n (pc' := 17) dX3_wantSign_16 rfl rfl (j := 0) rfl ?_
    refine G_X3_15_3 dX3_wantSign_17 (pc' := 20) rfl rfl ?_
    refine st_callV (pc' := 23) (kc := k - 1) (E' := LAY) (cal := m_X10_step) (n := 0) (as := []) (S := []) dX3_wantSign_20 rfl l_X3_74 k_X10_step rfl L_1 c_X10 rfl rfl (Nat.le_of_ble_eq_true rfl) (by omega) ⟨Nat.le_refl _, Nat.le_refl _, Nat.le_refl _, Nat.le_refl _⟩ h (fun r M' q => ?_)
    obtain ⟨I3, J4, rfl, rfl, h⟩ := q
    change WP _ LAY m_X3_wantSign 23 [(0, vR (some 3)), (1, vI x1)] [] (mem (some 22, some 5, some 22) I3 J4) Q
    refine st_iconst (pc' := 24) dX3_wantSign_23 rfl ?_
    exact st_iret (ty := .boolean) dX3_wantSign_24 rfl (by decide) rfl h
  · replace h := h.2 (b2i_f.mp c)
    refine st_aload_n (pc' := 12) dX3_wantSign_11 rfl rfl (j := 0) rfl ?_
    refine st_callV (pc' := 15) (kc := k - 1) (E' := LAY) (cal := m_X3_refuseWord) (n := 0) (as := []) (S := []) dX3_wantSign_12 rfl l_X3_67 k_X3_refuseWord rfl L_3 c_X3 rfl rfl (Nat.le_of_ble_eq_true rfl) (by omega) ⟨Nat.le_refl _, Nat.le_refl _, Nat.le_refl _, Nat.le_refl _⟩ (Q1 := fun r M' => WP k LAY m_X3_wantSign 15 [(0, vR (some 3)), (1, vI x1)] (r.toList ++ []) M' Q) (WPm.of k_X3_refuseWord.1 (Nat.le_of_ble_eq_true rfl) (B_X3_refuseWord_0 (by omega) ?_)) (fun r M' q => q)
    change WP _ LAY m_X3_wantSign 15 [(0, vR (some 3)), (1, vI x1)] [vI 0] (mem (some 22, some 5, some 22) (si (si I 3 2 1) 3 3 (gi I 1 6)) J) Q
    exact st_iret (ty := .boolean) dX3_wantSign_15 rfl (by decide) rfl h
set_option maxRecDepth 20000 in
set_option maxHeartbeats 4000000 in
theorem B_X3_closeOne_0 {k : Nat} {I : Nat → Nat → Int32} {J : Nat → Nat → Int64} {x1 : Int} {Q : Option AV → Mem → Prop} (hk : 1 ≤ k) (h : WPm (k - 1) LAY m_X3_wantSign [vR (some 3), vI x1] (mem (some 22, some 5, some 22) (si I 3 4 ((gi I 3 4) - 1)) J) (retI (fun v1 I2 J3 => (v1 = 0 ∨ v1 = 1) ∧ (Q (some (vI v1)) (mem (some 22, some 5, some 22) I2 J3))) (some 22, some 5, some 22))) : WP k LAY m_X3_closeOne 0 [(0, vR (some 3)), (1, vI x1)] [] (mem (some 22, some 5, some 22) I J) Q := by
  refine st_aload_n (pc' := 1) dX3_closeOne_0 rfl rfl (j := 0) rfl ?_
  refine st_dup (pc' := 2) dX3_closeOne_1 rfl rfl ?_
  refine G_X3_31_3 dX3_closeOne_2 (pc' := 5) rfl rfl ?_
  refine st_iconst (pc' := 6) dX3_closeOne_5 rfl ?_
  refine st_isub (pc' := 7) dX3_closeOne_6 rfl ?_
  refine P_X3_31_3 dX3_closeOne_7 (pc' := 10) rfl rfl ?_
  refine st_aload_n (pc' := 11) dX3_closeOne_10 rfl rfl (j := 0) rfl ?_
  refine st_iload_n (pc' := 12) dX3_closeOne_11 rfl rfl (j := 1) rfl ?_
  refine st_callV (pc' := 15) (kc := k - 1) (E' := LAY) (cal := m_X3_wantSign) (n := 1) (as := [vI x1]) (S := []) dX3_closeOne_12 rfl l_X3_107 k_X3_wantSign rfl L_3 c_X3 rfl rfl (Nat.le_of_ble_eq_true rfl) (by omega) ⟨Nat.le_refl _, Nat.le_refl _, Nat.le_refl _, Nat.le_refl _⟩ h (fun r M' q => ?_)
  obtain ⟨v1, I2, J3, rfl, rfl, h⟩ := q
  change WP _ LAY m_X3_closeOne 15 [(0, vR (some 3)), (1, vI x1)] [vI v1] (mem (some 22, some 5, some 22) I2 J3) Q
  obtain ⟨e4, h⟩ := h
  exact st_iret (ty := .boolean) dX3_closeOne_15 rfl (nar_b e4) rfl h
set_option maxRecDepth 20000 in
set_option maxHeartbeats 4000000 in
theorem B_X3_endRule_0 {k : Nat} {I : Nat → Nat → Int32} {J : Nat → Nat → Int64} {x1 : Int} {Q : Option AV → Mem → Prop} (hk : 0 ≤ k) (h : (0 ≤ x1 ∧ x1 < 3) ∧ (Q (some (vI 1)) (mem (some 22, some 5, some 22) (si I 35 (x1).toNat (gi I 22 13)) J))) : WP k LAY m_X3_endRule 0 [(0, vR (some 3)), (1, vI x1)] [] (mem (some 22, some 5, some 22) I J) Q := by
  refine st_aload_n (pc' := 1) dX3_endRule_0 rfl rfl (j := 0) rfl ?_
  refine G_X3_19_3 dX3_endRule_1 (pc' := 4) rfl rfl ?_
  refine G_X3_159_22 dX3_endRule_4 (pc' := 7) rfl rfl ?_
  refine st_iload_n (pc' := 8) dX3_endRule_7 rfl rfl (j := 1) rfl ?_
  refine st_aload_n (pc' := 9) dX3_endRule_8 rfl rfl (j := 0) rfl ?_
  refine G_X3_19_3 dX3_endRule_9 (pc' := 12) rfl rfl ?_
  refine G_X3_156_22 dX3_endRule_12 (pc' := 15) rfl rfl ?_
  obtain ⟨e1, h⟩ := h
  refine st_iastore (pc' := 16) (M' := (mem (some 22, some 5, some 22) (si I 35 (x1).toNat (gi I 22 13)) J)) dX3_endRule_15 rfl L_35 (by decide) e1 rfl ?_
  refine st_iconst (pc' := 17) dX3_endRule_16 rfl ?_
  exact st_iret (ty := .boolean) dX3_endRule_17 rfl (by decide) rfl h
set_option maxRecDepth 20000 in
set_option maxHeartbeats 4000000 in
theorem B_X3_give_0 {k : Nat} {I : Nat → Nat → Int32} {J : Nat → Nat → Int64} {x1 : Int} {Q : Option AV → Mem → Prop} (hk : 2 ≤ k) (h : ((gi I 1 2) = 1 → (WP k LAY m_X3_give 18 [(0, vR (some 3)), (1, vI x1), (2, vI 0)] [] (mem (some 22, some 5, some 22) I J) Q)) ∧ (¬ (gi I 1 2) = 1 → (Q (some (vI 0)) (mem (some 22, some 5, some 22) (si (si I 3 2 1) 3 3 (gi I 1 6)) J)))) : WP k LAY m_X3_give 0 [(0, vR (some 3)), (1, vI x1)] [] (mem (some 22, some 5, some 22) I J) Q := by
  refine st_aload_n (pc' := 1) dX3_give_0 rfl rfl (j := 0) rfl ?_
  refine G_X3_15_3 dX3_give_1 (pc' := 4) rfl rfl ?_
  refine G_X3_39_1 dX3_give_4 (pc' := 7) rfl rfl ?_
  refine st_iconst (pc' := 8) dX3_give_7 rfl ?_
  refine st_icmp_eq (tg := 16) (pc' := 11) dX3_give_8 (by decide) rfl (gi_in _ _ _) (by decide) (fun c => ?_) (fun c => ?_)
  · replace h := h.1 c
    refine st_iconst (pc' := 17) dX3_give_16 rfl ?_
    refine st_istore_n (pc' := 18) (L' := [(2, vI 0), (0, vR (some 3)), (1, vI x1)]) dX3_give_17 rfl rfl (by decide) rfl ?_
    refine WP_sub (L' := [(0, vR (some 3)), (1, vI x1), (2, vI 0)]) [1, 2, 0] rfl ?_
    exact h
  · replace h := h.2 c
    refine st_aload_n (pc' := 12) dX3_give_11 rfl rfl (j := 0) rfl ?_
    refine st_callV (pc' := 15) (kc := k - 1) (E' := LAY) (cal := m_X3_refuseWord) (n := 0) (as := []) (S := []) dX3_give_12 rfl l_X3_67 k_X3_refuseWord rfl L_3 c_X3 rfl rfl (Nat.le_of_ble_eq_true rfl) (by omega) ⟨Nat.le_refl _, Nat.le_refl _, Nat.le_refl _, Nat.le_refl _⟩ (Q1 := fun r M' => WP k LAY m_X3_give 15 [(0, vR (some 3)), (1, vI x1)] (r.toList ++ []) M' Q) (WPm.of k_X3_refuseWord.1 (Nat.le_of_ble_eq_true rfl) (B_X3_refuseWord_0 (by omega) ?_)) (fun r M' q => q)
    change WP _ LAY m_X3_give 15 [(0, vR (some 3)), (1, vI x1)] [vI 0] (mem (some 22, some 5, some 22) (si (si I 3 2 1) 3 3 (gi I 1 6)) J) Q
    exact st_iret (ty := .boolean) dX3_give_15 rfl (by decide) rfl h
set_option maxRecDepth 20000 in
set_option maxHeartbeats 4000000 in
theorem B_X3_give_18 {k : Nat} {I : Nat → Nat → Int32} {J : Nat → Nat → Int64} {x1 : Int} {x2 : Int} {Q : Option AV → Mem → Prop} (hk : 1 ≤ k) (h : inR x2 ∧ ((4 ≤ x2 → (WPm (k - 1) LAY m_X7_giveName [vR (some 22), vI x1, vR (some 1)] (mem (some 22, some 5, some 22) I J) (retV (fun I3 J4 => WPm (k - 1) LAY m_X10_step [vR (some 1)] (mem (some 22, some 5, some 22) I3 J4) (retV (fun I6 J7 => Q (some (vI 1)) (mem (some 22, some 5, some 22) I6 J7)) (some 22, some 5, some 22))) (some 22, some 5, some 22)))) ∧ (¬ 4 ≤ x2 → (WPm (k - 1) LAY m_X7_findName [vR (some 22), vI x2, vR (some 1)] (mem (some 22, some 5, some 22) I J) (retI (fun v8 I9 J10 => inR v8 ∧ ((v8 = (-1) → (WP k LAY m_X3_give 18 [(0, vR (some 3)), (1, vI x1), (2, vI (x2 + 1))] [] (mem (some 22, some 5, some 22) I9 J10) Q)) ∧ (¬ v8 = (-1) → (Q (some (vI 0)) (mem (some 22, some 5, some 22) (si (si I9 3 2 2) 3 3 (gi I9 1 3)) J10))))) (some 22, some 5, some 22)))))) : WP k LAY m_X3_give 18 [(0, vR (some 3)), (1, vI x1), (2, vI x2)] [] (mem (some 22, some 5, some 22) I J) Q := by
  refine st_iload_n (pc' := 19) dX3_give_18 rfl rfl (j := 2) rfl ?_
  refine st_iconst (pc' := 20) dX3_give_19 rfl ?_
  obtain ⟨e1, h⟩ := h
  refine st_icmp_ge (tg := 58) (pc' := 23) dX3_give_20 (by decide) rfl e1 (by decide) (fun c => ?_) (fun c => ?_)
  · replace h := h.1 c
    refine st_aload_n (pc' := 59) dX3_give_58 rfl rfl (j := 0) rfl ?_
    refine G_X3_19_3 dX3_give_59 (pc' := 62) rfl rfl ?_
    refine st_iload_n (pc' := 63) dX3_give_62 rfl rfl (j := 1) rfl ?_
    refine st_aload_n (pc' := 64) dX3_give_63 rfl rfl (j := 0) rfl ?_
    refine G_X3_15_3 dX3_give_64 (pc' := 67) rfl rfl ?_
    refine st_callV (pc' := 70) (kc := k - 1) (E' := LAY) (cal := m_X7_giveName) (n := 2) (as := [vI x1, vR (some 1)]) (S := []) dX3_give_67 rfl l_X3_210 k_X7_giveName rfl L_22 c_X7 rfl rfl (Nat.le_of_ble_eq_true rfl) (by omega) ⟨Nat.le_refl _, Nat.le_refl _, Nat.le_refl _, Nat.le_refl _⟩ h (fun r M' q => ?_)
    obtain ⟨I3, J4, rfl, rfl, h⟩ := q
    change WP _ LAY m_X3_give 70 [(0, vR (some 3)), (1, vI x1), (2, vI x2)] [] (mem (some 22, some 5, some 22) I3 J4) Q
    refine st_aload_n (pc' := 71) dX3_give_70 rfl rfl (j := 0) rfl ?_
    refine G_X3_15_3 dX3_give_71 (pc' := 74) rfl rfl ?_
    refine st_callV (pc' := 77) (kc := k - 1) (E' := LAY) (cal := m_X10_step) (n := 0) (as := []) (S := []) dX3_give_74 rfl l_X3_74 k_X10_step rfl L_1 c_X10 rfl rfl (Nat.le_of_ble_eq_true rfl) (by omega) ⟨Nat.le_refl _, Nat.le_refl _, Nat.le_refl _, Nat.le_refl _⟩ h (fun r M' q => ?_)
    obtain ⟨I6, J7, rfl, rfl, h⟩ := q
    change WP _ LAY m_X3_give 77 [(0, vR (some 3)), (1, vI x1), (2, vI x2)] [] (mem (some 22, some 5, some 22) I6 J7) Q
    refine st_iconst (pc' := 78) dX3_give_77 rfl ?_
    exact st_iret (ty := .boolean) dX3_give_78 rfl (by decide) rfl h
  · replace h := h.2 c
    refine st_aload_n (pc' := 24) dX3_give_23 rfl rfl (j := 0) rfl ?_
    refine G_X3_19_3 dX3_give_24 (pc' := 27) rfl rfl ?_
    refine st_iload_n (pc' := 28) dX3_give_27 rfl rfl (j := 2) rfl ?_
    refine st_aload_n (pc' := 29) dX3_give_28 rfl rfl (j := 0) rfl ?_
    refine G_X3_15_3 dX3_give_29 (pc' := 32) rfl rfl ?_
    refine st_callV (pc' := 35) (kc := k - 1) (E' := LAY) (cal := m_X7_findName) (n := 2) (as := [vI x2, vR (some 1)]) (S := []) dX3_give_32 rfl l_X3_206 k_X7_findName rfl L_22 c_X7 rfl rfl (Nat.le_of_ble_eq_true rfl) (by omega) ⟨Nat.le_refl _, Nat.le_refl _, Nat.le_refl _, Nat.le_refl _⟩ h (fun r M' q => ?_)
    obtain ⟨v8, I9, J10, rfl, rfl, h⟩ := q
    change WP _ LAY m_X3_give 35 [(0, vR (some 3)), (1, vI x1), (2, vI x2)] [vI v8] (mem (some 22, some 5, some 22) I9 J10) Q
    refine st_iconst (pc' := 36) dX3_give_35 rfl ?_
    obtain ⟨e11, h⟩ := h
    refine st_icmp_eq (tg := 52) (pc' := 39) dX3_give_36 (by decide) rfl e11 (by decide) (fun c => ?_) (fun c => ?_)
    · replace h := h.1 c
      refine st_iinc (pc' := 55) (L' := [(2, vI (x2 + 1)), (0, vR (some 3)), (1, vI x1)]) (j := 2) dX3_give_52 rfl (by decide) rfl rfl ?_
      refine st_goto (pc' := 18) dX3_give_55 (by decide) ?_
      refine WP_sub (L' := [(0, vR (some 3)), (1, vI x1), (2, vI (x2 + 1))]) [1, 2, 0] rfl ?_
      exact h
    · replace h := h.2 c
      refine st_aload_n (pc' := 40) dX3_give_39 rfl rfl (j := 0) rfl ?_
      refine st_iconst (pc' := 41) dX3_give_40 rfl ?_
      refine st_aload_n (pc' := 42) dX3_give_41 rfl rfl (j := 0) rfl ?_
      refine G_X3_15_3 dX3_give_42 (pc' := 45) rfl rfl ?_
      refine G_X3_71_1 dX3_give_45 (pc' := 48) rfl rfl ?_
      refine st_callV (pc' := 51) (kc := k - 1) (E' := LAY) (cal := m_X3_fail) (n := 2) (as := [vI 2, vI (gi I9 1 3)]) (S := []) dX3_give_48 rfl l_X3_53 k_X3_fail rfl L_3 c_X3 rfl rfl (Nat.le_of_ble_eq_true rfl) (by omega) ⟨Nat.le_refl _, Nat.le_refl _, Nat.le_refl _, Nat.le_refl _⟩ (Q1 := fun r M' => WP k LAY m_X3_give 51 [(0, vR (some 3)), (1, vI x1), (2, vI x2)] (r.toList ++ []) M' Q) (WPm.of k_X3_fail.1 (Nat.le_of_ble_eq_true rfl) (B_X3_fail_0 (by omega) ?_)) (fun r M' q => q)
      change WP _ LAY m_X3_give 51 [(0, vR (some 3)), (1, vI x1), (2, vI x2)] [vI 0] (mem (some 22, some 5, some 22) (si (si I9 3 2 2) 3 3 (gi I9 1 3)) J10) Q
      exact st_iret (ty := .boolean) dX3_give_51 rfl (by decide) rfl h
set_option maxRecDepth 20000 in
set_option maxHeartbeats 4000000 in
theorem B_X3_isProductOperator_0 {k : Nat} {I : Nat → Nat → Int32} {J : Nat → Nat → Int64} {x0 : Int} {Q : Option AV → Mem → Prop} (hk : 0 ≤ k) (h : inR x0 ∧ ((x0 = 10102 → (Q (some (vI 1)) (mem (some 22, some 5, some 22) I J))) ∧ (¬ x0 = 10102 → ((x0 = 10103 → (Q (some (vI 1)) (mem (some 22, some 5, some 22) I J))) ∧ (¬ x0 = 10103 → ((¬ x0 = 10104 → (Q (some (vI 0)) (mem (some 22, some 5, some 22) I J))) ∧ (x0 = 10104 → (Q (some (vI 1)) (mem (some 22, some 5, some 22) I J))))))))) : WP k LAY m_X3_isProductOperator 0 [(0, vI x0)] [] (mem (some 22, some 5, some 22) I J) Q := by
  refine st_iload_n (pc' := 1) dX3_isProductOperator_0 rfl rfl (j := 0) rfl ?_
  refine st_sipush (pc' := 4) dX3_isProductOperator_1 rfl (by decide) ?_
  obtain ⟨e1, h⟩ := h
  refine st_icmp_eq (tg := 21) (pc' := 7) dX3_isProductOperator_4 (by decide) rfl e1 (by decide) (fun c => ?_) (fun c => ?_)
  · replace h := h.1 c
    refine st_iconst (pc' := 22) dX3_isProductOperator_21 rfl ?_
    refine st_goto (pc' := 26) dX3_isProductOperator_22 (by decide) ?_
    exact st_iret (ty := .boolean) dX3_isProductOperator_26 rfl (by decide) rfl h
  · replace h := h.2 c
    refine st_iload_n (pc' := 8) dX3_isProductOperator_7 rfl rfl (j := 0) rfl ?_
    refine st_sipush (pc' := 11) dX3_isProductOperator_8 rfl (by decide) ?_
    refine st_icmp_eq (tg := 21) (pc' := 14) dX3_isProductOperator_11 (by decide) rfl e1 (by decide) (fun c => ?_) (fun c => ?_)
    · replace h := h.1 c
      refine st_iconst (pc' := 22) dX3_isProductOperator_21 rfl ?_
      refine st_goto (pc' := 26) dX3_isProductOperator_22 (by decide) ?_
      exact st_iret (ty := .boolean) dX3_isProductOperator_26 rfl (by decide) rfl h
    · replace h := h.2 c
      refine st_iload_n (pc' := 15) dX3_isProductOperator_14 rfl rfl (j := 0) rfl ?_
      refine st_sipush (pc' := 18) dX3_isProductOperator_15 rfl (by decide) ?_
      refine st_icmp_ne (tg := 25) (pc' := 21) dX3_isProductOperator_18 (by decide) rfl e1 (by decide) (fun c => ?_) (fun c => ?_)
      · replace h := h.1 c
        refine st_iconst (pc' := 26) dX3_isProductOperator_25 rfl ?_
        exact st_iret (ty := .boolean) dX3_isProductOperator_26 rfl (by decide) rfl h
      · replace h := h.2 c
        refine st_iconst (pc' := 22) dX3_isProductOperator_21 rfl ?_
        refine st_goto (pc' := 26) dX3_isProductOperator_22 (by decide) ?_
        exact st_iret (ty := .boolean) dX3_isProductOperator_26 rfl (by decide) rfl h
set_option maxRecDepth 20000 in
set_option maxHeartbeats 4000000 in
theorem B_X3_isSumOperator_0 {k : Nat} {I : Nat → Nat → Int32} {J : Nat → Nat → Int64} {x0 : Int} {Q : Option AV → Mem → Prop} (hk : 0 ≤ k) (h : inR x0 ∧ ((x0 = 10100 → (Q (some (vI 1)) (mem (some 22, some 5, some 22) I J))) ∧ (¬ x0 = 10100 → ((¬ x0 = 10101 → (Q (some (vI 0)) (mem (some 22, some 5, some 22) I J))) ∧ (x0 = 10101 → (Q (some (vI 1)) (mem (some 22, some 5, some 22) I J))))))) : WP k LAY m_X3_isSumOperator 0 [(0, vI x0)] [] (mem (some 22, some 5, some 22) I J) Q := by
  refine st_iload_n (pc' := 1) dX3_isSumOperator_0 rfl rfl (j := 0) rfl ?_
  refine st_sipush (pc' := 4) dX3_isSumOperator_1 rfl (by decide) ?_
  obtain ⟨e1, h⟩ := h
  refine st_icmp_eq (tg := 14) (pc' := 7) dX3_isSumOperator_4 (by decide) rfl e1 (by decide) (fun c => ?_) (fun c => ?_)
  · replace h := h.1 c
    refine st_iconst (pc' := 15) dX3_isSumOperator_14 rfl ?_
    refine st_goto (pc' := 19) dX3_isSumOperator_15 (by decide) ?_
    exact st_iret (ty := .boolean) dX3_isSumOperator_19 rfl (by decide) rfl h
  · replace h := h.2 c
    refine st_iload_n (pc' := 8) dX3_isSumOperator_7 rfl rfl (j := 0) rfl ?_
    refine st_sipush (pc' := 11) dX3_isSumOperator_8 rfl (by decide) ?_
    refine st_icmp_ne (tg := 18) (pc' := 14) dX3_isSumOperator_11 (by decide) rfl e1 (by decide) (fun c => ?_) (fun c => ?_)
    · replace h := h.1 c
      refine st_iconst (pc' := 19) dX3_isSumOperator_18 rfl ?_
      exact st_iret (ty := .boolean) dX3_isSumOperator_19 rfl (by decide) rfl h
    · replace h := h.2 c
      refine st_iconst (pc' := 15) dX3_isSumOperator_14 rfl ?_
      refine st_goto (pc' := 19) dX3_isSumOperator_15 (by decide) ?_
      exact st_iret (ty := .boolean) dX3_isSumOperator_19 rfl (by decide) rfl h
set_option maxRecDepth 20000 in
set_option maxHeartbeats 4000000 in
theorem B_X3_isTestOperator_0 {k : Nat} {I : Nat → Nat → Int32} {J : Nat → Nat → Int64} {x0 : Int} {Q : Option AV → Mem → Prop} (hk : 0 ≤ k) (h : inR x0 ∧ ((x0 = 10107 → (Q (some (vI 1)) (mem (some 22, some 5, some 22) I J))) ∧ (¬ x0 = 10107 → ((x0 = 10108 → (Q (some (vI 1)) (mem (some 22, some 5, some 22) I J))) ∧ (¬ x0 = 10108 → ((¬ x0 = 10109 → (Q (some (vI 0)) (mem (some 22, some 5, some 22) I J))) ∧ (x0 = 10109 → (Q (some (vI 1)) (mem (some 22, some 5, some 22) I J))))))))) : WP k LAY m_X3_isTestOperator 0 [(0, vI x0)] [] (mem (some 22, some 5, some 22) I J) Q := by
  refine st_iload_n (pc' := 1) dX3_isTestOperator_0 rfl rfl (j := 0) rfl ?_
  refine st_sipush (pc' := 4) dX3_isTestOperator_1 rfl (by decide) ?_
  obtain ⟨e1, h⟩ := h
  refine st_icmp_eq (tg := 21) (pc' := 7) dX3_isTestOperator_4 (by decide) rfl e1 (by decide) (fun c => ?_) (fun c => ?_)
  · replace h := h.1 c
    refine st_iconst (pc' := 22) dX3_isTestOperator_21 rfl ?_
    refine st_goto (pc' := 26) dX3_isTestOperator_22 (by decide) ?_
    exact st_iret (ty := .boolean) dX3_isTestOperator_26 rfl (by decide) rfl h
  · replace h := h.2 c
    refine st_iload_n (pc' := 8) dX3_isTestOperator_7 rfl rfl (j := 0) rfl ?_
    refine st_sipush (pc' := 11) dX3_isTestOperator_8 rfl (by decide) ?_
    refine st_icmp_eq (tg := 21) (pc' := 14) dX3_isTestOperator_11 (by decide) rfl e1 (by decide) (fun c => ?_) (fun c => ?_)
    · replace h := h.1 c
      refine st_iconst (pc' := 22) dX3_isTestOperator_21 rfl ?_
      refine st_goto (pc' := 26) dX3_isTestOperator_22 (by decide) ?_
      exact st_iret (ty := .boolean) dX3_isTestOperator_26 rfl (by decide) rfl h
    · replace h := h.2 c
      refine st_iload_n (pc' := 15) dX3_isTestOperator_14 rfl rfl (j := 0) rfl ?_
      refine st_sipush (pc' := 18) dX3_isTestOperator_15 rfl (by decide) ?_
      refine st_icmp_ne (tg := 25) (pc' := 21) dX3_isTestOperator_18 (by decide) rfl e1 (by decide) (fun c => ?_) (fun c => ?_)
      · replace h := h.1 c
        refine st_iconst (pc' := 26) dX3_isTestOperator_25 rfl ?_
        exact st_iret (ty := .boolean) dX3_isTestOperator_26 rfl (by decide) rfl h
      · replace h := h.2 c
        refine st_iconst (pc' := 22) dX3_isTestOperator_21 rfl ?_
        refine st_goto (pc' := 26) dX3_isTestOperator_22 (by decide) ?_
        exact st_iret (ty := .boolean) dX3_isTestOperator_26 rfl (by decide) rfl h
set_option maxRecDepth 20000 in
set_option maxHeartbeats 4000000 in
theorem B_X3_isValue_0 {k : Nat} {I : Nat → Nat → Int32} {J : Nat → Nat → Int64} {x0 : Int} {Q : Option AV → Mem → Prop} (hk : 0 ≤ k) (h : inR x0 ∧ ((x0 = 3 → (Q (some (vI 1)) (mem (some 22, some 5, some 22) I J))) ∧ (¬ x0 = 3 → ((x0 = 7 → (Q (some (vI 1)) (mem (some 22, some 5, some 22) I J))) ∧ (¬ x0 = 7 → ((x0 = 8 → (Q (some (vI 1)) (mem (some 22, some 5, some 22) I J))) ∧ (¬ x0 = 8 → ((x0 = 10 → (Q (some (vI 1)) (mem (some 22, some 5, some 22) I J))) ∧ (¬ x0 = 10 → ((x0 = 11 → (Q (some (vI 1)) (mem (some 22, some 5, some 22) I J))) ∧ (¬ x0 = 11 → ((x0 = 15 → (Q (some (vI 1)) (mem (some 22, some 5, some 22) I J))) ∧ (¬ x0 = 15 → ((x0 = 16 → (Q (some (vI 1)) (mem (some 22, some 5, some 22) I J))) ∧ (¬ x0 = 16 → ((x0 = 17 → (Q (some (vI 1)) (mem (some 22, some 5, some 22) I J))) ∧ (¬ x0 = 17 → ((x0 = 18 → (Q (some (vI 1)) (mem (some 22, some 5, some 22) I J))) ∧ (¬ x0 = 18 → (Q (some (vI 0)) (mem (some 22, some 5, some 22) I J))))))))))))))))))))) : WP k LAY m_X3_isValue 0 [(0, vI x0)] [] (mem (some 22, some 5, some 22) I J) Q := by
  refine st_iload_n (pc' := 1) dX3_isValue_0 rfl rfl (j := 0) rfl ?_
  obtain ⟨e1, h⟩ := h
  by_cases c : x0 = 3
  · replace h := h.1 c
    refine st_tblIn (pc' := 80) (off := 79) dX3_isValue_1 e1 (by omega) (by rw [c]; rfl) (by decide) ?_
    refine st_iconst (pc' := 81) dX3_isValue_80 rfl ?_
    exact st_iret (ty := .boolean) dX3_isValue_81 rfl (by decide) rfl h
  replace h := h.2 c
  have c3 := c
  clear c
  by_cases c : x0 = 7
  · replace h := h.1 c
    refine st_tblIn (pc' := 80) (off := 79) dX3_isValue_1 e1 (by omega) (by rw [c]; rfl) (by decide) ?_
    refine st_iconst (pc' := 81) dX3_isValue_80 rfl ?_
    exact st_iret (ty := .boolean) dX3_isValue_81 rfl (by decide) rfl h
  replace h := h.2 c
  have c7 := c
  clear c
  by_cases c : x0 = 8
  · replace h := h.1 c
    refine st_tblIn (pc' := 80) (off := 79) dX3_isValue_1 e1 (by omega) (by rw [c]; rfl) (by decide) ?_
    refine st_iconst (pc' := 81) dX3_isValue_80 rfl ?_
    exact st_iret (ty := .boolean) dX3_isValue_81 rfl (by decide) rfl h
  replace h := h.2 c
  have c8 := c
  clear c
  by_cases c : x0 = 10
  · replace h := h.1 c
    refine st_tblIn (pc' := 80) (off := 79) dX3_isValue_1 e1 (by omega) (by rw [c]; rfl) (by decide) ?_
    refine st_iconst (pc' := 81) dX3_isValue_80 rfl ?_
    exact st_iret (ty := .boolean) dX3_isValue_81 rfl (by decide) rfl h
  replace h := h.2 c
  have c10 := c
  clear c
  by_cases c : x0 = 11
  · replace h := h.1 c
    refine st_tblIn (pc' := 80) (off := 79) dX3_isValue_1 e1 (by omega) (by rw [c]; rfl) (by decide) ?_
    refine st_iconst (pc' := 81) dX3_isValue_80 rfl ?_
    exact st_iret (ty := .boolean) dX3_isValue_81 rfl (by decide) rfl h
  replace h := h.2 c
  have c11 := c
  clear c
  by_cases c : x0 = 15
  · replace h := h.1 c
    refine st_tblIn (pc' := 80) (off := 79) dX3_isValue_1 e1 (by omega) (by rw [c]; rfl) (by decide) ?_
    refine st_iconst (pc' := 81) dX3_isValue_80 rfl ?_
    exact st_iret (ty := .boolean) dX3_isValue_81 rfl (by decide) rfl h
  replace h := h.2 c
  have c15 := c
  clear c
  by_cases c : x0 = 16
  · replace h := h.1 c
    refine st_tblIn (pc' := 80) (off := 79) dX3_isValue_1 e1 (by omega) (by rw [c]; rfl) (by decide) ?_
    refine st_iconst (pc' := 81) dX3_isValue_80 rfl ?_
    exact st_iret (ty := .boolean) dX3_isValue_81 rfl (by decide) rfl h
  replace h := h.2 c
  have c16 := c
  clear c
  by_cases c : x0 = 17
  · replace h := h.1 c
    refine st_tblIn (pc' := 80) (off := 79) dX3_isValue_1 e1 (by omega) (by rw [c]; rfl) (by decide) ?_
    refine st_iconst (pc' := 81) dX3_isValue_80 rfl ?_
    exact st_iret (ty := .boolean) dX3_isValue_81 rfl (by decide) rfl h
  replace h := h.2 c
  have c17 := c
  clear c
  by_cases c : x0 = 18
  · replace h := h.1 c
    refine st_tblIn (pc' := 80) (off := 79) dX3_isValue_1 e1 (by omega) (by rw [c]; rfl) (by decide) ?_
    refine st_iconst (pc' := 81) dX3_isValue_80 rfl ?_
    exact st_iret (ty := .boolean) dX3_isValue_81 rfl (by decide) rfl h
  replace h := h.2 c
  have c18 := c
  clear c
  have go : WP k LAY m_X3_isValue 82 [(0, vI x0)] [] (mem (some 22, some 5, some 22) I J) Q := by
    refine st_iconst (pc' := 83) dX3_isValue_82 rfl ?_
    exact st_iret (ty := .boolean) dX3_isValue_83 rfl (by decide) rfl h
  by_cases c : x0 = 4
  · exact st_tblIn (pc' := 82) (off := 81) dX3_isValue_1 e1 (by omega) (by rw [c]; rfl) (by decide) go
  have c4 := c
  clear c
  by_cases c : x0 = 5
  · exact st_tblIn (pc' := 82) (off := 81) dX3_isValue_1 e1 (by omega) (by rw [c]; rfl) (by decide) go
  have c5 := c
  clear c
  by_cases c : x0 = 6
  · exact st_tblIn (pc' := 82) (off := 81) dX3_isValue_1 e1 (by omega) (by rw [c]; rfl) (by decide) go
  have c6 := c
  clear c
  by_cases c : x0 = 9
  · exact st_tblIn (pc' := 82) (off := 81) dX3_isValue_1 e1 (by omega) (by rw [c]; rfl) (by decide) go
  have c9 := c
  clear c
  by_cases c : x0 = 12
  · exact st_tblIn (pc' := 82) (off := 81) dX3_isValue_1 e1 (by omega) (by rw [c]; rfl) (by decide) go
  have c12 := c
  clear c
  by_cases c : x0 = 13
  · exact st_tblIn (pc' := 82) (off := 81) dX3_isValue_1 e1 (by omega) (by rw [c]; rfl) (by decide) go
  have c13 := c
  clear c
  by_cases c : x0 = 14
  · exact st_tblIn (pc' := 82) (off := 81) dX3_isValue_1 e1 (by omega) (by rw [c]; rfl) (by decide) go
  have c14 := c
  clear c
  exact st_tblOut (pc' := 82) dX3_isValue_1 e1 (by omega) (by decide) go
set_option maxRecDepth 20000 in
set_option maxHeartbeats 4000000 in
theorem B_X3_openOne_0 {k : Nat} {I : Nat → Nat → Int32} {J : Nat → Nat → Int64}  {Q : Option AV → Mem → Prop} (hk : 1 ≤ k) (h : (¬ (gi I 3 4) = 7 → (WPm (k - 1) LAY m_X10_step [vR (some 1)] (mem (some 22, some 5, some 22) (si I 3 4 ((gi I 3 4) + 1)) J) (retV (fun I2 J3 => Q (some (vI 1)) (mem (some 22, some 5, some 22) I2 J3)) (some 22, some 5, some 22)))) ∧ ((gi I 3 4) = 7 → (Q (some (vI 0)) (mem (some 22, some 5, some 22) (si (si I 3 2 5) 3 3 (gi I 1 3)) J)))) : WP k LAY m_X3_openOne 0 [(0, vR (some 3))] [] (mem (some 22, some 5, some 22) I J) Q := by
  refine st_aload_n (pc' := 1) dX3_openOne_0 rfl rfl (j := 0) rfl ?_
  refine G_X3_31_3 dX3_openOne_1 (pc' := 4) rfl rfl ?_
  refine st_bipush (pc' := 6) dX3_openOne_4 rfl (by decide) ?_
  refine st_icmp_ne (tg := 22) (pc' := 9) dX3_openOne_6 (by decide) rfl (gi_in _ _ _) (by decide) (fun c => ?_) (fun c => ?_)
  · replace h := h.1 c
    refine st_aload_n (pc' := 23) dX3_openOne_22 rfl rfl (j := 0) rfl ?_
    refine st_dup (pc' := 24) dX3_openOne_23 rfl rfl ?_
    refine G_X3_31_3 dX3_openOne_24 (pc' := 27) rfl rfl ?_
    refine st_iconst (pc' := 28) dX3_openOne_27 rfl ?_
    refine st_iadd (pc' := 29) dX3_openOne_28 rfl ?_
    refine P_X3_31_3 dX3_openOne_29 (pc' := 32) rfl rfl ?_
    refine st_aload_n (pc' := 33) dX3_openOne_32 rfl rfl (j := 0) rfl ?_
    refine G_X3_15_3 dX3_openOne_33 (pc' := 36) rfl rfl ?_
    refine st_callV (pc' := 39) (kc := k - 1) (E' := LAY) (cal := m_X10_step) (n := 0) (as := []) (S := []) dX3_openOne_36 rfl l_X3_74 k_X10_step rfl L_1 c_X10 rfl rfl (Nat.le_of_ble_eq_true rfl) (by omega) ⟨Nat.le_refl _, Nat.le_refl _, Nat.le_refl _, Nat.le_refl _⟩ h (fun r M' q => ?_)
    obtain ⟨I2, J3, rfl, rfl, h⟩ := q
    change WP _ LAY m_X3_openOne 39 [(0, vR (some 3))] [] (mem (some 22, some 5, some 22) I2 J3) Q
    refine st_iconst (pc' := 40) dX3_openOne_39 rfl ?_
    exact st_iret (ty := .boolean) dX3_openOne_40 rfl (by decide) rfl h
  · replace h := h.2 c
    refine st_aload_n (pc' := 10) dX3_openOne_9 rfl rfl (j := 0) rfl ?_
    refine st_iconst (pc' := 11) dX3_openOne_10 rfl ?_
    refine st_aload_n (pc' := 12) dX3_openOne_11 rfl rfl (j := 0) rfl ?_
    refine G_X3_15_3 dX3_openOne_12 (pc' := 15) rfl rfl ?_
    refine G_X3_71_1 dX3_openOne_15 (pc' := 18) rfl rfl ?_
    refine st_callV (pc' := 21) (kc := k - 1) (E' := LAY) (cal := m_X3_fail) (n := 2) (as := [vI 5, vI (gi I 1 3)]) (S := []) dX3_openOne_18 rfl l_X3_53 k_X3_fail rfl L_3 c_X3 rfl rfl (Nat.le_of_ble_eq_true rfl) (by omega) ⟨Nat.le_refl _, Nat.le_refl _, Nat.le_refl _, Nat.le_refl _⟩ (Q1 := fun r M' => WP k LAY m_X3_openOne 21 [(0, vR (some 3))] (r.toList ++ []) M' Q) (WPm.of k_X3_fail.1 (Nat.le_of_ble_eq_true rfl) (B_X3_fail_0 (by omega) ?_)) (fun r M' q => q)
    change WP _ LAY m_X3_openOne 21 [(0, vR (some 3))] [vI 0] (mem (some 22, some 5, some 22) (si (si I 3 2 5) 3 3 (gi I 1 3)) J) Q
    exact st_iret (ty := .boolean) dX3_openOne_21 rfl (by decide) rfl h
set_option maxRecDepth 20000 in
set_option maxHeartbeats 4000000 in
theorem B_X3_roomFor_0 {k : Nat} {I : Nat → Nat → Int32} {J : Nat → Nat → Int64} {x1 : Int} {Q : Option AV → Mem → Prop} (hk : 1 ≤ k) (h : inR x1 ∧ ((x1 = 0 → (Q (some (vI (5 - (gi I 23 0)))) (mem (some 22, some 5, some 22) I J))) ∧ (¬ x1 = 0 → ((x1 = 1 → (Q (some (vI (14 - (gi I 23 1)))) (mem (some 22, some 5, some 22) I J))) ∧ (¬ x1 = 1 → ((x1 = 5 → (Q (some (vI (20 - (gi I 22 14)))) (mem (some 22, some 5, some 22) I J))) ∧ (¬ x1 = 5 → ((x1 = 6 → (Q (some (vI (6 - (gi I 23 2)))) (mem (some 22, some 5, some 22) I J))) ∧ (¬ x1 = 6 → ((x1 = 9 → (Q (some (vI (5 - (gi I 23 3)))) (mem (some 22, some 5, some 22) I J))) ∧ (¬ x1 = 9 → ((x1 = 11 → (Q (some (vI 1)) (mem (some 22, some 5, some 22) I J))) ∧ (¬ x1 = 11 → ((x1 = 12 → ((¬ (0 < gi I 35 (0 : Int).toNat) → (Q (some (vI 1)) (mem (some 22, some 5, some 22) I J))) ∧ ((0 < gi I 35 (0 : Int).toNat) → (Q (some (vI 0)) (mem (some 22, some 5, some 22) I J))))) ∧ (¬ x1 = 12 → ((x1 = 13 → ((¬ (0 < gi I 35 (1 : Int).toNat) → (Q (some (vI 1)) (mem (some 22, some 5, some 22) I J))) ∧ ((0 < gi I 35 (1 : Int).toNat) → (Q (some (vI 0)) (mem (some 22, some 5, some 22) I J))))) ∧ (¬ x1 = 13 → ((x1 = 14 → ((¬ (0 < gi I 35 (2 : Int).toNat) → (Q (some (vI 1)) (mem (some 22, some 5, some 22) I J))) ∧ ((0 < gi I 35 (2 : Int).toNat) → (Q (some (vI 0)) (mem (some 22, some 5, some 22) I J))))) ∧ (¬ x1 = 14 → (Q (some (vI (-1))) (mem (some 22, some 5, some 22) I J))))))))))))))))))))) : WP k LAY m_X3_roomFor 0 [(0, vR (some 3)), (1, vI x1)] [] (mem (some 22, some 5, some 22) I J) Q := by
  refine st_iload_n (pc' := 1) dX3_roomFor_0 rfl rfl (j := 1) rfl ?_
  obtain ⟨e1, h⟩ := h
  by_cases c : x1 = 0
  · replace h := h.1 c
    refine st_tblIn (pc' := 76) (off := 75) dX3_roomFor_1 e1 (by omega) (by rw [c]; rfl) (by decide) ?_
    refine st_iconst (pc' := 77) dX3_roomFor_76 rfl ?_
    refine st_aload_n (pc' := 78) dX3_roomFor_77 rfl rfl (j := 0) rfl ?_
    refine G_X3_19_3 dX3_roomFor_78 (pc' := 81) rfl rfl ?_
    refine G_X3_46_22 dX3_roomFor_81 (pc' := 84) rfl rfl ?_
    refine st_iconst (pc' := 85) dX3_roomFor_84 rfl ?_
    refine st_iaload (pc' := 86) (v := (gi I 23 0)) dX3_roomFor_85 rfl L_23 (by decide) (by decide) (show gi I 23 0 = (gi I 23 0) from rfl) ?_
    refine st_isub (pc' := 87) dX3_roomFor_86 rfl ?_
    exact st_iret (ty := .int) dX3_roomFor_87 rfl rfl rfl h
  replace h := h.2 c
  have c0 := c
  clear c
  by_cases c : x1 = 1
  · replace h := h.1 c
    refine st_tblIn (pc' := 88) (off := 87) dX3_roomFor_1 e1 (by omega) (by rw [c]; rfl) (by decide) ?_
    refine st_bipush (pc' := 90) dX3_roomFor_88 rfl (by decide) ?_
    refine st_aload_n (pc' := 91) dX3_roomFor_90 rfl rfl (j := 0) rfl ?_
    refine G_X3_19_3 dX3_roomFor_91 (pc' := 94) rfl rfl ?_
    refine G_X3_46_22 dX3_roomFor_94 (pc' := 97) rfl rfl ?_
    refine st_iconst (pc' := 98) dX3_roomFor_97 rfl ?_
    refine st_iaload (pc' := 99) (v := (gi I 23 1)) dX3_roomFor_98 rfl L_23 (by decide) (by decide) (show gi I 23 1 = (gi I 23 1) from rfl) ?_
    refine st_isub (pc' := 100) dX3_roomFor_99 rfl ?_
    exact st_iret (ty := .int) dX3_roomFor_100 rfl rfl rfl h
  replace h := h.2 c
  have c1 := c
  clear c
  by_cases c : x1 = 5
  · replace h := h.1 c
    refine st_tblIn (pc' := 101) (off := 100) dX3_roomFor_1 e1 (by omega) (by rw [c]; rfl) (by decide) ?_
    refine st_bipush (pc' := 103) dX3_roomFor_101 rfl (by decide) ?_
    refine st_aload_n (pc' := 104) dX3_roomFor_103 rfl rfl (j := 0) rfl ?_
    refine G_X3_19_3 dX3_roomFor_104 (pc' := 107) rfl rfl ?_
    refine G_X3_110_22 dX3_roomFor_107 (pc' := 110) rfl rfl ?_
    refine st_isub (pc' := 111) dX3_roomFor_110 rfl ?_
    exact st_iret (ty := .int) dX3_roomFor_111 rfl rfl rfl h
  replace h := h.2 c
  have c5 := c
  clear c
  by_cases c : x1 = 6
  · replace h := h.1 c
    refine st_tblIn (pc' := 112) (off := 111) dX3_roomFor_1 e1 (by omega) (by rw [c]; rfl) (by decide) ?_
    refine st_bipush (pc' := 114) dX3_roomFor_112 rfl (by decide) ?_
    refine st_aload_n (pc' := 115) dX3_roomFor_114 rfl rfl (j := 0) rfl ?_
    refine G_X3_19_3 dX3_roomFor_115 (pc' := 118) rfl rfl ?_
    refine G_X3_46_22 dX3_roomFor_118 (pc' := 121) rfl rfl ?_
    refine st_iconst (pc' := 122) dX3_roomFor_121 rfl ?_
    refine st_iaload (pc' := 123) (v := (gi I 23 2)) dX3_roomFor_122 rfl L_23 (by decide) (by decide) (show gi I 23 2 = (gi I 23 2) from rfl) ?_
    refine st_isub (pc' := 124) dX3_roomFor_123 rfl ?_
    exact st_iret (ty := .int) dX3_roomFor_124 rfl rfl rfl h
  replace h := h.2 c
  have c6 := c
  clear c
  by_cases c : x1 = 9
  · replace h := h.1 c
    refine st_tblIn (pc' := 125) (off := 124) dX3_roomFor_1 e1 (by omega) (by rw [c]; rfl) (by decide) ?_
    refine st_iconst (pc' := 126) dX3_roomFor_125 rfl ?_
    refine st_aload_n (pc' := 127) dX3_roomFor_126 rfl rfl (j := 0) rfl ?_
    refine G_X3_19_3 dX3_roomFor_127 (pc' := 130) rfl rfl ?_
    refine G_X3_46_22 dX3_roomFor_130 (pc' := 133) rfl rfl ?_
    refine st_iconst (pc' := 134) dX3_roomFor_133 rfl ?_
    refine st_iaload (pc' := 135) (v := (gi I 23 3)) dX3_roomFor_134 rfl L_23 (by decide) (by decide) (show gi I 23 3 = (gi I 23 3) from rfl) ?_
    refine st_isub (pc' := 136) dX3_roomFor_135 rfl ?_
    exact st_iret (ty := .int) dX3_roomFor_136 rfl rfl rfl h
  replace h := h.2 c
  have c9 := c
  clear c
  by_cases c : x1 = 11
  · replace h := h.1 c
    refine st_tblIn (pc' := 137) (off := 136) dX3_roomFor_1 e1 (by omega) (by rw [c]; rfl) (by decide) ?_
    refine st_iconst (pc' := 138) dX3_roomFor_137 rfl ?_
    exact st_iret (ty := .int) dX3_roomFor_138 rfl rfl rfl h
  replace h := h.2 c
  have c11 := c
  clear c
  by_cases c : x1 = 12
  · replace h := h.1 c
    refine st_tblIn (pc' := 139) (off := 138) dX3_roomFor_1 e1 (by omega) (by rw [c]; rfl) (by decide) ?_
    refine st_aload_n (pc' := 140) dX3_roomFor_139 rfl rfl (j := 0) rfl ?_
    refine G_X3_19_3 dX3_roomFor_140 (pc' := 143) rfl rfl ?_
    refine st_iconst (pc' := 144) dX3_roomFor_143 rfl ?_
    refine st_callV (pc' := 147) (kc := k - 1) (E' := LAY) (cal := m_X7_hasRule) (n := 1) (as := [vI 0]) (S := []) dX3_roomFor_144 rfl l_X3_113 k_X7_hasRule rfl L_22 c_X7 rfl rfl (Nat.le_of_ble_eq_true rfl) (by omega) ⟨Nat.le_refl _, Nat.le_refl _, Nat.le_refl _, Nat.le_refl _⟩ (Q1 := fun r M' => WP k LAY m_X3_roomFor 147 [(0, vR (some 3)), (1, vI x1)] (r.toList ++ []) M' Q) (S_X7_hasRule_22 (by omega) (by decide) ?_) (fun r M' q => q)
    change WP _ LAY m_X3_roomFor 147 [(0, vR (some 3)), (1, vI x1)] [vI (b2i (0 < gi I 35 (0 : Int).toNat))] (mem (some 22, some 5, some 22) I J) Q
    refine st_if_eq (tg := 154) (pc' := 150) dX3_roomFor_147 (by decide) rfl (b2i_in _) (fun c => ?_) (fun c => ?_)
    · replace h := h.1 (b2i_f.mp c)
      refine st_iconst (pc' := 155) dX3_roomFor_154 rfl ?_
      exact st_iret (ty := .int) dX3_roomFor_155 rfl rfl rfl h
    · replace h := h.2 (b2i_t.mp c)
      refine st_iconst (pc' := 151) dX3_roomFor_150 rfl ?_
      refine st_goto (pc' := 155) dX3_roomFor_151 (by decide) ?_
      exact st_iret (ty := .int) dX3_roomFor_155 rfl rfl rfl h
  replace h := h.2 c
  have c12 := c
  clear c
  by_cases c : x1 = 13
  · replace h := h.1 c
    refine st_tblIn (pc' := 156) (off := 155) dX3_roomFor_1 e1 (by omega) (by rw [c]; rfl) (by decide) ?_
    refine st_aload_n (pc' := 157) dX3_roomFor_156 rfl rfl (j := 0) rfl ?_
    refine G_X3_19_3 dX3_roomFor_157 (pc' := 160) rfl rfl ?_
    refine st_iconst (pc' := 161) dX3_roomFor_160 rfl ?_
    refine st_callV (pc' := 164) (kc := k - 1) (E' := LAY) (cal := m_X7_hasRule) (n := 1) (as := [vI 1]) (S := []) dX3_roomFor_161 rfl l_X3_113 k_X7_hasRule rfl L_22 c_X7 rfl rfl (Nat.le_of_ble_eq_true rfl) (by omega) ⟨Nat.le_refl _, Nat.le_refl _, Nat.le_refl _, Nat.le_refl _⟩ (Q1 := fun r M' => WP k LAY m_X3_roomFor 164 [(0, vR (some 3)), (1, vI x1)] (r.toList ++ []) M' Q) (S_X7_hasRule_22 (by omega) (by decide) ?_) (fun r M' q => q)
    change WP _ LAY m_X3_roomFor 164 [(0, vR (some 3)), (1, vI x1)] [vI (b2i (0 < gi I 35 (1 : Int).toNat))] (mem (some 22, some 5, some 22) I J) Q
    refine st_if_eq (tg := 171) (pc' := 167) dX3_roomFor_164 (by decide) rfl (b2i_in _) (fun c => ?_) (fun c => ?_)
    · replace h := h.1 (b2i_f.mp c)
      refine st_iconst (pc' := 172) dX3_roomFor_171 rfl ?_
      exact st_iret (ty := .int) dX3_roomFor_172 rfl rfl rfl h
    · replace h := h.2 (b2i_t.mp c)
      refine st_iconst (pc' := 168) dX3_roomFor_167 rfl ?_
      refine st_goto (pc' := 172) dX3_roomFor_168 (by decide) ?_
      exact st_iret (ty := .int) dX3_roomFor_172 rfl rfl rfl h
  replace h := h.2 c
  have c13 := c
  clear c
  by_cases c : x1 = 14
  · replace h := h.1 c
    refine st_tblIn (pc' := 173) (off := 172) dX3_roomFor_1 e1 (by omega) (by rw [c]; rfl) (by decide) ?_
    refine st_aload_n (pc' := 174) dX3_roomFor_173 rfl rfl (j := 0) rfl ?_
    refine G_X3_19_3 dX3_roomFor_174 (pc' := 177) rfl rfl ?_
    refine st_iconst (pc' := 178) dX3_roomFor_177 rfl ?_
    refine st_callV (pc' := 181) (kc := k - 1) (E' := LAY) (cal := m_X7_hasRule) (n := 1) (as := [vI 2]) (S := []) dX3_roomFor_178 rfl l_X3_113 k_X7_hasRule rfl L_22 c_X7 rfl rfl (Nat.le_of_ble_eq_true rfl) (by omega) ⟨Nat.le_refl _, Nat.le_refl _, Nat.le_refl _, Nat.le_refl _⟩ (Q1 := fun r M' => WP k LAY m_X3_roomFor 181 [(0, vR (some 3)), (1, vI x1)] (r.toList ++ []) M' Q) (S_X7_hasRule_22 (by omega) (by decide) ?_) (fun r M' q => q)
    change WP _ LAY m_X3_roomFor 181 [(0, vR (some 3)), (1, vI x1)] [vI (b2i (0 < gi I 35 (2 : Int).toNat))] (mem (some 22, some 5, some 22) I J) Q
    refine st_if_eq (tg := 188) (pc' := 184) dX3_roomFor_181 (by decide) rfl (b2i_in _) (fun c => ?_) (fun c => ?_)
    · replace h := h.1 (b2i_f.mp c)
      refine st_iconst (pc' := 189) dX3_roomFor_188 rfl ?_
      exact st_iret (ty := .int) dX3_roomFor_189 rfl rfl rfl h
    · replace h := h.2 (b2i_t.mp c)
      refine st_iconst (pc' := 185) dX3_roomFor_184 rfl ?_
      refine st_goto (pc' := 189) dX3_roomFor_185 (by decide) ?_
      exact st_iret (ty := .int) dX3_roomFor_189 rfl rfl rfl h
  replace h := h.2 c
  have c14 := c
  clear c
  have go : WP k LAY m_X3_roomFor 190 [(0, vR (some 3)), (1, vI x1)] [] (mem (some 22, some 5, some 22) I J) Q := by
    refine st_iconst (pc' := 191) dX3_roomFor_190 rfl ?_
    exact st_iret (ty := .int) dX3_roomFor_191 rfl rfl rfl h
  by_cases c : x1 = 2
  · exact st_tblIn (pc' := 190) (off := 189) dX3_roomFor_1 e1 (by omega) (by rw [c]; rfl) (by decide) go
  have c2 := c
  clear c
  by_cases c : x1 = 3
  · exact st_tblIn (pc' := 190) (off := 189) dX3_roomFor_1 e1 (by omega) (by rw [c]; rfl) (by decide) go
  have c3 := c
  clear c
  by_cases c : x1 = 4
  · exact st_tblIn (pc' := 190) (off := 189) dX3_roomFor_1 e1 (by omega) (by rw [c]; rfl) (by decide) go
  have c4 := c
  clear c
  by_cases c : x1 = 7
  · exact st_tblIn (pc' := 190) (off := 189) dX3_roomFor_1 e1 (by omega) (by rw [c]; rfl) (by decide) go
  have c7 := c
  clear c
  by_cases c : x1 = 8
  · exact st_tblIn (pc' := 190) (off := 189) dX3_roomFor_1 e1 (by omega) (by rw [c]; rfl) (by decide) go
  have c8 := c
  clear c
  by_cases c : x1 = 10
  · exact st_tblIn (pc' := 190) (off := 189) dX3_roomFor_1 e1 (by omega) (by rw [c]; rfl) (by decide) go
  have c10 := c
  clear c
  exact st_tblOut (pc' := 190) dX3_roomFor_1 e1 (by omega) (by decide) go
set_option maxRecDepth 20000 in
set_option maxHeartbeats 4000000 in
theorem B_X3_wantOwn_0 {k : Nat} {I : Nat → Nat → Int32} {J : Nat → Nat → Int64} {x1 : Int} {Q : Option AV → Mem → Prop} (hk : 2 ≤ k) (h : inR x1 ∧ (((gi I 1 2 = 2 ∧ gi I 1 5 = x1) → (WPm (k - 1) LAY m_X10_step [vR (some 1)] (mem (some 22, some 5, some 22) I J) (retV (fun I3 J4 => Q (some (vI 1)) (mem (some 22, some 5, some 22) I3 J4)) (some 22, some 5, some 22)))) ∧ (¬ (gi I 1 2 = 2 ∧ gi I 1 5 = x1) → (Q (some (vI 0)) (mem (some 22, some 5, some 22) (si (si I 3 2 1) 3 3 (gi I 1 6)) J))))) : WP k LAY m_X3_wantOwn 0 [(0, vR (some 3)), (1, vI x1)] [] (mem (some 22, some 5, some 22) I J) Q := by
  refine st_aload_n (pc' := 1) dX3_wantOwn_0 rfl rfl (j := 0) rfl ?_
  refine G_X3_15_3 dX3_wantOwn_1 (pc' := 4) rfl rfl ?_
  refine st_iload_n (pc' := 5) dX3_wantOwn_4 rfl rfl (j := 1) rfl ?_
  obtain ⟨e1, h⟩ := h
  refine st_callV (pc' := 8) (kc := k - 1) (E' := LAY) (cal := m_X10_isOwn) (n := 1) (as := [vI x1]) (S := []) dX3_wantOwn_5 rfl l_X3_132 k_X10_isOwn rfl L_1 c_X10 rfl rfl (Nat.le_of_ble_eq_true rfl) (by omega) ⟨Nat.le_refl _, Nat.le_refl _, Nat.le_refl _, Nat.le_refl _⟩ (Q1 := fun r M' => WP k LAY m_X3_wantOwn 8 [(0, vR (some 3)), (1, vI x1)] (r.toList ++ []) M' Q) (S_X10_isOwn (by omega) e1 ?_) (fun r M' q => q)
  change WP _ LAY m_X3_wantOwn 8 [(0, vR (some 3)), (1, vI x1)] [vI (b2i (gi I 1 2 = 2 ∧ gi I 1 5 = x1))] (mem (some 22, some 5, some 22) I J) Q
  refine st_if_ne (tg := 16) (pc' := 11) dX3_wantOwn_8 (by decide) rfl (b2i_in _) (fun c => ?_) (fun c => ?_)
  · replace h := h.1 (b2i_t.mp c)
    refine st_aload_n (pc' := 17) dX3_wantOwn_16 rfl rfl (j := 0) rfl ?_
    refine G_X3_15_3 dX3_wantOwn_17 (pc' := 20) rfl rfl ?_
    refine st_callV (pc' := 23) (kc := k - 1) (E' := LAY) (cal := m_X10_step) (n := 0) (as := []) (S := []) dX3_wantOwn_20 rfl l_X3_74 k_X10_step rfl L_1 c_X10 rfl rfl (Nat.le_of_ble_eq_true rfl) (by omega) ⟨Nat.le_refl _, Nat.le_refl _, Nat.le_refl _, Nat.le_refl _⟩ h (fun r M' q => ?_)
    obtain ⟨I3, J4, rfl, rfl, h⟩ := q
    change WP _ LAY m_X3_wantOwn 23 [(0, vR (some 3)), (1, vI x1)] [] (mem (some 22, some 5, some 22) I3 J4) Q
    refine st_iconst (pc' := 24) dX3_wantOwn_23 rfl ?_
    exact st_iret (ty := .boolean) dX3_wantOwn_24 rfl (by decide) rfl h
  · replace h := h.2 (b2i_f.mp c)
    refine st_aload_n (pc' := 12) dX3_wantOwn_11 rfl rfl (j := 0) rfl ?_
    refine st_callV (pc' := 15) (kc := k - 1) (E' := LAY) (cal := m_X3_refuseWord) (n := 0) (as := []) (S := []) dX3_wantOwn_12 rfl l_X3_67 k_X3_refuseWord rfl L_3 c_X3 rfl rfl (Nat.le_of_ble_eq_true rfl) (by omega) ⟨Nat.le_refl _, Nat.le_refl _, Nat.le_refl _, Nat.le_refl _⟩ (Q1 := fun r M' => WP k LAY m_X3_wantOwn 15 [(0, vR (some 3)), (1, vI x1)] (r.toList ++ []) M' Q) (WPm.of k_X3_refuseWord.1 (Nat.le_of_ble_eq_true rfl) (B_X3_refuseWord_0 (by omega) ?_)) (fun r M' q => q)
    change WP _ LAY m_X3_wantOwn 15 [(0, vR (some 3)), (1, vI x1)] [vI 0] (mem (some 22, some 5, some 22) (si (si I 3 2 1) 3 3 (gi I 1 6)) J) Q
    exact st_iret (ty := .boolean) dX3_wantOwn_15 rfl (by decide) rfl h
set_option maxRecDepth 20000 in
set_option maxHeartbeats 4000000 in
theorem B_X3_tellPage_0 {k : Nat} {I : Nat → Nat → Int32} {J : Nat → Nat → Int64}  {Q : Option AV → Mem → Prop} (hk : 1 ≤ k) (h : WPm (k - 1) LAY m_X3_give [vR (some 3), vI 1] (mem (some 22, some 5, some 22) I J) (retI (fun v1 I2 J3 => inR v1 ∧ ((v1 = 0 → (Q (some (vI 0)) (mem (some 22, some 5, some 22) I2 J3))) ∧ (¬ v1 = 0 → (WPm (k - 1) LAY m_X3_wantOwn [vR (some 3), vI 2] (mem (some 22, some 5, some 22) I2 J3) (retI (fun v5 I6 J7 => inR v5 ∧ ((¬ v5 = 0 → (WPm (k - 1) LAY m_X3_askName [vR (some 3), vI 0] (mem (some 22, some 5, some 22) I6 J7) (retI (fun v9 I10 J11 => inR v9 ∧ ((¬ v9 = (-1) → ((0 ≤ (gi I 23 1) ∧ (gi I 23 1) < 14) ∧ (WPm (k - 1) LAY m_X10_step [vR (some 1)] (mem (some 22, some 5, some 22) (si I10 25 (gi I 23 1).toNat v9) J11) (retV (fun I15 J16 => WPm (k - 1) LAY m_X3_wantOwn [vR (some 3), vI 3] (mem (some 22, some 5, some 22) I15 J16) (retI (fun v17 I18 J19 => inR v17 ∧ ((v17 = 0 → (Q (some (vI 0)) (mem (some 22, some 5, some 22) I18 J19))) ∧ (¬ v17 = 0 → (WPm (k - 1) LAY m_X3_askNumber [vR (some 3), vI 1, vI 99] (mem (some 22, some 5, some 22) I18 J19) (retI (fun v21 I22 J23 => inR v21 ∧ ((¬ v21 = (-1) → ((¬ (gi (si I22 26 (gi I 23 1).toNat v21) 1 2 = 2 ∧ gi (si I22 26 (gi I 23 1).toNat v21) 1 5 = 4) → (Q (some (vI 1)) (mem (some 22, some 5, some 22) (si I22 26 (gi I 23 1).toNat v21) J23))) ∧ ((gi (si I22 26 (gi I 23 1).toNat v21) 1 2 = 2 ∧ gi (si I22 26 (gi I 23 1).toNat v21) 1 5 = 4) → (WPm (k - 1) LAY m_X10_step [vR (some 1)] (mem (some 22, some 5, some 22) (si (si I22 26 (gi I 23 1).toNat v21) 27 (gi I 23 1).toNat 1) J23) (retV (fun I26 J27 => Q (some (vI 1)) (mem (some 22, some 5, some 22) I26 J27)) (some 22, some 5, some 22)))))) ∧ (v21 = (-1) → (Q (some (vI 0)) (mem (some 22, some 5, some 22) I22 J23))))) (some 22, some 5, some 22)))))) (some 22, some 5, some 22))) (some 22, some 5, some 22))))) ∧ (v9 = (-1) → (Q (some (vI 0)) (mem (some 22, some 5, some 22) I10 J11))))) (some 22, some 5, some 22)))) ∧ (v5 = 0 → (Q (some (vI 0)) (mem (some 22, some 5, some 22) I6 J7))))) (some 22, some 5, some 22)))))) (some 22, some 5, some 22))) : WP k LAY m_X3_tellPage 0 [(0, vR (some 3))] [] (mem (some 22, some 5, some 22) I J) Q := by
  refine st_aload_n (pc' := 1) dX3_tellPage_0 rfl rfl (j := 0) rfl ?_
  refine G_X3_19_3 dX3_tellPage_1 (pc' := 4) rfl rfl ?_
  refine G_X3_46_22 dX3_tellPage_4 (pc' := 7) rfl rfl ?_
  refine st_iconst (pc' := 8) dX3_tellPage_7 rfl ?_
  refine st_iaload (pc' := 9) (v := (gi I 23 1)) dX3_tellPage_8 rfl L_23 (by decide) (by decide) (show gi I 23 1 = (gi I 23 1) from rfl) ?_
  refine st_istore_n (pc' := 10) (L' := [(1, vI (gi I 23 1)), (0, vR (some 3))]) dX3_tellPage_9 rfl rfl (by decide) rfl ?_
  refine st_aload_n (pc' := 11) dX3_tellPage_10 rfl rfl (j := 1) rfl ?_
  refine st_iconst (pc' := 12) dX3_tellPage_11 rfl ?_
  refine st_callV (pc' := 15) (kc := k - 1) (E' := LAY) (cal := m_X3_give) (n := 1) (as := [vI 1]) (S := []) dX3_tellPage_12 rfl l_X3_77 k_X3_give rfl L_3 c_X3 rfl rfl (Nat.le_of_ble_eq_true rfl) (by omega) ⟨Nat.le_refl _, Nat.le_refl _, Nat.le_refl _, Nat.le_refl _⟩ h (fun r M' q => ?_)
  obtain ⟨v1, I2, J3, rfl, rfl, h⟩ := q
  change WP _ LAY m_X3_tellPage 15 [(1, vI (gi I 23 1)), (0, vR (some 3))] [vI v1] (mem (some 22, some 5, some 22) I2 J3) Q
  obtain ⟨e4, h⟩ := h
  refine st_if_eq (tg := 26) (pc' := 18) dX3_tellPage_15 (by decide) rfl e4 (fun c => ?_) (fun c => ?_)
  · replace h := h.1 c
    refine st_iconst (pc' := 27) dX3_tellPage_26 rfl ?_
    exact st_iret (ty := .boolean) dX3_tellPage_27 rfl (by decide) rfl h
  · replace h := h.2 c
    refine st_aload_n (pc' := 19) dX3_tellPage_18 rfl rfl (j := 1) rfl ?_
    refine st_iconst (pc' := 20) dX3_tellPage_19 rfl ?_
    refine st_callV (pc' := 23) (kc := k - 1) (E' := LAY) (cal := m_X3_wantOwn) (n := 1) (as := [vI 2]) (S := []) dX3_tellPage_20 rfl l_X3_116 k_X3_wantOwn rfl L_3 c_X3 rfl rfl (Nat.le_of_ble_eq_true rfl) (by omega) ⟨Nat.le_refl _, Nat.le_refl _, Nat.le_refl _, Nat.le_refl _⟩ h (fun r M' q => ?_)
    obtain ⟨v5, I6, J7, rfl, rfl, h⟩ := q
    change WP _ LAY m_X3_tellPage 23 [(1, vI (gi I 23 1)), (0, vR (some 3))] [vI v5] (mem (some 22, some 5, some 22) I6 J7) Q
    obtain ⟨e8, h⟩ := h
    refine st_if_ne (tg := 28) (pc' := 26) dX3_tellPage_23 (by decide) rfl e8 (fun c => ?_) (fun c => ?_)
    · replace h := h.1 c
      refine st_aload_n (pc' := 29) dX3_tellPage_28 rfl rfl (j := 1) rfl ?_
      refine st_iconst (pc' := 30) dX3_tellPage_29 rfl ?_
      refine st_callV (pc' := 33) (kc := k - 1) (E' := LAY) (cal := m_X3_askName) (n := 1) (as := [vI 0]) (S := []) dX3_tellPage_30 rfl l_X3_119 k_X3_askName rfl L_3 c_X3 rfl rfl (Nat.le_of_ble_eq_true rfl) (by omega) ⟨Nat.le_refl _, Nat.le_refl _, Nat.le_refl _, Nat.le_refl _⟩ h (fun r M' q => ?_)
      obtain ⟨v9, I10, J11, rfl, rfl, h⟩ := q
      change WP _ LAY m_X3_tellPage 33 [(1, vI (gi I 23 1)), (0, vR (some 3))] [vI v9] (mem (some 22, some 5, some 22) I10 J11) Q
      refine st_istore_n (pc' := 34) (L' := [(2, vI v9), (1, vI (gi I 23 1)), (0, vR (some 3))]) dX3_tellPage_33 rfl rfl (by decide) rfl ?_
      refine st_iload_n (pc' := 35) dX3_tellPage_34 rfl rfl (j := 0) rfl ?_
      refine st_iconst (pc' := 36) dX3_tellPage_35 rfl ?_
      obtain ⟨e12, h⟩ := h
      refine st_icmp_ne (tg := 41) (pc' := 39) dX3_tellPage_36 (by decide) rfl e12 (by decide) (fun c => ?_) (fun c => ?_)
      · replace h := h.1 c
        refine st_aload_n (pc' := 42) dX3_tellPage_41 rfl rfl (j := 2) rfl ?_
        refine G_X3_19_3 dX3_tellPage_42 (pc' := 45) rfl rfl ?_
        refine G_X3_122_22 dX3_tellPage_45 (pc' := 48) rfl rfl ?_
        refine st_iload_n (pc' := 49) dX3_tellPage_48 rfl rfl (j := 1) rfl ?_
        refine st_iload_n (pc' := 50) dX3_tellPage_49 rfl rfl (j := 0) rfl ?_
        obtain ⟨e13, h⟩ := h
        refine st_iastore (pc' := 51) (M' := (mem (some 22, some 5, some 22) (si I10 25 (gi I 23 1).toNat v9) J11)) dX3_tellPage_50 rfl L_25 (by decide) e13 rfl ?_
        refine st_aload_n (pc' := 52) dX3_tellPage_51 rfl rfl (j := 2) rfl ?_
        refine G_X3_15_3 dX3_tellPage_52 (pc' := 55) rfl rfl ?_
        refine st_callV (pc' := 58) (kc := k - 1) (E' := LAY) (cal := m_X10_step) (n := 0) (as := []) (S := []) dX3_tellPage_55 rfl l_X3_74 k_X10_step rfl L_1 c_X10 rfl rfl (Nat.le_of_ble_eq_true rfl) (by omega) ⟨Nat.le_refl _, Nat.le_refl _, Nat.le_refl _, Nat.le_refl _⟩ h (fun r M' q => ?_)
        obtain ⟨I15, J16, rfl, rfl, h⟩ := q
        change WP _ LAY m_X3_tellPage 58 [(2, vI v9), (1, vI (gi I 23 1)), (0, vR (some 3))] [] (mem (some 22, some 5, some 22) I15 J16) Q
        refine st_aload_n (pc' := 59) dX3_tellPage_58 rfl rfl (j := 2) rfl ?_
        refine st_iconst (pc' := 60) dX3_tellPage_59 rfl ?_
        refine st_callV (pc' := 63) (kc := k - 1) (E' := LAY) (cal := m_X3_wantOwn) (n := 1) (as := [vI 3]) (S := []) dX3_tellPage_60 rfl l_X3_116 k_X3_wantOwn rfl L_3 c_X3 rfl rfl (Nat.le_of_ble_eq_true rfl) (by omega) ⟨Nat.le_refl _, Nat.le_refl _, Nat.le_refl _, Nat.le_refl _⟩ h (fun r M' q => ?_)
        obtain ⟨v17, I18, J19, rfl, rfl, h⟩ := q
        change WP _ LAY m_X3_tellPage 63 [(2, vI v9), (1, vI (gi I 23 1)), (0, vR (some 3))] [vI v17] (mem (some 22, some 5, some 22) I18 J19) Q
        obtain ⟨e20, h⟩ := h
        refine st_if_eq (tg := 76) (pc' := 66) dX3_tellPage_63 (by decide) rfl e20 (fun c => ?_) (fun c => ?_)
        · replace h := h.1 c
          refine st_iconst (pc' := 77) dX3_tellPage_76 rfl ?_
          refine st_istore_n (pc' := 78) (L' := [(3, vI (-1)), (2, vI v9), (1, vI (gi I 23 1)), (0, vR (some 3))]) dX3_tellPage_77 rfl rfl (by decide) rfl ?_
          refine st_iload_n (pc' := 79) dX3_tellPage_78 rfl rfl (j := 0) rfl ?_
          refine st_iconst (pc' := 80) dX3_tellPage_79 rfl ?_
          refine st_icmp_ne (tg := 85) (pc' := 83) dX3_tellPage_80 (by decide) rfl (by decide) (by decide) (fun c => ?_) (fun c => ?_)
          · exact absurd c (by decide)
          · refine st_iconst (pc' := 84) dX3_tellPage_83 rfl ?_
            exact st_iret (ty := .boolean) dX3_tellPage_84 rfl (by decide) rfl h
        · replace h := h.2 c
          refine st_aload_n (pc' := 67) dX3_tellPage_66 rfl rfl (j := 2) rfl ?_
          refine st_iconst (pc' := 68) dX3_tellPage_67 rfl ?_
          refine st_bipush (pc' := 70) dX3_tellPage_68 rfl (by decide) ?_
          refine st_callV (pc' := 73) (kc := k - 1) (E' := LAY) (cal := m_X3_askNumber) (n := 2) (as := [vI 1, vI 99]) (S := []) dX3_tellPage_70 rfl l_X3_125 k_X3_askNumber rfl L_3 c_X3 rfl rfl (Nat.le_of_ble_eq_true rfl) (by omega) ⟨Nat.le_refl _, Nat.le_refl _, Nat.le_refl _, Nat.le_refl _⟩ h (fun r M' q => ?_)
          obtain ⟨v21, I22, J23, rfl, rfl, h⟩ := q
          change WP _ LAY m_X3_tellPage 73 [(2, vI v9), (1, vI (gi I 23 1)), (0, vR (some 3))] [vI v21] (mem (some 22, some 5, some 22) I22 J23) Q
          refine st_goto (pc' := 77) dX3_tellPage_73 (by decide) ?_
          refine st_istore_n (pc' := 78) (L' := [(3, vI v21), (2, vI v9), (1, vI (gi I 23 1)), (0, vR (some 3))]) dX3_tellPage_77 rfl rfl (by decide) rfl ?_
          refine st_iload_n (pc' := 79) dX3_tellPage_78 rfl rfl (j := 0) rfl ?_
          refine st_iconst (pc' := 80) dX3_tellPage_79 rfl ?_
          obtain ⟨e24, h⟩ := h
          refine st_icmp_ne (tg := 85) (pc' := 83) dX3_tellPage_80 (by decide) rfl e24 (by decide) (fun c => ?_) (fun c => ?_)
          · replace h := h.1 c
            refine st_aload_n (pc' := 86) dX3_tellPage_85 rfl rfl (j := 3) rfl ?_
            refine G_X3_19_3 dX3_tellPage_86 (pc' := 89) rfl rfl ?_
            refine G_X3_129_22 dX3_tellPage_89 (pc' := 92) rfl rfl ?_
            refine st_iload_n (pc' := 93) dX3_tellPage_92 rfl rfl (j := 2) rfl ?_
            refine st_iload_n (pc' := 94) dX3_tellPage_93 rfl rfl (j := 0) rfl ?_
            refine st_iastore (pc' := 95) (M' := (mem (some 22, some 5, some 22) (si I22 26 (gi I 23 1).toNat v21) J23)) dX3_tellPage_94 rfl L_26 (by decide) e13 rfl ?_
            refine st_aload_n (pc' := 96) dX3_tellPage_95 rfl rfl (j := 3) rfl ?_
            refine G_X3_15_3 dX3_tellPage_96 (pc' := 99) rfl rfl ?_
            refine st_iconst (pc' := 100) dX3_tellPage_99 rfl ?_
            refine st_callV (pc' := 103) (kc := k - 1) (E' := LAY) (cal := m_X10_isOwn) (n := 1) (as := [vI 4]) (S := []) dX3_tellPage_100 rfl l_X3_132 k_X10_isOwn rfl L_1 c_X10 rfl rfl (Nat.le_of_ble_eq_true rfl) (by omega) ⟨Nat.le_refl _, Nat.le_refl _, Nat.le_refl _, Nat.le_refl _⟩ (Q1 := fun r M' => WP k LAY m_X3_tellPage 103 [(3, vI v21), (2, vI v9), (1, vI (gi I 23 1)), (0, vR (some 3))] (r.toList ++ []) M' Q) (S_X10_isOwn (by omega) (by decide) ?_) (fun r M' q => q)
            change WP _ LAY m_X3_tellPage 103 [(3, vI v21), (2, vI v9), (1, vI (gi I 23 1)), (0, vR (some 3))] [vI (b2i (gi (si I22 26 (gi I 23 1).toNat v21) 1 2 = 2 ∧ gi (si I22 26 (gi I 23 1).toNat v21) 1 5 = 4))] (mem (some 22, some 5, some 22) (si I22 26 (gi I 23 1).toNat v21) J23) Q
            refine st_if_eq (tg := 123) (pc' := 106) dX3_tellPage_103 (by decide) rfl (b2i_in _) (fun c => ?_) (fun c => ?_)
            · replace h := h.1 (b2i_f.mp c)
              refine st_iconst (pc' := 124) dX3_tellPage_123 rfl ?_
              exact st_iret (ty := .boolean) dX3_tellPage_124 rfl (by decide) rfl h
            · replace h := h.2 (b2i_t.mp c)
              refine st_aload_n (pc' := 107) dX3_tellPage_106 rfl rfl (j := 3) rfl ?_
              refine G_X3_19_3 dX3_tellPage_107 (pc' := 110) rfl rfl ?_
              refine G_X3_135_22 dX3_tellPage_110 (pc' := 113) rfl rfl ?_
              refine st_iload_n (pc' := 114) dX3_tellPage_113 rfl rfl (j := 2) rfl ?_
              refine st_iconst (pc' := 115) dX3_tellPage_114 rfl ?_
              refine st_iastore (pc' := 116) (M' := (mem (some 22, some 5, some 22) (si (si I22 26 (gi I 23 1).toNat v21) 27 (gi I 23 1).toNat 1) J23)) dX3_tellPage_115 rfl L_27 (by decide) e13 rfl ?_
              refine st_aload_n (pc' := 117) dX3_tellPage_116 rfl rfl (j := 3) rfl ?_
              refine G_X3_15_3 dX3_tellPage_117 (pc' := 120) rfl rfl ?_
              refine st_callV (pc' := 123) (kc := k - 1) (E' := LAY) (cal := m_X10_step) (n := 0) (as := []) (S := []) dX3_tellPage_120 rfl l_X3_74 k_X10_step rfl L_1 c_X10 rfl rfl (Nat.le_of_ble_eq_true rfl) (by omega) ⟨Nat.le_refl _, Nat.le_refl _, Nat.le_refl _, Nat.le_refl _⟩ h (fun r M' q => ?_)
              obtain ⟨I26, J27, rfl, rfl, h⟩ := q
              change WP _ LAY m_X3_tellPage 123 [(3, vI v21), (2, vI v9), (1, vI (gi I 23 1)), (0, vR (some 3))] [] (mem (some 22, some 5, some 22) I26 J27) Q
              refine st_iconst (pc' := 124) dX3_tellPage_123 rfl ?_
              exact st_iret (ty := .boolean) dX3_tellPage_124 rfl (by decide) rfl h
          · replace h := h.2 c
            refine st_iconst (pc' := 84) dX3_tellPage_83 rfl ?_
            exact st_iret (ty := .boolean) dX3_tellPage_84 rfl (by decide) rfl h
      · replace h := h.2 c
        refine st_iconst (pc' := 40) dX3_tellPage_39 rfl ?_
        exact st_iret (ty := .boolean) dX3_tellPage_40 rfl (by decide) rfl h
    · replace h := h.2 c
      refine st_iconst (pc' := 27) dX3_tellPage_26 rfl ?_
      exact st_iret (ty := .boolean) dX3_tellPage_27 rfl (by decide) rfl h
set_option maxRecDepth 20000 in
set_option maxHeartbeats 4000000 in
theorem B_X3_tellNeed_0 {k : Nat} {I : Nat → Nat → Int32} {J : Nat → Nat → Int64}  {Q : Option AV → Mem → Prop} (hk : 1 ≤ k) (h : WPm (k - 1) LAY m_X3_askName [vR (some 3), vI 1] (mem (some 22, some 5, some 22) I J) (retI (fun v1 I2 J3 => inR v1 ∧ ((¬ v1 = (-1) → (WPm (k - 1) LAY m_X10_step [vR (some 1)] (mem (some 22, some 5, some 22) I2 J3) (retV (fun I6 J7 => WPm (k - 1) LAY m_X3_askName [vR (some 3), vI 1] (mem (some 22, some 5, some 22) I6 J7) (retI (fun v8 I9 J10 => inR v8 ∧ ((¬ v8 = (-1) → ((v1 ≤ v8 → (Q (some (vI 0)) (mem (some 22, some 5, some 22) (si (si I9 3 2 3) 3 3 (gi I9 1 3)) J10))) ∧ (¬ v1 ≤ v8 → ((0 ≤ v1 ∧ v1 < 14) ∧ (((and32 (gi I9 28 (v1).toNat) (shl32 1 v8)) = 0 → (WPm (k - 1) LAY m_X10_step [vR (some 1)] (mem (some 22, some 5, some 22) (si (si I9 28 (v1).toNat (or32 (gi I9 28 (v1).toNat) (shl32 1 v8))) 22 14 ((gi I9 22 14) + 1)) J10) (retV (fun I14 J15 => Q (some (vI 1)) (mem (some 22, some 5, some 22) I14 J15)) (some 22, some 5, some 22)))) ∧ (¬ (and32 (gi I9 28 (v1).toNat) (shl32 1 v8)) = 0 → (Q (some (vI 0)) (mem (some 22, some 5, some 22) (si (si I9 3 2 3) 3 3 (gi I9 1 3)) J10)))))))) ∧ (v8 = (-1) → (Q (some (vI 0)) (mem (some 22, some 5, some 22) I9 J10))))) (some 22, some 5, some 22))) (some 22, some 5, some 22)))) ∧ (v1 = (-1) → (Q (some (vI 0)) (mem (some 22, some 5, some 22) I2 J3))))) (some 22, some 5, some 22))) : WP k LAY m_X3_tellNeed 0 [(0, vR (some 3))] [] (mem (some 22, some 5, some 22) I J) Q := by
  refine st_aload_n (pc' := 1) dX3_tellNeed_0 rfl rfl (j := 0) rfl ?_
  refine st_iconst (pc' := 2) dX3_tellNeed_1 rfl ?_
  refine st_callV (pc' := 5) (kc := k - 1) (E' := LAY) (cal := m_X3_askName) (n := 1) (as := [vI 1]) (S := []) dX3_tellNeed_2 rfl l_X3_119 k_X3_askName rfl L_3 c_X3 rfl rfl (Nat.le_of_ble_eq_true rfl) (by omega) ⟨Nat.le_refl _, Nat.le_refl _, Nat.le_refl _, Nat.le_refl _⟩ h (fun r M' q => ?_)
  obtain ⟨v1, I2, J3, rfl, rfl, h⟩ := q
  change WP _ LAY m_X3_tellNeed 5 [(0, vR (some 3))] [vI v1] (mem (some 22, some 5, some 22) I2 J3) Q
  refine st_istore_n (pc' := 6) (L' := [(1, vI v1), (0, vR (some 3))]) dX3_tellNeed_5 rfl rfl (by decide) rfl ?_
  refine st_iload_n (pc' := 7) dX3_tellNeed_6 rfl rfl (j := 0) rfl ?_
  refine st_iconst (pc' := 8) dX3_tellNeed_7 rfl ?_
  obtain ⟨e4, h⟩ := h
  refine st_icmp_ne (tg := 13) (pc' := 11) dX3_tellNeed_8 (by decide) rfl e4 (by decide) (fun c => ?_) (fun c => ?_)
  · replace h := h.1 c
    refine st_aload_n (pc' := 14) dX3_tellNeed_13 rfl rfl (j := 1) rfl ?_
    refine G_X3_15_3 dX3_tellNeed_14 (pc' := 17) rfl rfl ?_
    refine st_callV (pc' := 20) (kc := k - 1) (E' := LAY) (cal := m_X10_step) (n := 0) (as := []) (S := []) dX3_tellNeed_17 rfl l_X3_74 k_X10_step rfl L_1 c_X10 rfl rfl (Nat.le_of_ble_eq_true rfl) (by omega) ⟨Nat.le_refl _, Nat.le_refl _, Nat.le_refl _, Nat.le_refl _⟩ h (fun r M' q => ?_)
    obtain ⟨I6, J7, rfl, rfl, h⟩ := q
    change WP _ LAY m_X3_tellNeed 20 [(1, vI v1), (0, vR (some 3))] [] (mem (some 22, some 5, some 22) I6 J7) Q
    refine st_aload_n (pc' := 21) dX3_tellNeed_20 rfl rfl (j := 1) rfl ?_
    refine st_iconst (pc' := 22) dX3_tellNeed_21 rfl ?_
    refine st_callV (pc' := 25) (kc := k - 1) (E' := LAY) (cal := m_X3_askName) (n := 1) (as := [vI 1]) (S := []) dX3_tellNeed_22 rfl l_X3_119 k_X3_askName rfl L_3 c_X3 rfl rfl (Nat.le_of_ble_eq_true rfl) (by omega) ⟨Nat.le_refl _, Nat.le_refl _, Nat.le_refl _, Nat.le_refl _⟩ h (fun r M' q => ?_)
    obtain ⟨v8, I9, J10, rfl, rfl, h⟩ := q
    change WP _ LAY m_X3_tellNeed 25 [(1, vI v1), (0, vR (some 3))] [vI v8] (mem (some 22, some 5, some 22) I9 J10) Q
    refine st_istore_n (pc' := 26) (L' := [(2, vI v8), (1, vI v1), (0, vR (some 3))]) dX3_tellNeed_25 rfl rfl (by decide) rfl ?_
    refine st_iload_n (pc' := 27) dX3_tellNeed_26 rfl rfl (j := 0) rfl ?_
    refine st_iconst (pc' := 28) dX3_tellNeed_27 rfl ?_
    obtain ⟨e11, h⟩ := h
    refine st_icmp_ne (tg := 33) (pc' := 31) dX3_tellNeed_28 (by decide) rfl e11 (by decide) (fun c => ?_) (fun c => ?_)
    · replace h := h.1 c
      refine st_iload_n (pc' := 34) dX3_tellNeed_33 rfl rfl (j := 0) rfl ?_
      refine st_iload_n (pc' := 35) dX3_tellNeed_34 rfl rfl (j := 1) rfl ?_
      refine st_icmp_ge (tg := 54) (pc' := 38) dX3_tellNeed_35 (by decide) rfl e11 e4 (fun c => ?_) (fun c => ?_)
      · replace h := h.1 c
        refine st_aload_n (pc' := 55) dX3_tellNeed_54 rfl rfl (j := 2) rfl ?_
        refine st_iconst (pc' := 56) dX3_tellNeed_55 rfl ?_
        refine st_aload_n (pc' := 57) dX3_tellNeed_56 rfl rfl (j := 2) rfl ?_
        refine G_X3_15_3 dX3_tellNeed_57 (pc' := 60) rfl rfl ?_
        refine G_X3_71_1 dX3_tellNeed_60 (pc' := 63) rfl rfl ?_
        refine st_callV (pc' := 66) (kc := k - 1) (E' := LAY) (cal := m_X3_fail) (n := 2) (as := [vI 3, vI (gi I9 1 3)]) (S := []) dX3_tellNeed_63 rfl l_X3_53 k_X3_fail rfl L_3 c_X3 rfl rfl (Nat.le_of_ble_eq_true rfl) (by omega) ⟨Nat.le_refl _, Nat.le_refl _, Nat.le_refl _, Nat.le_refl _⟩ (Q1 := fun r M' => WP k LAY m_X3_tellNeed 66 [(2, vI v8), (1, vI v1), (0, vR (some 3))] (r.toList ++ []) M' Q) (WPm.of k_X3_fail.1 (Nat.le_of_ble_eq_true rfl) (B_X3_fail_0 (by omega) ?_)) (fun r M' q => q)
        change WP _ LAY m_X3_tellNeed 66 [(2, vI v8), (1, vI v1), (0, vR (some 3))] [vI 0] (mem (some 22, some 5, some 22) (si (si I9 3 2 3) 3 3 (gi I9 1 3)) J10) Q
        exact st_iret (ty := .boolean) dX3_tellNeed_66 rfl (by decide) rfl h
      · replace h := h.2 c
        refine st_aload_n (pc' := 39) dX3_tellNeed_38 rfl rfl (j := 2) rfl ?_
        refine G_X3_19_3 dX3_tellNeed_39 (pc' := 42) rfl rfl ?_
        refine G_X3_138_22 dX3_tellNeed_42 (pc' := 45) rfl rfl ?_
        refine st_iload_n (pc' := 46) dX3_tellNeed_45 rfl rfl (j := 1) rfl ?_
        obtain ⟨e12, h⟩ := h
        refine st_iaload (pc' := 47) (v := (gi I9 28 (v1).toNat)) dX3_tellNeed_46 rfl L_28 (by decide) e12 (show gi I9 28 (v1).toNat = (gi I9 28 (v1).toNat) from rfl) ?_
        refine st_iconst (pc' := 48) dX3_tellNeed_47 rfl ?_
        refine st_iload_n (pc' := 49) dX3_tellNeed_48 rfl rfl (j := 0) rfl ?_
        refine st_ishl (pc' := 50) (z := (shl32 1 v8)) dX3_tellNeed_49 rfl rfl ?_
        refine st_iand (pc' := 51) (z := (and32 (gi I9 28 (v1).toNat) (shl32 1 v8))) dX3_tellNeed_50 rfl rfl ?_
        refine st_if_eq (tg := 67) (pc' := 54) dX3_tellNeed_51 (by decide) rfl (and32_in _ _) (fun c => ?_) (fun c => ?_)
        · replace h := h.1 c
          refine st_aload_n (pc' := 68) dX3_tellNeed_67 rfl rfl (j := 2) rfl ?_
          refine G_X3_19_3 dX3_tellNeed_68 (pc' := 71) rfl rfl ?_
          refine G_X3_138_22 dX3_tellNeed_71 (pc' := 74) rfl rfl ?_
          refine st_iload_n (pc' := 75) dX3_tellNeed_74 rfl rfl (j := 1) rfl ?_
          refine st_dup2 (pc' := 76) dX3_tellNeed_75 rfl rfl rfl ?_
          refine st_iaload (pc' := 77) (v := (gi I9 28 (v1).toNat)) dX3_tellNeed_76 rfl L_28 (by decide) e12 (show gi I9 28 (v1).toNat = (gi I9 28 (v1).toNat) from rfl) ?_
          refine st_iconst (pc' := 78) dX3_tellNeed_77 rfl ?_
          refine st_iload_n (pc' := 79) dX3_tellNeed_78 rfl rfl (j := 0) rfl ?_
          refine st_ishl (pc' := 80) (z := (shl32 1 v8)) dX3_tellNeed_79 rfl rfl ?_
          refine st_ior (pc' := 81) (z := (or32 (gi I9 28 (v1).toNat) (shl32 1 v8))) dX3_tellNeed_80 rfl rfl ?_
          refine st_iastore (pc' := 82) (M' := (mem (some 22, some 5, some 22) (si I9 28 (v1).toNat (or32 (gi I9 28 (v1).toNat) (shl32 1 v8))) J10)) dX3_tellNeed_81 rfl L_28 (by decide) e12 rfl ?_
          refine st_aload_n (pc' := 83) dX3_tellNeed_82 rfl rfl (j := 2) rfl ?_
          refine G_X3_19_3 dX3_tellNeed_83 (pc' := 86) rfl rfl ?_
          refine st_dup (pc' := 87) dX3_tellNeed_86 rfl rfl ?_
          refine G_X3_110_22 dX3_tellNeed_87 (pc' := 90) rfl rfl ?_
          rw [show gi (si I9 28 (v1).toNat (or32 (gi I9 28 (v1).toNat) (shl32 1 v8))) 22 14 = (gi I9 22 14) from (gi_cell _ _ _ _ (by decide))]
          refine st_iconst (pc' := 91) dX3_tellNeed_90 rfl ?_
          refine st_iadd (pc' := 92) dX3_tellNeed_91 rfl ?_
          refine P_X3_110_22 dX3_tellNeed_92 (pc' := 95) rfl rfl ?_
          refine st_aload_n (pc' := 96) dX3_tellNeed_95 rfl rfl (j := 2) rfl ?_
          refine G_X3_15_3 dX3_tellNeed_96 (pc' := 99) rfl rfl ?_
          refine st_callV (pc' := 102) (kc := k - 1) (E' := LAY) (cal := m_X10_step) (n := 0) (as := []) (S := []) dX3_tellNeed_99 rfl l_X3_74 k_X10_step rfl L_1 c_X10 rfl rfl (Nat.le_of_ble_eq_true rfl) (by omega) ⟨Nat.le_refl _, Nat.le_refl _, Nat.le_refl _, Nat.le_refl _⟩ h (fun r M' q => ?_)
          obtain ⟨I14, J15, rfl, rfl, h⟩ := q
          change WP _ LAY m_X3_tellNeed 102 [(2, vI v8), (1, vI v1), (0, vR (some 3))] [] (mem (some 22, some 5, some 22) I14 J15) Q
          refine st_iconst (pc' := 103) dX3_tellNeed_102 rfl ?_
          exact st_iret (ty := .boolean) dX3_tellNeed_103 rfl (by decide) rfl h
        · replace h := h.2 c
          refine st_aload_n (pc' := 55) dX3_tellNeed_54 rfl rfl (j := 2) rfl ?_
          refine st_iconst (pc' := 56) dX3_tellNeed_55 rfl ?_
          refine st_aload_n (pc' := 57) dX3_tellNeed_56 rfl rfl (j := 2) rfl ?_
          refine G_X3_15_3 dX3_tellNeed_57 (pc' := 60) rfl rfl ?_
          refine G_X3_71_1 dX3_tellNeed_60 (pc' := 63) rfl rfl ?_
          refine st_callV (pc' := 66) (kc := k - 1) (E' := LAY) (cal := m_X3_fail) (n := 2) (as := [vI 3, vI (gi I9 1 3)]) (S := []) dX3_tellNeed_63 rfl l_X3_53 k_X3_fail rfl L_3 c_X3 rfl rfl (Nat.le_of_ble_eq_true rfl) (by omega) ⟨Nat.le_refl _, Nat.le_refl _, Nat.le_refl _, Nat.le_refl _⟩ (Q1 := fun r M' => WP k LAY m_X3_tellNeed 66 [(2, vI v8), (1, vI v1), (0, vR (some 3))] (r.toList ++ []) M' Q) (WPm.of k_X3_fail.1 (Nat.le_of_ble_eq_true rfl) (B_X3_fail_0 (by omega) ?_)) (fun r M' q => q)
          change WP _ LAY m_X3_tellNeed 66 [(2, vI v8), (1, vI v1), (0, vR (some 3))] [vI 0] (mem (some 22, some 5, some 22) (si (si I9 3 2 3) 3 3 (gi I9 1 3)) J10) Q
          exact st_iret (ty := .boolean) dX3_tellNeed_66 rfl (by decide) rfl h
    · replace h := h.2 c
      refine st_iconst (pc' := 32) dX3_tellNeed_31 rfl ?_
      exact st_iret (ty := .boolean) dX3_tellNeed_32 rfl (by decide) rfl h
  · replace h := h.2 c
    refine st_iconst (pc' := 12) dX3_tellNeed_11 rfl ?_
    exact st_iret (ty := .boolean) dX3_tellNeed_12 rfl (by decide) rfl h
set_option maxRecDepth 20000 in
set_option maxHeartbeats 4000000 in
theorem B_X3_tellReader_0 {k : Nat} {I : Nat → Nat → Int32} {J : Nat → Nat → Int64}  {Q : Option AV → Mem → Prop} (hk : 1 ≤ k) (h : WPm (k - 1) LAY m_X3_give [vR (some 3), vI 2] (mem (some 22, some 5, some 22) I J) (retI (fun v1 I2 J3 => inR v1 ∧ ((v1 = 0 → (Q (some (vI 0)) (mem (some 22, some 5, some 22) I2 J3))) ∧ (¬ v1 = 0 → (WPm (k - 1) LAY m_X3_wantOwn [vR (some 3), vI 7] (mem (some 22, some 5, some 22) I2 J3) (retI (fun v5 I6 J7 => inR v5 ∧ ((v5 = 0 → (Q (some (vI 0)) (mem (some 22, some 5, some 22) I6 J7))) ∧ (¬ v5 = 0 → (WPm (k - 1) LAY m_X3_askNumber [vR (some 3), vI 1, vI 9] (mem (some 22, some 5, some 22) I6 J7) (retI (fun v9 I10 J11 => inR v9 ∧ ((¬ v9 = (-1) → ((0 ≤ (gi I 23 2) ∧ (gi I 23 2) < 6) ∧ (WPm (k - 1) LAY m_X3_wantOwn [vR (some 3), vI 8] (mem (some 22, some 5, some 22) (si I10 30 (gi I 23 2).toNat v9) J11) (retI (fun v14 I15 J16 => inR v14 ∧ ((v14 = 0 → (Q (some (vI 0)) (mem (some 22, some 5, some 22) I15 J16))) ∧ (¬ v14 = 0 → (WPm (k - 1) LAY m_X3_askNumber [vR (some 3), vI 0, vI 9] (mem (some 22, some 5, some 22) I15 J16) (retI (fun v18 I19 J20 => inR v18 ∧ ((¬ v18 = (-1) → (Q (some (vI 1)) (mem (some 22, some 5, some 22) (si I19 31 (gi I 23 2).toNat v18) J20))) ∧ (v18 = (-1) → (Q (some (vI 0)) (mem (some 22, some 5, some 22) I19 J20))))) (some 22, some 5, some 22)))))) (some 22, some 5, some 22))))) ∧ (v9 = (-1) → (Q (some (vI 0)) (mem (some 22, some 5, some 22) I10 J11))))) (some 22, some 5, some 22)))))) (some 22, some 5, some 22)))))) (some 22, some 5, some 22))) : WP k LAY m_X3_tellReader 0 [(0, vR (some 3))] [] (mem (some 22, some 5, some 22) I J) Q := by
  refine st_aload_n (pc' := 1) dX3_tellReader_0 rfl rfl (j := 0) rfl ?_
  refine G_X3_19_3 dX3_tellReader_1 (pc' := 4) rfl rfl ?_
  refine G_X3_46_22 dX3_tellReader_4 (pc' := 7) rfl rfl ?_
  refine st_iconst (pc' := 8) dX3_tellReader_7 rfl ?_
  refine st_iaload (pc' := 9) (v := (gi I 23 2)) dX3_tellReader_8 rfl L_23 (by decide) (by decide) (show gi I 23 2 = (gi I 23 2) from rfl) ?_
  refine st_istore_n (pc' := 10) (L' := [(1, vI (gi I 23 2)), (0, vR (some 3))]) dX3_tellReader_9 rfl rfl (by decide) rfl ?_
  refine st_aload_n (pc' := 11) dX3_tellReader_10 rfl rfl (j := 1) rfl ?_
  refine st_iconst (pc' := 12) dX3_tellReader_11 rfl ?_
  refine st_callV (pc' := 15) (kc := k - 1) (E' := LAY) (cal := m_X3_give) (n := 1) (as := [vI 2]) (S := []) dX3_tellReader_12 rfl l_X3_77 k_X3_give rfl L_3 c_X3 rfl rfl (Nat.le_of_ble_eq_true rfl) (by omega) ⟨Nat.le_refl _, Nat.le_refl _, Nat.le_refl _, Nat.le_refl _⟩ h (fun r M' q => ?_)
  obtain ⟨v1, I2, J3, rfl, rfl, h⟩ := q
  change WP _ LAY m_X3_tellReader 15 [(1, vI (gi I 23 2)), (0, vR (some 3))] [vI v1] (mem (some 22, some 5, some 22) I2 J3) Q
  obtain ⟨e4, h⟩ := h
  refine st_if_eq (tg := 37) (pc' := 18) dX3_tellReader_15 (by decide) rfl e4 (fun c => ?_) (fun c => ?_)
  · replace h := h.1 c
    refine st_iconst (pc' := 38) dX3_tellReader_37 rfl ?_
    refine st_istore_n (pc' := 39) (L' := [(2, vI (-1)), (1, vI (gi I 23 2)), (0, vR (some 3))]) dX3_tellReader_38 rfl rfl (by decide) rfl ?_
    refine st_iload_n (pc' := 40) dX3_tellReader_39 rfl rfl (j := 0) rfl ?_
    refine st_iconst (pc' := 41) dX3_tellReader_40 rfl ?_
    refine st_icmp_ne (tg := 46) (pc' := 44) dX3_tellReader_41 (by decide) rfl (by decide) (by decide) (fun c => ?_) (fun c => ?_)
    · exact absurd c (by decide)
    · refine st_iconst (pc' := 45) dX3_tellReader_44 rfl ?_
      exact st_iret (ty := .boolean) dX3_tellReader_45 rfl (by decide) rfl h
  · replace h := h.2 c
    refine st_aload_n (pc' := 19) dX3_tellReader_18 rfl rfl (j := 1) rfl ?_
    refine st_bipush (pc' := 21) dX3_tellReader_19 rfl (by decide) ?_
    refine st_callV (pc' := 24) (kc := k - 1) (E' := LAY) (cal := m_X3_wantOwn) (n := 1) (as := [vI 7]) (S := []) dX3_tellReader_21 rfl l_X3_116 k_X3_wantOwn rfl L_3 c_X3 rfl rfl (Nat.le_of_ble_eq_true rfl) (by omega) ⟨Nat.le_refl _, Nat.le_refl _, Nat.le_refl _, Nat.le_refl _⟩ h (fun r M' q => ?_)
    obtain ⟨v5, I6, J7, rfl, rfl, h⟩ := q
    change WP _ LAY m_X3_tellReader 24 [(1, vI (gi I 23 2)), (0, vR (some 3))] [vI v5] (mem (some 22, some 5, some 22) I6 J7) Q
    obtain ⟨e8, h⟩ := h
    refine st_if_eq (tg := 37) (pc' := 27) dX3_tellReader_24 (by decide) rfl e8 (fun c => ?_) (fun c => ?_)
    · replace h := h.1 c
      refine st_iconst (pc' := 38) dX3_tellReader_37 rfl ?_
      refine st_istore_n (pc' := 39) (L' := [(2, vI (-1)), (1, vI (gi I 23 2)), (0, vR (some 3))]) dX3_tellReader_38 rfl rfl (by decide) rfl ?_
      refine st_iload_n (pc' := 40) dX3_tellReader_39 rfl rfl (j := 0) rfl ?_
      refine st_iconst (pc' := 41) dX3_tellReader_40 rfl ?_
      refine st_icmp_ne (tg := 46) (pc' := 44) dX3_tellReader_41 (by decide) rfl (by decide) (by decide) (fun c => ?_) (fun c => ?_)
      · exact absurd c (by decide)
      · refine st_iconst (pc' := 45) dX3_tellReader_44 rfl ?_
        exact st_iret (ty := .boolean) dX3_tellReader_45 rfl (by decide) rfl h
    · replace h := h.2 c
      refine st_aload_n (pc' := 28) dX3_tellReader_27 rfl rfl (j := 1) rfl ?_
      refine st_iconst (pc' := 29) dX3_tellReader_28 rfl ?_
      refine st_bipush (pc' := 31) dX3_tellReader_29 rfl (by decide) ?_
      refine st_callV (pc' := 34) (kc := k - 1) (E' := LAY) (cal := m_X3_askNumber) (n := 2) (as := [vI 1, vI 9]) (S := []) dX3_tellReader_31 rfl l_X3_125 k_X3_askNumber rfl L_3 c_X3 rfl rfl (Nat.le_of_ble_eq_true rfl) (by omega) ⟨Nat.le_refl _, Nat.le_refl _, Nat.le_refl _, Nat.le_refl _⟩ h (fun r M' q => ?_)
      obtain ⟨v9, I10, J11, rfl, rfl, h⟩ := q
      change WP _ LAY m_X3_tellReader 34 [(1, vI (gi I 23 2)), (0, vR (some 3))] [vI v9] (mem (some 22, some 5, some 22) I10 J11) Q
      refine st_goto (pc' := 38) dX3_tellReader_34 (by decide) ?_
      refine st_istore_n (pc' := 39) (L' := [(2, vI v9), (1, vI (gi I 23 2)), (0, vR (some 3))]) dX3_tellReader_38 rfl rfl (by decide) rfl ?_
      refine st_iload_n (pc' := 40) dX3_tellReader_39 rfl rfl (j := 0) rfl ?_
      refine st_iconst (pc' := 41) dX3_tellReader_40 rfl ?_
      obtain ⟨e12, h⟩ := h
      refine st_icmp_ne (tg := 46) (pc' := 44) dX3_tellReader_41 (by decide) rfl e12 (by decide) (fun c => ?_) (fun c => ?_)
      · replace h := h.1 c
        refine st_aload_n (pc' := 47) dX3_tellReader_46 rfl rfl (j := 2) rfl ?_
        refine G_X3_19_3 dX3_tellReader_47 (pc' := 50) rfl rfl ?_
        refine G_X3_141_22 dX3_tellReader_50 (pc' := 53) rfl rfl ?_
        refine st_iload_n (pc' := 54) dX3_tellReader_53 rfl rfl (j := 1) rfl ?_
        refine st_iload_n (pc' := 55) dX3_tellReader_54 rfl rfl (j := 0) rfl ?_
        obtain ⟨e13, h⟩ := h
        refine st_iastore (pc' := 56) (M' := (mem (some 22, some 5, some 22) (si I10 30 (gi I 23 2).toNat v9) J11)) dX3_tellReader_55 rfl L_30 (by decide) e13 rfl ?_
        refine st_aload_n (pc' := 57) dX3_tellReader_56 rfl rfl (j := 2) rfl ?_
        refine st_bipush (pc' := 59) dX3_tellReader_57 rfl (by decide) ?_
        refine st_callV (pc' := 62) (kc := k - 1) (E' := LAY) (cal := m_X3_wantOwn) (n := 1) (as := [vI 8]) (S := []) dX3_tellReader_59 rfl l_X3_116 k_X3_wantOwn rfl L_3 c_X3 rfl rfl (Nat.le_of_ble_eq_true rfl) (by omega) ⟨Nat.le_refl _, Nat.le_refl _, Nat.le_refl _, Nat.le_refl _⟩ h (fun r M' q => ?_)
        obtain ⟨v14, I15, J16, rfl, rfl, h⟩ := q
        change WP _ LAY m_X3_tellReader 62 [(2, vI v9), (1, vI (gi I 23 2)), (0, vR (some 3))] [vI v14] (mem (some 22, some 5, some 22) I15 J16) Q
        obtain ⟨e17, h⟩ := h
        refine st_if_eq (tg := 75) (pc' := 65) dX3_tellReader_62 (by decide) rfl e17 (fun c => ?_) (fun c => ?_)
        · replace h := h.1 c
          refine st_iconst (pc' := 76) dX3_tellReader_75 rfl ?_
          refine st_istore_n (pc' := 77) (L' := [(3, vI (-1)), (2, vI v9), (1, vI (gi I 23 2)), (0, vR (some 3))]) dX3_tellReader_76 rfl rfl (by decide) rfl ?_
          refine st_iload_n (pc' := 78) dX3_tellReader_77 rfl rfl (j := 0) rfl ?_
          refine st_iconst (pc' := 79) dX3_tellReader_78 rfl ?_
          refine st_icmp_ne (tg := 84) (pc' := 82) dX3_tellReader_79 (by decide) rfl (by decide) (by decide) (fun c => ?_) (fun c => ?_)
          · exact absurd c (by decide)
          · refine st_iconst (pc' := 83) dX3_tellReader_82 rfl ?_
            exact st_iret (ty := .boolean) dX3_tellReader_83 rfl (by decide) rfl h
        · replace h := h.2 c
          refine st_aload_n (pc' := 66) dX3_tellReader_65 rfl rfl (j := 2) rfl ?_
          refine st_iconst (pc' := 67) dX3_tellReader_66 rfl ?_
          refine st_bipush (pc' := 69) dX3_tellReader_67 rfl (by decide) ?_
          refine st_callV (pc' := 72) (kc := k - 1) (E' := LAY) (cal := m_X3_askNumber) (n := 2) (as := [vI 0, vI 9]) (S := []) dX3_tellReader_69 rfl l_X3_125 k_X3_askNumber rfl L_3 c_X3 rfl rfl (Nat.le_of_ble_eq_true rfl) (by omega) ⟨Nat.le_refl _, Nat.le_refl _, Nat.le_refl _, Nat.le_refl _⟩ h (fun r M' q => ?_)
          obtain ⟨v18, I19, J20, rfl, rfl, h⟩ := q
          change WP _ LAY m_X3_tellReader 72 [(2, vI v9), (1, vI (gi I 23 2)), (0, vR (some 3))] [vI v18] (mem (some 22, some 5, some 22) I19 J20) Q
          refine st_goto (pc' := 76) dX3_tellReader_72 (by decide) ?_
          refine st_istore_n (pc' := 77) (L' := [(3, vI v18), (2, vI v9), (1, vI (gi I 23 2)), (0, vR (some 3))]) dX3_tellReader_76 rfl rfl (by decide) rfl ?_
          refine st_iload_n (pc' := 78) dX3_tellReader_77 rfl rfl (j := 0) rfl ?_
          refine st_iconst (pc' := 79) dX3_tellReader_78 rfl ?_
          obtain ⟨e21, h⟩ := h
          refine st_icmp_ne (tg := 84) (pc' := 82) dX3_tellReader_79 (by decide) rfl e21 (by decide) (fun c => ?_) (fun c => ?_)
          · replace h := h.1 c
            refine st_aload_n (pc' := 85) dX3_tellReader_84 rfl rfl (j := 3) rfl ?_
            refine G_X3_19_3 dX3_tellReader_85 (pc' := 88) rfl rfl ?_
            refine G_X3_144_22 dX3_tellReader_88 (pc' := 91) rfl rfl ?_
            refine st_iload_n (pc' := 92) dX3_tellReader_91 rfl rfl (j := 2) rfl ?_
            refine st_iload_n (pc' := 93) dX3_tellReader_92 rfl rfl (j := 0) rfl ?_
            refine st_iastore (pc' := 94) (M' := (mem (some 22, some 5, some 22) (si I19 31 (gi I 23 2).toNat v18) J20)) dX3_tellReader_93 rfl L_31 (by decide) e13 rfl ?_
            refine st_iconst (pc' := 95) dX3_tellReader_94 rfl ?_
            exact st_iret (ty := .boolean) dX3_tellReader_95 rfl (by decide) rfl h
          · replace h := h.2 c
            refine st_iconst (pc' := 83) dX3_tellReader_82 rfl ?_
            exact st_iret (ty := .boolean) dX3_tellReader_83 rfl (by decide) rfl h
      · replace h := h.2 c
        refine st_iconst (pc' := 45) dX3_tellReader_44 rfl ?_
        exact st_iret (ty := .boolean) dX3_tellReader_45 rfl (by decide) rfl h
set_option maxRecDepth 20000 in
set_option maxHeartbeats 4000000 in
theorem B_X3_tellTable_0 {k : Nat} {I : Nat → Nat → Int32} {J : Nat → Nat → Int64}  {Q : Option AV → Mem → Prop} (hk : 1 ≤ k) (h : WPm (k - 1) LAY m_X3_give [vR (some 3), vI 3] (mem (some 22, some 5, some 22) I J) (retI (fun v1 I2 J3 => inR v1 ∧ ((v1 = 0 → (Q (some (vI 0)) (mem (some 22, some 5, some 22) I2 J3))) ∧ (¬ v1 = 0 → (WPm (k - 1) LAY m_X3_wantOwn [vR (some 3), vI 10] (mem (some 22, some 5, some 22) I2 J3) (retI (fun v5 I6 J7 => inR v5 ∧ ((v5 = 0 → (Q (some (vI 0)) (mem (some 22, some 5, some 22) I6 J7))) ∧ (¬ v5 = 0 → (WPm (k - 1) LAY m_X3_askNumber [vR (some 3), vI 0, vI 9] (mem (some 22, some 5, some 22) I6 J7) (retI (fun v9 I10 J11 => inR v9 ∧ ((¬ v9 = (-1) → ((0 ≤ (gi I 23 3) ∧ (gi I 23 3) < 5) ∧ (Q (some (vI 1)) (mem (some 22, some 5, some 22) (si I10 32 (gi I 23 3).toNat v9) J11)))) ∧ (v9 = (-1) → (Q (some (vI 0)) (mem (some 22, some 5, some 22) I10 J11))))) (some 22, some 5, some 22)))))) (some 22, some 5, some 22)))))) (some 22, some 5, some 22))) : WP k LAY m_X3_tellTable 0 [(0, vR (some 3))] [] (mem (some 22, some 5, some 22) I J) Q := by
  refine st_aload_n (pc' := 1) dX3_tellTable_0 rfl rfl (j := 0) rfl ?_
  refine G_X3_19_3 dX3_tellTable_1 (pc' := 4) rfl rfl ?_
  refine G_X3_46_22 dX3_tellTable_4 (pc' := 7) rfl rfl ?_
  refine st_iconst (pc' := 8) dX3_tellTable_7 rfl ?_
  refine st_iaload (pc' := 9) (v := (gi I 23 3)) dX3_tellTable_8 rfl L_23 (by decide) (by decide) (show gi I 23 3 = (gi I 23 3) from rfl) ?_
  refine st_istore_n (pc' := 10) (L' := [(1, vI (gi I 23 3)), (0, vR (some 3))]) dX3_tellTable_9 rfl rfl (by decide) rfl ?_
  refine st_aload_n (pc' := 11) dX3_tellTable_10 rfl rfl (j := 1) rfl ?_
  refine st_iconst (pc' := 12) dX3_tellTable_11 rfl ?_
  refine st_callV (pc' := 15) (kc := k - 1) (E' := LAY) (cal := m_X3_give) (n := 1) (as := [vI 3]) (S := []) dX3_tellTable_12 rfl l_X3_77 k_X3_give rfl L_3 c_X3 rfl rfl (Nat.le_of_ble_eq_true rfl) (by omega) ⟨Nat.le_refl _, Nat.le_refl _, Nat.le_refl _, Nat.le_refl _⟩ h (fun r M' q => ?_)
  obtain ⟨v1, I2, J3, rfl, rfl, h⟩ := q
  change WP _ LAY m_X3_tellTable 15 [(1, vI (gi I 23 3)), (0, vR (some 3))] [vI v1] (mem (some 22, some 5, some 22) I2 J3) Q
  obtain ⟨e4, h⟩ := h
  refine st_if_eq (tg := 37) (pc' := 18) dX3_tellTable_15 (by decide) rfl e4 (fun c => ?_) (fun c => ?_)
  · replace h := h.1 c
    refine st_iconst (pc' := 38) dX3_tellTable_37 rfl ?_
    refine st_istore_n (pc' := 39) (L' := [(2, vI (-1)), (1, vI (gi I 23 3)), (0, vR (some 3))]) dX3_tellTable_38 rfl rfl (by decide) rfl ?_
    refine st_iload_n (pc' := 40) dX3_tellTable_39 rfl rfl (j := 0) rfl ?_
    refine st_iconst (pc' := 41) dX3_tellTable_40 rfl ?_
    refine st_icmp_ne (tg := 46) (pc' := 44) dX3_tellTable_41 (by decide) rfl (by decide) (by decide) (fun c => ?_) (fun c => ?_)
    · exact absurd c (by decide)
    · refine st_iconst (pc' := 45) dX3_tellTable_44 rfl ?_
      exact st_iret (ty := .boolean) dX3_tellTable_45 rfl (by decide) rfl h
  · replace h := h.2 c
    refine st_aload_n (pc' := 19) dX3_tellTable_18 rfl rfl (j := 1) rfl ?_
    refine st_bipush (pc' := 21) dX3_tellTable_19 rfl (by decide) ?_
    refine st_callV (pc' := 24) (kc := k - 1) (E' := LAY) (cal := m_X3_wantOwn) (n := 1) (as := [vI 10]) (S := []) dX3_tellTable_21 rfl l_X3_116 k_X3_wantOwn rfl L_3 c_X3 rfl rfl (Nat.le_of_ble_eq_true rfl) (by omega) ⟨Nat.le_refl _, Nat.le_refl _, Nat.le_refl _, Nat.le_refl _⟩ h (fun r M' q => ?_)
    obtain ⟨v5, I6, J7, rfl, rfl, h⟩ := q
    change WP _ LAY m_X3_tellTable 24 [(1, vI (gi I 23 3)), (0, vR (some 3))] [vI v5] (mem (some 22, some 5, some 22) I6 J7) Q
    obtain ⟨e8, h⟩ := h
    refine st_if_eq (tg := 37) (pc' := 27) dX3_tellTable_24 (by decide) rfl e8 (fun c => ?_) (fun c => ?_)
    · replace h := h.1 c
      refine st_iconst (pc' := 38) dX3_tellTable_37 rfl ?_
      refine st_istore_n (pc' := 39) (L' := [(2, vI (-1)), (1, vI (gi I 23 3)), (0, vR (some 3))]) dX3_tellTable_38 rfl rfl (by decide) rfl ?_
      refine st_iload_n (pc' := 40) dX3_tellTable_39 rfl rfl (j := 0) rfl ?_
      refine st_iconst (pc' := 41) dX3_tellTable_40 rfl ?_
      refine st_icmp_ne (tg := 46) (pc' := 44) dX3_tellTable_41 (by decide) rfl (by decide) (by decide) (fun c => ?_) (fun c => ?_)
      · exact absurd c (by decide)
      · refine st_iconst (pc' := 45) dX3_tellTable_44 rfl ?_
        exact st_iret (ty := .boolean) dX3_tellTable_45 rfl (by decide) rfl h
    · replace h := h.2 c
      refine st_aload_n (pc' := 28) dX3_tellTable_27 rfl rfl (j := 1) rfl ?_
      refine st_iconst (pc' := 29) dX3_tellTable_28 rfl ?_
      refine st_bipush (pc' := 31) dX3_tellTable_29 rfl (by decide) ?_
      refine st_callV (pc' := 34) (kc := k - 1) (E' := LAY) (cal := m_X3_askNumber) (n := 2) (as := [vI 0, vI 9]) (S := []) dX3_tellTable_31 rfl l_X3_125 k_X3_askNumber rfl L_3 c_X3 rfl rfl (Nat.le_of_ble_eq_true rfl) (by omega) ⟨Nat.le_refl _, Nat.le_refl _, Nat.le_refl _, Nat.le_refl _⟩ h (fun r M' q => ?_)
      obtain ⟨v9, I10, J11, rfl, rfl, h⟩ := q
      change WP _ LAY m_X3_tellTable 34 [(1, vI (gi I 23 3)), (0, vR (some 3))] [vI v9] (mem (some 22, some 5, some 22) I10 J11) Q
      refine st_goto (pc' := 38) dX3_tellTable_34 (by decide) ?_
      refine st_istore_n (pc' := 39) (L' := [(2, vI v9), (1, vI (gi I 23 3)), (0, vR (some 3))]) dX3_tellTable_38 rfl rfl (by decide) rfl ?_
      refine st_iload_n (pc' := 40) dX3_tellTable_39 rfl rfl (j := 0) rfl ?_
      refine st_iconst (pc' := 41) dX3_tellTable_40 rfl ?_
      obtain ⟨e12, h⟩ := h
      refine st_icmp_ne (tg := 46) (pc' := 44) dX3_tellTable_41 (by decide) rfl e12 (by decide) (fun c => ?_) (fun c => ?_)
      · replace h := h.1 c
        refine st_aload_n (pc' := 47) dX3_tellTable_46 rfl rfl (j := 2) rfl ?_
        refine G_X3_19_3 dX3_tellTable_47 (pc' := 50) rfl rfl ?_
        refine G_X3_147_22 dX3_tellTable_50 (pc' := 53) rfl rfl ?_
        refine st_iload_n (pc' := 54) dX3_tellTable_53 rfl rfl (j := 1) rfl ?_
        refine st_iload_n (pc' := 55) dX3_tellTable_54 rfl rfl (j := 0) rfl ?_
        obtain ⟨e13, h⟩ := h
        refine st_iastore (pc' := 56) (M' := (mem (some 22, some 5, some 22) (si I10 32 (gi I 23 3).toNat v9) J11)) dX3_tellTable_55 rfl L_32 (by decide) e13 rfl ?_
        refine st_iconst (pc' := 57) dX3_tellTable_56 rfl ?_
        exact st_iret (ty := .boolean) dX3_tellTable_57 rfl (by decide) rfl h
      · replace h := h.2 c
        refine st_iconst (pc' := 45) dX3_tellTable_44 rfl ?_
        exact st_iret (ty := .boolean) dX3_tellTable_45 rfl (by decide) rfl h
set_option maxRecDepth 20000 in
set_option maxHeartbeats 4000000 in
theorem B_X3_tellInch_0 {k : Nat} {I : Nat → Nat → Int32} {J : Nat → Nat → Int64}  {Q : Option AV → Mem → Prop} (hk : 1 ≤ k) (h : WPm (k - 1) LAY m_X3_askNumber [vR (some 3), vI 10, vI 120] (mem (some 22, some 5, some 22) I J) (retI (fun v1 I2 J3 => inR v1 ∧ ((¬ v1 = (-1) → (Q (some (vI 1)) (mem (some 22, some 5, some 22) (si I2 22 15 v1) J3))) ∧ (v1 = (-1) → (Q (some (vI 0)) (mem (some 22, some 5, some 22) I2 J3))))) (some 22, some 5, some 22))) : WP k LAY m_X3_tellInch 0 [(0, vR (some 3))] [] (mem (some 22, some 5, some 22) I J) Q := by
  refine st_aload_n (pc' := 1) dX3_tellInch_0 rfl rfl (j := 0) rfl ?_
  refine st_bipush (pc' := 3) dX3_tellInch_1 rfl (by decide) ?_
  refine st_bipush (pc' := 5) dX3_tellInch_3 rfl (by decide) ?_
  refine st_callV (pc' := 8) (kc := k - 1) (E' := LAY) (cal := m_X3_askNumber) (n := 2) (as := [vI 10, vI 120]) (S := []) dX3_tellInch_5 rfl l_X3_125 k_X3_askNumber rfl L_3 c_X3 rfl rfl (Nat.le_of_ble_eq_true rfl) (by omega) ⟨Nat.le_refl _, Nat.le_refl _, Nat.le_refl _, Nat.le_refl _⟩ h (fun r M' q => ?_)
  obtain ⟨v1, I2, J3, rfl, rfl, h⟩ := q
  change WP _ LAY m_X3_tellInch 8 [(0, vR (some 3))] [vI v1] (mem (some 22, some 5, some 22) I2 J3) Q
  refine st_istore_n (pc' := 9) (L' := [(1, vI v1), (0, vR (some 3))]) dX3_tellInch_8 rfl rfl (by decide) rfl ?_
  refine st_iload_n (pc' := 10) dX3_tellInch_9 rfl rfl (j := 0) rfl ?_
  refine st_iconst (pc' := 11) dX3_tellInch_10 rfl ?_
  obtain ⟨e4, h⟩ := h
  refine st_icmp_ne (tg := 16) (pc' := 14) dX3_tellInch_11 (by decide) rfl e4 (by decide) (fun c => ?_) (fun c => ?_)
  · replace h := h.1 c
    refine st_aload_n (pc' := 17) dX3_tellInch_16 rfl rfl (j := 1) rfl ?_
    refine G_X3_19_3 dX3_tellInch_17 (pc' := 20) rfl rfl ?_
    refine st_iload_n (pc' := 21) dX3_tellInch_20 rfl rfl (j := 0) rfl ?_
    refine P_X3_150_22 dX3_tellInch_21 (pc' := 24) rfl rfl ?_
    refine st_iconst (pc' := 25) dX3_tellInch_24 rfl ?_
    exact st_iret (ty := .boolean) dX3_tellInch_25 rfl (by decide) rfl h
  · replace h := h.2 c
    refine st_iconst (pc' := 15) dX3_tellInch_14 rfl ?_
    exact st_iret (ty := .boolean) dX3_tellInch_15 rfl (by decide) rfl h
set_option maxRecDepth 20000 in
set_option maxHeartbeats 4000000 in
theorem B_X3_parsePart_0 {k : Nat} {I : Nat → Nat → Int32} {J : Nat → Nat → Int64}  {Q : Option AV → Mem → Prop} (hk : 2 ≤ k) (h : (¬ (gi I 1 2) = 3 → ((¬ (gi I 1 2 = 4 ∧ gi I 1 5 = 40) → ((¬ (gi I 1 2) = 2 → (WPm (k - 1) LAY m_X3_isValue [vI (-1)] (mem (some 22, some 5, some 22) I J) (retI (fun v1 I2 J3 => inR v1 ∧ ((¬ v1 = 0 → (WPm (k - 1) LAY m_X7_emit [vR (some 22), vI (10000 + (-1))] (mem (some 22, some 5, some 22) I2 J3) (retV (fun I6 J7 => WPm (k - 1) LAY m_X10_step [vR (some 1)] (mem (some 22, some 5, some 22) I6 J7) (retV (fun I9 J10 => Q (some (vI 1)) (mem (some 22, some 5, some 22) I9 J10)) (some 22, some 5, some 22))) (some 22, some 5, some 22)))) ∧ (v1 = 0 → (Q (some (vI 0)) (mem (some 22, some 5, some 22) (si (si I2 3 2 1) 3 3 (gi I2 1 6)) J3))))) (some 22, some 5, some 22)))) ∧ ((gi I 1 2) = 2 → (((gi I 1 5) = 23 → (WPm (k - 1) LAY m_X10_step [vR (some 1)] (mem (some 22, some 5, some 22) I J) (retV (fun I12 J13 => ((gi I12 1 2 = 4 ∧ gi I12 1 5 = 40) → (WPm (k - 1) LAY m_X3_openOne [vR (some 3)] (mem (some 22, some 5, some 22) I12 J13) (retI (fun v14 I15 J16 => inR v14 ∧ ((v14 = 0 → ((¬ (gi I 1 5) = 23 → (WPm (k - 1) LAY m_X7_emit [vR (some 22), vI 10106] (mem (some 22, some 5, some 22) I15 J16) (retV (fun I19 J20 => Q (some (vI 0)) (mem (some 22, some 5, some 22) I19 J20)) (some 22, some 5, some 22)))) ∧ ((gi I 1 5) = 23 → (WPm (k - 1) LAY m_X7_emit [vR (some 22), vI 10105] (mem (some 22, some 5, some 22) I15 J16) (retV (fun I22 J23 => Q (some (vI 0)) (mem (some 22, some 5, some 22) I22 J23)) (some 22, some 5, some 22)))))) ∧ (¬ v14 = 0 → (WPm (k - 1) LAY m_X3_parseSum [vR (some 3)] (mem (some 22, some 5, some 22) I15 J16) (retI (fun v24 I25 J26 => inR v24 ∧ ((v24 = 0 → ((¬ (gi I 1 5) = 23 → (WPm (k - 1) LAY m_X7_emit [vR (some 22), vI 10106] (mem (some 22, some 5, some 22) I25 J26) (retV (fun I29 J30 => Q (some (vI 0)) (mem (some 22, some 5, some 22) I29 J30)) (some 22, some 5, some 22)))) ∧ ((gi I 1 5) = 23 → (WPm (k - 1) LAY m_X7_emit [vR (some 22), vI 10105] (mem (some 22, some 5, some 22) I25 J26) (retV (fun I32 J33 => Q (some (vI 0)) (mem (some 22, some 5, some 22) I32 J33)) (some 22, some 5, some 22)))))) ∧ (¬ v24 = 0 → (WPm (k - 1) LAY m_X3_wantSign [vR (some 3), vI 44] (mem (some 22, some 5, some 22) I25 J26) (retI (fun v34 I35 J36 => inR v34 ∧ ((v34 = 0 → ((¬ (gi I 1 5) = 23 → (WPm (k - 1) LAY m_X7_emit [vR (some 22), vI 10106] (mem (some 22, some 5, some 22) I35 J36) (retV (fun I39 J40 => Q (some (vI 0)) (mem (some 22, some 5, some 22) I39 J40)) (some 22, some 5, some 22)))) ∧ ((gi I 1 5) = 23 → (WPm (k - 1) LAY m_X7_emit [vR (some 22), vI 10105] (mem (some 22, some 5, some 22) I35 J36) (retV (fun I42 J43 => Q (some (vI 0)) (mem (some 22, some 5, some 22) I42 J43)) (some 22, some 5, some 22)))))) ∧ (¬ v34 = 0 → (WPm (k - 1) LAY m_X3_parseSum [vR (some 3)] (mem (some 22, some 5, some 22) I35 J36) (retI (fun v44 I45 J46 => inR v44 ∧ ((v44 = 0 → ((¬ (gi I 1 5) = 23 → (WPm (k - 1) LAY m_X7_emit [vR (some 22), vI 10106] (mem (some 22, some 5, some 22) I45 J46) (retV (fun I49 J50 => Q (some (vI 0)) (mem (some 22, some 5, some 22) I49 J50)) (some 22, some 5, some 22)))) ∧ ((gi I 1 5) = 23 → (WPm (k - 1) LAY m_X7_emit [vR (some 22), vI 10105] (mem (some 22, some 5, some 22) I45 J46) (retV (fun I52 J53 => Q (some (vI 0)) (mem (some 22, some 5, some 22) I52 J53)) (some 22, some 5, some 22)))))) ∧ (¬ v44 = 0 → (WPm (k - 1) LAY m_X3_closeOne [vR (some 3), vI 41] (mem (some 22, some 5, some 22) I45 J46) (retI (fun v54 I55 J56 => inR v54 ∧ ((v54 = 0 → ((¬ (gi I 1 5) = 23 → (WPm (k - 1) LAY m_X7_emit [vR (some 22), vI 10106] (mem (some 22, some 5, some 22) I55 J56) (retV (fun I59 J60 => Q (some (vI 0)) (mem (some 22, some 5, some 22) I59 J60)) (some 22, some 5, some 22)))) ∧ ((gi I 1 5) = 23 → (WPm (k - 1) LAY m_X7_emit [vR (some 22), vI 10105] (mem (some 22, some 5, some 22) I55 J56) (retV (fun I62 J63 => Q (some (vI 0)) (mem (some 22, some 5, some 22) I62 J63)) (some 22, some 5, some 22)))))) ∧ (¬ v54 = 0 → ((¬ (gi I 1 5) = 23 → (WPm (k - 1) LAY m_X7_emit [vR (some 22), vI 10106] (mem (some 22, some 5, some 22) I55 J56) (retV (fun I65 J66 => Q (some (vI 1)) (mem (some 22, some 5, some 22) I65 J66)) (some 22, some 5, some 22)))) ∧ ((gi I 1 5) = 23 → (WPm (k - 1) LAY m_X7_emit [vR (some 22), vI 10105] (mem (some 22, some 5, some 22) I55 J56) (retV (fun I68 J69 => Q (some (vI 1)) (mem (some 22, some 5, some 22) I68 J69)) (some 22, some 5, some 22)))))))) (some 22, some 5, some 22)))))) (some 22, some 5, some 22)))))) (some 22, some 5, some 22)))))) (some 22, some 5, some 22)))))) (some 22, some 5, some 22)))) ∧ (¬ (gi I12 1 2 = 4 ∧ gi I12 1 5 = 40) → (Q (some (vI 0)) (mem (some 22, some 5, some 22) (si (si I12 3 2 1) 3 3 (gi I12 1 6)) J13)))) (some 22, some 5, some 22)))) ∧ (¬ (gi I 1 5) = 23 → ((¬ (gi I 1 5) = 24 → (WPm (k - 1) LAY m_X3_isValue [vI (gi I 1 5)] (mem (some 22, some 5, some 22) I J) (retI (fun v70 I71 J72 => inR v70 ∧ ((¬ v70 = 0 → (WPm (k - 1) LAY m_X7_emit [vR (some 22), vI (10000 + (gi I 1 5))] (mem (some 22, some 5, some 22) I71 J72) (retV (fun I75 J76 => WPm (k - 1) LAY m_X10_step [vR (some 1)] (mem (some 22, some 5, some 22) I75 J76) (retV (fun I78 J79 => Q (some (vI 1)) (mem (some 22, some 5, some 22) I78 J79)) (some 22, some 5, some 22))) (some 22, some 5, some 22)))) ∧ (v70 = 0 → (Q (some (vI 0)) (mem (some 22, some 5, some 22) (si (si I71 3 2 1) 3 3 (gi I71 1 6)) J72))))) (some 22, some 5, some 22)))) ∧ ((gi I 1 5) = 24 → (WPm (k - 1) LAY m_X10_step [vR (some 1)] (mem (some 22, some 5, some 22) I J) (retV (fun I81 J82 => ((gi I81 1 2 = 4 ∧ gi I81 1 5 = 40) → (WPm (k - 1) LAY m_X3_openOne [vR (some 3)] (mem (some 22, some 5, some 22) I81 J82) (retI (fun v83 I84 J85 => inR v83 ∧ ((v83 = 0 → ((¬ (gi I 1 5) = 23 → (WPm (k - 1) LAY m_X7_emit [vR (some 22), vI 10106] (mem (some 22, some 5, some 22) I84 J85) (retV (fun I88 J89 => Q (some (vI 0)) (mem (some 22, some 5, some 22) I88 J89)) (some 22, some 5, some 22)))) ∧ ((gi I 1 5) = 23 → (WPm (k - 1) LAY m_X7_emit [vR (some 22), vI 10105] (mem (some 22, some 5, some 22) I84 J85) (retV (fun I91 J92 => Q (some (vI 0)) (mem (some 22, some 5, some 22) I91 J92)) (some 22, some 5, some 22)))))) ∧ (¬ v83 = 0 → (WPm (k - 1) LAY m_X3_parseSum [vR (some 3)] (mem (some 22, some 5, some 22) I84 J85) (retI (fun v93 I94 J95 => inR v93 ∧ ((v93 = 0 → ((¬ (gi I 1 5) = 23 → (WPm (k - 1) LAY m_X7_emit [vR (some 22), vI 10106] (mem (some 22, some 5, some 22) I94 J95) (retV (fun I98 J99 => Q (some (vI 0)) (mem (some 22, some 5, some 22) I98 J99)) (some 22, some 5, some 22)))) ∧ ((gi I 1 5) = 23 → (WPm (k - 1) LAY m_X7_emit [vR (some 22), vI 10105] (mem (some 22, some 5, some 22) I94 J95) (retV (fun I101 J102 => Q (some (vI 0)) (mem (some 22, some 5, some 22) I101 J102)) (some 22, some 5, some 22)))))) ∧ (¬ v93 = 0 → (WPm (k - 1) LAY m_X3_wantSign [vR (some 3), vI 44] (mem (some 22, some 5, some 22) I94 J95) (retI (fun v103 I104 J105 => inR v103 ∧ ((v103 = 0 → ((¬ (gi I 1 5) = 23 → (WPm (k - 1) LAY m_X7_emit [vR (some 22), vI 10106] (mem (some 22, some 5, some 22) I104 J105) (retV (fun I108 J109 => Q (some (vI 0)) (mem (some 22, some 5, some 22) I108 J109)) (some 22, some 5, some 22)))) ∧ ((gi I 1 5) = 23 → (WPm (k - 1) LAY m_X7_emit [vR (some 22), vI 10105] (mem (some 22, some 5, some 22) I104 J105) (retV (fun I111 J112 => Q (some (vI 0)) (mem (some 22, some 5, some 22) I111 J112)) (some 22, some 5, some 22)))))) ∧ (¬ v103 = 0 → (WPm (k - 1) LAY m_X3_parseSum [vR (some 3)] (mem (some 22, some 5, some 22) I104 J105) (retI (fun v113 I114 J115 => inR v113 ∧ ((v113 = 0 → ((¬ (gi I 1 5) = 23 → (WPm (k - 1) LAY m_X7_emit [vR (some 22), vI 10106] (mem (some 22, some 5, some 22) I114 J115) (retV (fun I118 J119 => Q (some (vI 0)) (mem (some 22, some 5, some 22) I118 J119)) (some 22, some 5, some 22)))) ∧ ((gi I 1 5) = 23 → (WPm (k - 1) LAY m_X7_emit [vR (some 22), vI 10105] (mem (some 22, some 5, some 22) I114 J115) (retV (fun I121 J122 => Q (some (vI 0)) (mem (some 22, some 5, some 22) I121 J122)) (some 22, some 5, some 22)))))) ∧ (¬ v113 = 0 → (WPm (k - 1) LAY m_X3_closeOne [vR (some 3), vI 41] (mem (some 22, some 5, some 22) I114 J115) (retI (fun v123 I124 J125 => inR v123 ∧ ((v123 = 0 → ((¬ (gi I 1 5) = 23 → (WPm (k - 1) LAY m_X7_emit [vR (some 22), vI 10106] (mem (some 22, some 5, some 22) I124 J125) (retV (fun I128 J129 => Q (some (vI 0)) (mem (some 22, some 5, some 22) I128 J129)) (some 22, some 5, some 22)))) ∧ ((gi I 1 5) = 23 → (WPm (k - 1) LAY m_X7_emit [vR (some 22), vI 10105] (mem (some 22, some 5, some 22) I124 J125) (retV (fun I131 J132 => Q (some (vI 0)) (mem (some 22, some 5, some 22) I131 J132)) (some 22, some 5, some 22)))))) ∧ (¬ v123 = 0 → ((¬ (gi I 1 5) = 23 → (WPm (k - 1) LAY m_X7_emit [vR (some 22), vI 10106] (mem (some 22, some 5, some 22) I124 J125) (retV (fun I134 J135 => Q (some (vI 1)) (mem (some 22, some 5, some 22) I134 J135)) (some 22, some 5, some 22)))) ∧ ((gi I 1 5) = 23 → (WPm (k - 1) LAY m_X7_emit [vR (some 22), vI 10105] (mem (some 22, some 5, some 22) I124 J125) (retV (fun I137 J138 => Q (some (vI 1)) (mem (some 22, some 5, some 22) I137 J138)) (some 22, some 5, some 22)))))))) (some 22, some 5, some 22)))))) (some 22, some 5, some 22)))))) (some 22, some 5, some 22)))))) (some 22, some 5, some 22)))))) (some 22, some 5, some 22)))) ∧ (¬ (gi I81 1 2 = 4 ∧ gi I81 1 5 = 40) → (Q (some (vI 0)) (mem (some 22, some 5, some 22) (si (si I81 3 2 1) 3 3 (gi I81 1 6)) J82)))) (some 22, some 5, some 22)))))))))) ∧ ((gi I 1 2 = 4 ∧ gi I 1 5 = 40) → (WPm (k - 1) LAY m_X3_openOne [vR (some 3)] (mem (some 22, some 5, some 22) I J) (retI (fun v139 I140 J141 => inR v139 ∧ ((v139 = 0 → (Q (some (vI 0)) (mem (some 22, some 5, some 22) I140 J141))) ∧ (¬ v139 = 0 → (WPm (k - 1) LAY m_X3_parseSum [vR (some 3)] (mem (some 22, some 5, some 22) I140 J141) (retI (fun v143 I144 J145 => inR v143 ∧ ((v143 = 0 → (Q (some (vI 0)) (mem (some 22, some 5, some 22) I144 J145))) ∧ (¬ v143 = 0 → (WPm (k - 1) LAY m_X3_closeOne [vR (some 3), vI 41] (mem (some 22, some 5, some 22) I144 J145) (retI (fun v147 I148 J149 => inR v147 ∧ ((v147 = 0 → (Q (some (vI 0)) (mem (some 22, some 5, some 22) I148 J149))) ∧ (¬ v147 = 0 → (Q (some (vI 1)) (mem (some 22, some 5, some 22) I148 J149))))) (some 22, some 5, some 22)))))) (some 22, some 5, some 22)))))) (some 22, some 5, some 22)))))) ∧ ((gi I 1 2) = 3 → (WPm (k - 1) LAY m_X7_emit [vR (some 22), vI (gi I 1 5)] (mem (some 22, some 5, some 22) I J) (retV (fun I152 J153 => WPm (k - 1) LAY m_X10_step [vR (some 1)] (mem (some 22, some 5, some 22) I152 J153) (retV (fun I155 J156 => Q (some (vI 1)) (mem (some 22, some 5, some 22) I155 J156)) (some 22, some 5, some 22))) (some 22, some 5, some 22))))) : WP k LAY m_X3_parsePart 0 [(0, vR (some 3))] [] (mem (some 22, some 5, some 22) I J) Q := by
  refine st_aload_n (pc' := 1) dX3_parsePart_0 rfl rfl (j := 0) rfl ?_
  refine G_X3_15_3 dX3_parsePart_1 (pc' := 4) rfl rfl ?_
  refine G_X3_39_1 dX3_parsePart_4 (pc' := 7) rfl rfl ?_
  refine st_iconst (pc' := 8) dX3_parsePart_7 rfl ?_
  refine st_icmp_ne (tg := 34) (pc' := 11) dX3_parsePart_8 (by decide) rfl (gi_in _ _ _) (by decide) (fun c => ?_) (fun c => ?_)
  · replace h := h.1 c
    refine st_aload_n (pc' := 35) dX3_parsePart_34 rfl rfl (j := 0) rfl ?_
    refine G_X3_15_3 dX3_parsePart_35 (pc' := 38) rfl rfl ?_
    refine st_bipush (pc' := 40) dX3_parsePart_38 rfl (by decide) ?_
    refine st_callV (pc' := 43) (kc := k - 1) (E' := LAY) (cal := m_X10_isSign) (n := 1) (as := [vI 40]) (S := []) dX3_parsePart_40 rfl l_X3_178 k_X10_isSign rfl L_1 c_X10 rfl rfl (Nat.le_of_ble_eq_true rfl) (by omega) ⟨Nat.le_refl _, Nat.le_refl _, Nat.le_refl _, Nat.le_refl _⟩ (Q1 := fun r M' => WP k LAY m_X3_parsePart 43 [(0, vR (some 3))] (r.toList ++ []) M' Q) (S_X10_isSign (by omega) (by decide) ?_) (fun r M' q => q)
    change WP _ LAY m_X3_parsePart 43 [(0, vR (some 3))] [vI (b2i (gi I 1 2 = 4 ∧ gi I 1 5 = 40))] (mem (some 22, some 5, some 22) I J) Q
    refine st_if_eq (tg := 75) (pc' := 46) dX3_parsePart_43 (by decide) rfl (b2i_in _) (fun c => ?_) (fun c => ?_)
    · replace h := h.1 (b2i_f.mp c)
      refine st_aload_n (pc' := 76) dX3_parsePart_75 rfl rfl (j := 0) rfl ?_
      refine G_X3_15_3 dX3_parsePart_76 (pc' := 79) rfl rfl ?_
      refine G_X3_39_1 dX3_parsePart_79 (pc' := 82) rfl rfl ?_
      refine st_iconst (pc' := 83) dX3_parsePart_82 rfl ?_
      refine st_icmp_ne (tg := 96) (pc' := 86) dX3_parsePart_83 (by decide) rfl (gi_in _ _ _) (by decide) (fun c => ?_) (fun c => ?_)
      · replace h := h.1 c
        refine st_iconst (pc' := 97) dX3_parsePart_96 rfl ?_
        refine st_istore_n (pc' := 98) (L' := [(1, vI (-1)), (0, vR (some 3))]) dX3_parsePart_97 rfl rfl (by decide) rfl ?_
        refine st_iload_n (pc' := 99) dX3_parsePart_98 rfl rfl (j := 0) rfl ?_
        refine st_bipush (pc' := 101) dX3_parsePart_99 rfl (by decide) ?_
        refine st_icmp_eq (tg := 110) (pc' := 104) dX3_parsePart_101 (by decide) rfl (by decide) (by decide) (fun c => ?_) (fun c => ?_)
        · exact absurd c (by decide)
        · refine st_iload_n (pc' := 105) dX3_parsePart_104 rfl rfl (j := 0) rfl ?_
          refine st_bipush (pc' := 107) dX3_parsePart_105 rfl (by decide) ?_
          refine st_icmp_ne (tg := 203) (pc' := 110) dX3_parsePart_107 (by decide) rfl (by decide) (by decide) (fun c => ?_) (fun c => ?_)
          · refine st_iload_n (pc' := 204) dX3_parsePart_203 rfl rfl (j := 0) rfl ?_
            refine st_callS (pc' := 207) (kc := k - 1) (E' := LAY) (cal := m_X3_isValue) (n := 1) (as := [vI (-1)]) (S := []) dX3_parsePart_204 rfl l_X3_203 k_X3_isValue rfl rfl (Nat.le_of_ble_eq_true rfl) (by omega) ⟨Nat.le_refl _, Nat.le_refl _, Nat.le_refl _, Nat.le_refl _⟩ h (fun r M' q => ?_)
            obtain ⟨v1, I2, J3, rfl, rfl, h⟩ := q
            change WP _ LAY m_X3_parsePart 207 [(1, vI (-1)), (0, vR (some 3))] [vI v1] (mem (some 22, some 5, some 22) I2 J3) Q
            obtain ⟨e4, h⟩ := h
            refine st_if_ne (tg := 215) (pc' := 210) dX3_parsePart_207 (by decide) rfl e4 (fun c => ?_) (fun c => ?_)
            · replace h := h.1 c
              refine st_aload_n (pc' := 216) dX3_parsePart_215 rfl rfl (j := 1) rfl ?_
              refine G_X3_19_3 dX3_parsePart_216 (pc' := 219) rfl rfl ?_
              refine st_sipush (pc' := 222) dX3_parsePart_219 rfl (by decide) ?_
              refine st_iload_n (pc' := 223) dX3_parsePart_222 rfl rfl (j := 0) rfl ?_
              refine st_iadd (pc' := 224) dX3_parsePart_223 rfl ?_
              refine st_callV (pc' := 227) (kc := k - 1) (E' := LAY) (cal := m_X7_emit) (n := 1) (as := [vI (10000 + (-1))]) (S := []) dX3_parsePart_224 rfl l_X3_165 k_X7_emit rfl L_22 c_X7 rfl rfl (Nat.le_of_ble_eq_true rfl) (by omega) ⟨Nat.le_refl _, Nat.le_refl _, Nat.le_refl _, Nat.le_refl _⟩ h (fun r M' q => ?_)
              obtain ⟨I6, J7, rfl, rfl, h⟩ := q
              change WP _ LAY m_X3_parsePart 227 [(1, vI (-1)), (0, vR (some 3))] [] (mem (some 22, some 5, some 22) I6 J7) Q
              refine st_aload_n (pc' := 228) dX3_parsePart_227 rfl rfl (j := 1) rfl ?_
              refine G_X3_15_3 dX3_parsePart_228 (pc' := 231) rfl rfl ?_
              refine st_callV (pc' := 234) (kc := k - 1) (E' := LAY) (cal := m_X10_step) (n := 0) (as := []) (S := []) dX3_parsePart_231 rfl l_X3_74 k_X10_step rfl L_1 c_X10 rfl rfl (Nat.le_of_ble_eq_true rfl) (by omega) ⟨Nat.le_refl _, Nat.le_refl _, Nat.le_refl _, Nat.le_refl _⟩ h (fun r M' q => ?_)
              obtain ⟨I9, J10, rfl, rfl, h⟩ := q
              change WP _ LAY m_X3_parsePart 234 [(1, vI (-1)), (0, vR (some 3))] [] (mem (some 22, some 5, some 22) I9 J10) Q
              refine st_iconst (pc' := 235) dX3_parsePart_234 rfl ?_
              exact st_iret (ty := .boolean) dX3_parsePart_235 rfl (by decide) rfl h
            · replace h := h.2 c
              refine st_aload_n (pc' := 211) dX3_parsePart_210 rfl rfl (j := 1) rfl ?_
              refine st_callV (pc' := 214) (kc := k - 1) (E' := LAY) (cal := m_X3_refuseWord) (n := 0) (as := []) (S := []) dX3_parsePart_211 rfl l_X3_67 k_X3_refuseWord rfl L_3 c_X3 rfl rfl (Nat.le_of_ble_eq_true rfl) (by omega) ⟨Nat.le_refl _, Nat.le_refl _, Nat.le_refl _, Nat.le_refl _⟩ (Q1 := fun r M' => WP k LAY m_X3_parsePart 214 [(1, vI (-1)), (0, vR (some 3))] (r.toList ++ []) M' Q) (WPm.of k_X3_refuseWord.1 (Nat.le_of_ble_eq_true rfl) (B_X3_refuseWord_0 (by omega) ?_)) (fun r M' q => q)
              change WP _ LAY m_X3_parsePart 214 [(1, vI (-1)), (0, vR (some 3))] [vI 0] (mem (some 22, some 5, some 22) (si (si I2 3 2 1) 3 3 (gi I2 1 6)) J3) Q
              exact st_iret (ty := .boolean) dX3_parsePart_214 rfl (by decide) rfl h
          · exact absurd c (by decide)
      · replace h := h.2 c
        refine st_aload_n (pc' := 87) dX3_parsePart_86 rfl rfl (j := 0) rfl ?_
        refine G_X3_15_3 dX3_parsePart_87 (pc' := 90) rfl rfl ?_
        refine G_X3_60_1 dX3_parsePart_90 (pc' := 93) rfl rfl ?_
        refine st_goto (pc' := 97) dX3_parsePart_93 (by decide) ?_
        refine st_istore_n (pc' := 98) (L' := [(1, vI (gi I 1 5)), (0, vR (some 3))]) dX3_parsePart_97 rfl rfl (by decide) rfl ?_
        refine st_iload_n (pc' := 99) dX3_parsePart_98 rfl rfl (j := 0) rfl ?_
        refine st_bipush (pc' := 101) dX3_parsePart_99 rfl (by decide) ?_
        refine st_icmp_eq (tg := 110) (pc' := 104) dX3_parsePart_101 (by decide) rfl (gi_in _ _ _) (by decide) (fun c => ?_) (fun c => ?_)
        · replace h := h.1 c
          refine st_aload_n (pc' := 111) dX3_parsePart_110 rfl rfl (j := 1) rfl ?_
          refine G_X3_15_3 dX3_parsePart_111 (pc' := 114) rfl rfl ?_
          refine st_callV (pc' := 117) (kc := k - 1) (E' := LAY) (cal := m_X10_step) (n := 0) (as := []) (S := []) dX3_parsePart_114 rfl l_X3_74 k_X10_step rfl L_1 c_X10 rfl rfl (Nat.le_of_ble_eq_true rfl) (by omega) ⟨Nat.le_refl _, Nat.le_refl _, Nat.le_refl _, Nat.le_refl _⟩ h (fun r M' q => ?_)
          obtain ⟨I12, J13, rfl, rfl, h⟩ := q
          change WP _ LAY m_X3_parsePart 117 [(1, vI (gi I 1 5)), (0, vR (some 3))] [] (mem (some 22, some 5, some 22) I12 J13) Q
          refine st_aload_n (pc' := 118) dX3_parsePart_117 rfl rfl (j := 1) rfl ?_
          refine G_X3_15_3 dX3_parsePart_118 (pc' := 121) rfl rfl ?_
          refine st_bipush (pc' := 123) dX3_parsePart_121 rfl (by decide) ?_
          refine st_callV (pc' := 126) (kc := k - 1) (E' := LAY) (cal := m_X10_isSign) (n := 1) (as := [vI 40]) (S := []) dX3_parsePart_123 rfl l_X3_178 k_X10_isSign rfl L_1 c_X10 rfl rfl (Nat.le_of_ble_eq_true rfl) (by omega) ⟨Nat.le_refl _, Nat.le_refl _, Nat.le_refl _, Nat.le_refl _⟩ (Q1 := fun r M' => WP k LAY m_X3_parsePart 126 [(1, vI (gi I 1 5)), (0, vR (some 3))] (r.toList ++ []) M' Q) (S_X10_isSign (by omega) (by decide) ?_) (fun r M' q => q)
          change WP _ LAY m_X3_parsePart 126 [(1, vI (gi I 1 5)), (0, vR (some 3))] [vI (b2i (gi I12 1 2 = 4 ∧ gi I12 1 5 = 40))] (mem (some 22, some 5, some 22) I12 J13) Q
          refine st_if_ne (tg := 134) (pc' := 129) dX3_parsePart_126 (by decide) rfl (b2i_in _) (fun c => ?_) (fun c => ?_)
          · replace h := h.1 (b2i_t.mp c)
            refine st_aload_n (pc' := 135) dX3_parsePart_134 rfl rfl (j := 1) rfl ?_
            refine st_callV (pc' := 138) (kc := k - 1) (E' := LAY) (cal := m_X3_openOne) (n := 0) (as := []) (S := []) dX3_parsePart_135 rfl l_X3_172 k_X3_openOne rfl L_3 c_X3 rfl rfl (Nat.le_of_ble_eq_true rfl) (by omega) ⟨Nat.le_refl _, Nat.le_refl _, Nat.le_refl _, Nat.le_refl _⟩ h (fun r M' q => ?_)
            obtain ⟨v14, I15, J16, rfl, rfl, h⟩ := q
            change WP _ LAY m_X3_parsePart 138 [(1, vI (gi I 1 5)), (0, vR (some 3))] [vI v14] (mem (some 22, some 5, some 22) I15 J16) Q
            obtain ⟨e17, h⟩ := h
            refine st_if_eq (tg := 177) (pc' := 141) dX3_parsePart_138 (by decide) rfl e17 (fun c => ?_) (fun c => ?_)
            · replace h := h.1 c
              refine st_iconst (pc' := 178) dX3_parsePart_177 rfl ?_
              refine st_istore_n (pc' := 179) (L' := [(2, vI 0), (1, vI (gi I 1 5)), (0, vR (some 3))]) dX3_parsePart_178 rfl rfl (by decide) rfl ?_
              refine st_aload_n (pc' := 180) dX3_parsePart_179 rfl rfl (j := 2) rfl ?_
              refine G_X3_19_3 dX3_parsePart_180 (pc' := 183) rfl rfl ?_
              refine st_iload_n (pc' := 184) dX3_parsePart_183 rfl rfl (j := 1) rfl ?_
              refine st_bipush (pc' := 186) dX3_parsePart_184 rfl (by decide) ?_
              refine st_icmp_ne (tg := 195) (pc' := 189) dX3_parsePart_186 (by decide) rfl (gi_in _ _ _) (by decide) (fun c => ?_) (fun c => ?_)
              · replace h := h.1 c
                refine st_sipush (pc' := 198) dX3_parsePart_195 rfl (by decide) ?_
                refine st_callV (pc' := 201) (kc := k - 1) (E' := LAY) (cal := m_X7_emit) (n := 1) (as := [vI 10106]) (S := []) dX3_parsePart_198 rfl l_X3_165 k_X7_emit rfl L_22 c_X7 rfl rfl (Nat.le_of_ble_eq_true rfl) (by omega) ⟨Nat.le_refl _, Nat.le_refl _, Nat.le_refl _, Nat.le_refl _⟩ h (fun r M' q => ?_)
                obtain ⟨I19, J20, rfl, rfl, h⟩ := q
                change WP _ LAY m_X3_parsePart 201 [(2, vI 0), (1, vI (gi I 1 5)), (0, vR (some 3))] [] (mem (some 22, some 5, some 22) I19 J20) Q
                refine st_iload_n (pc' := 202) dX3_parsePart_201 rfl rfl (j := 0) rfl ?_
                exact st_iret (ty := .boolean) dX3_parsePart_202 rfl (by decide) rfl h
              · replace h := h.2 c
                refine st_sipush (pc' := 192) dX3_parsePart_189 rfl (by decide) ?_
                refine st_goto (pc' := 198) dX3_parsePart_192 (by decide) ?_
                refine st_callV (pc' := 201) (kc := k - 1) (E' := LAY) (cal := m_X7_emit) (n := 1) (as := [vI 10105]) (S := []) dX3_parsePart_198 rfl l_X3_165 k_X7_emit rfl L_22 c_X7 rfl rfl (Nat.le_of_ble_eq_true rfl) (by omega) ⟨Nat.le_refl _, Nat.le_refl _, Nat.le_refl _, Nat.le_refl _⟩ h (fun r M' q => ?_)
                obtain ⟨I22, J23, rfl, rfl, h⟩ := q
                change WP _ LAY m_X3_parsePart 201 [(2, vI 0), (1, vI (gi I 1 5)), (0, vR (some 3))] [] (mem (some 22, some 5, some 22) I22 J23) Q
                refine st_iload_n (pc' := 202) dX3_parsePart_201 rfl rfl (j := 0) rfl ?_
                exact st_iret (ty := .boolean) dX3_parsePart_202 rfl (by decide) rfl h
            · replace h := h.2 c
              refine st_aload_n (pc' := 142) dX3_parsePart_141 rfl rfl (j := 1) rfl ?_
              refine st_callV (pc' := 145) (kc := k - 1) (E' := LAY) (cal := m_X3_parseSum) (n := 0) (as := []) (S := []) dX3_parsePart_142 rfl l_X3_98 k_X3_parseSum rfl L_3 c_X3 rfl rfl (Nat.le_of_ble_eq_true rfl) (by omega) ⟨Nat.le_refl _, Nat.le_refl _, Nat.le_refl _, Nat.le_refl _⟩ h (fun r M' q => ?_)
              obtain ⟨v24, I25, J26, rfl, rfl, h⟩ := q
              change WP _ LAY m_X3_parsePart 145 [(1, vI (gi I 1 5)), (0, vR (some 3))] [vI v24] (mem (some 22, some 5, some 22) I25 J26) Q
              obtain ⟨e27, h⟩ := h
              refine st_if_eq (tg := 177) (pc' := 148) dX3_parsePart_145 (by decide) rfl e27 (fun c => ?_) (fun c => ?_)
              · replace h := h.1 c
                refine st_iconst (pc' := 178) dX3_parsePart_177 rfl ?_
                refine st_istore_n (pc' := 179) (L' := [(2, vI 0), (1, vI (gi I 1 5)), (0, vR (some 3))]) dX3_parsePart_178 rfl rfl (by decide) rfl ?_
                refine st_aload_n (pc' := 180) dX3_parsePart_179 rfl rfl (j := 2) rfl ?_
                refine G_X3_19_3 dX3_parsePart_180 (pc' := 183) rfl rfl ?_
                refine st_iload_n (pc' := 184) dX3_parsePart_183 rfl rfl (j := 1) rfl ?_
                refine st_bipush (pc' := 186) dX3_parsePart_184 rfl (by decide) ?_
                refine st_icmp_ne (tg := 195) (pc' := 189) dX3_parsePart_186 (by decide) rfl (gi_in _ _ _) (by decide) (fun c => ?_) (fun c => ?_)
                · replace h := h.1 c
                  refine st_sipush (pc' := 198) dX3_parsePart_195 rfl (by decide) ?_
                  refine st_callV (pc' := 201) (kc := k - 1) (E' := LAY) (cal := m_X7_emit) (n := 1) (as := [vI 10106]) (S := []) dX3_parsePart_198 rfl l_X3_165 k_X7_emit rfl L_22 c_X7 rfl rfl (Nat.le_of_ble_eq_true rfl) (by omega) ⟨Nat.le_refl _, Nat.le_refl _, Nat.le_refl _, Nat.le_refl _⟩ h (fun r M' q => ?_)
                  obtain ⟨I29, J30, rfl, rfl, h⟩ := q
                  change WP _ LAY m_X3_parsePart 201 [(2, vI 0), (1, vI (gi I 1 5)), (0, vR (some 3))] [] (mem (some 22, some 5, some 22) I29 J30) Q
                  refine st_iload_n (pc' := 202) dX3_parsePart_201 rfl rfl (j := 0) rfl ?_
                  exact st_iret (ty := .boolean) dX3_parsePart_202 rfl (by decide) rfl h
                · replace h := h.2 c
                  refine st_sipush (pc' := 192) dX3_parsePart_189 rfl (by decide) ?_
                  refine st_goto (pc' := 198) dX3_parsePart_192 (by decide) ?_
                  refine st_callV (pc' := 201) (kc := k - 1) (E' := LAY) (cal := m_X7_emit) (n := 1) (as := [vI 10105]) (S := []) dX3_parsePart_198 rfl l_X3_165 k_X7_emit rfl L_22 c_X7 rfl rfl (Nat.le_of_ble_eq_true rfl) (by omega) ⟨Nat.le_refl _, Nat.le_refl _, Nat.le_refl _, Nat.le_refl _⟩ h (fun r M' q => ?_)
                  obtain ⟨I32, J33, rfl, rfl, h⟩ := q
                  change WP _ LAY m_X3_parsePart 201 [(2, vI 0), (1, vI (gi I 1 5)), (0, vR (some 3))] [] (mem (some 22, some 5, some 22) I32 J33) Q
                  refine st_iload_n (pc' := 202) dX3_parsePart_201 rfl rfl (j := 0) rfl ?_
                  exact st_iret (ty := .boolean) dX3_parsePart_202 rfl (by decide) rfl h
              · replace h := h.2 c
                refine st_aload_n (pc' := 149) dX3_parsePart_148 rfl rfl (j := 1) rfl ?_
                refine st_bipush (pc' := 151) dX3_parsePart_149 rfl (by decide) ?_
                refine st_callV (pc' := 154) (kc := k - 1) (E' := LAY) (cal := m_X3_wantSign) (n := 1) (as := [vI 44]) (S := []) dX3_parsePart_151 rfl l_X3_107 k_X3_wantSign rfl L_3 c_X3 rfl rfl (Nat.le_of_ble_eq_true rfl) (by omega) ⟨Nat.le_refl _, Nat.le_refl _, Nat.le_refl _, Nat.le_refl _⟩ h (fun r M' q => ?_)
                obtain ⟨v34, I35, J36, rfl, rfl, h⟩ := q
                change WP _ LAY m_X3_parsePart 154 [(1, vI (gi I 1 5)), (0, vR (some 3))] [vI v34] (mem (some 22, some 5, some 22) I35 J36) Q
                obtain ⟨e37, h⟩ := h
                refine st_if_eq (tg := 177) (pc' := 157) dX3_parsePart_154 (by decide) rfl e37 (fun c => ?_) (fun c => ?_)
                · replace h := h.1 c
                  refine st_iconst (pc' := 178) dX3_parsePart_177 rfl ?_
                  refine st_istore_n (pc' := 179) (L' := [(2, vI 0), (1, vI (gi I 1 5)), (0, vR (some 3))]) dX3_parsePart_178 rfl rfl (by decide) rfl ?_
                  refine st_aload_n (pc' := 180) dX3_parsePart_179 rfl rfl (j := 2) rfl ?_
                  refine G_X3_19_3 dX3_parsePart_180 (pc' := 183) rfl rfl ?_
                  refine st_iload_n (pc' := 184) dX3_parsePart_183 rfl rfl (j := 1) rfl ?_
                  refine st_bipush (pc' := 186) dX3_parsePart_184 rfl (by decide) ?_
                  refine st_icmp_ne (tg := 195) (pc' := 189) dX3_parsePart_186 (by decide) rfl (gi_in _ _ _) (by decide) (fun c => ?_) (fun c => ?_)
                  · replace h := h.1 c
                    refine st_sipush (pc' := 198) dX3_parsePart_195 rfl (by decide) ?_
                    refine st_callV (pc' := 201) (kc := k - 1) (E' := LAY) (cal := m_X7_emit) (n := 1) (as := [vI 10106]) (S := []) dX3_parsePart_198 rfl l_X3_165 k_X7_emit rfl L_22 c_X7 rfl rfl (Nat.le_of_ble_eq_true rfl) (by omega) ⟨Nat.le_refl _, Nat.le_refl _, Nat.le_refl _, Nat.le_refl _⟩ h (fun r M' q => ?_)
                    obtain ⟨I39, J40, rfl, rfl, h⟩ := q
                    change WP _ LAY m_X3_parsePart 201 [(2, vI 0), (1, vI (gi I 1 5)), (0, vR (some 3))] [] (mem (some 22, some 5, some 22) I39 J40) Q
                    refine st_iload_n (pc' := 202) dX3_parsePart_201 rfl rfl (j := 0) rfl ?_
                    exact st_iret (ty := .boolean) dX3_parsePart_202 rfl (by decide) rfl h
                  · replace h := h.2 c
                    refine st_sipush (pc' := 192) dX3_parsePart_189 rfl (by decide) ?_
                    refine st_goto (pc' := 198) dX3_parsePart_192 (by decide) ?_
                    refine st_callV (pc' := 201) (kc := k - 1) (E' := LAY) (cal := m_X7_emit) (n := 1) (as := [vI 10105]) (S := []) dX3_parsePart_198 rfl l_X3_165 k_X7_emit rfl L_22 c_X7 rfl rfl (Nat.le_of_ble_eq_true rfl) (by omega) ⟨Nat.le_refl _, Nat.le_refl _, Nat.le_refl _, Nat.le_refl _⟩ h (fun r M' q => ?_)
                    obtain ⟨I42, J43, rfl, rfl, h⟩ := q
                    change WP _ LAY m_X3_parsePart 201 [(2, vI 0), (1, vI (gi I 1 5)), (0, vR (some 3))] [] (mem (some 22, some 5, some 22) I42 J43) Q
                    refine st_iload_n (pc' := 202) dX3_parsePart_201 rfl rfl (j := 0) rfl ?_
                    exact st_iret (ty := .boolean) dX3_parsePart_202 rfl (by decide) rfl h
                · replace h := h.2 c
                  refine st_aload_n (pc' := 158) dX3_parsePart_157 rfl rfl (j := 1) rfl ?_
                  refine st_callV (pc' := 161) (kc := k - 1) (E' := LAY) (cal := m_X3_parseSum) (n := 0) (as := []) (S := []) dX3_parsePart_158 rfl l_X3_98 k_X3_parseSum rfl L_3 c_X3 rfl rfl (Nat.le_of_ble_eq_true rfl) (by omega) ⟨Nat.le_refl _, Nat.le_refl _, Nat.le_refl _, Nat.le_refl _⟩ h (fun r M' q => ?_)
                  obtain ⟨v44, I45, J46, rfl, rfl, h⟩ := q
                  change WP _ LAY m_X3_parsePart 161 [(1, vI (gi I 1 5)), (0, vR (some 3))] [vI v44] (mem (some 22, some 5, some 22) I45 J46) Q
                  obtain ⟨e47, h⟩ := h
                  refine st_if_eq (tg := 177) (pc' := 164) dX3_parsePart_161 (by decide) rfl e47 (fun c => ?_) (fun c => ?_)
                  · replace h := h.1 c
                    refine st_iconst (pc' := 178) dX3_parsePart_177 rfl ?_
                    refine st_istore_n (pc' := 179) (L' := [(2, vI 0), (1, vI (gi I 1 5)), (0, vR (some 3))]) dX3_parsePart_178 rfl rfl (by decide) rfl ?_
                    refine st_aload_n (pc' := 180) dX3_parsePart_179 rfl rfl (j := 2) rfl ?_
                    refine G_X3_19_3 dX3_parsePart_180 (pc' := 183) rfl rfl ?_
                    refine st_iload_n (pc' := 184) dX3_parsePart_183 rfl rfl (j := 1) rfl ?_
                    refine st_bipush (pc' := 186) dX3_parsePart_184 rfl (by decide) ?_
                    refine st_icmp_ne (tg := 195) (pc' := 189) dX3_parsePart_186 (by decide) rfl (gi_in _ _ _) (by decide) (fun c => ?_) (fun c => ?_)
                    · replace h := h.1 c
                      refine st_sipush (pc' := 198) dX3_parsePart_195 rfl (by decide) ?_
                      refine st_callV (pc' := 201) (kc := k - 1) (E' := LAY) (cal := m_X7_emit) (n := 1) (as := [vI 10106]) (S := []) dX3_parsePart_198 rfl l_X3_165 k_X7_emit rfl L_22 c_X7 rfl rfl (Nat.le_of_ble_eq_true rfl) (by omega) ⟨Nat.le_refl _, Nat.le_refl _, Nat.le_refl _, Nat.le_refl _⟩ h (fun r M' q => ?_)
                      obtain ⟨I49, J50, rfl, rfl, h⟩ := q
                      change WP _ LAY m_X3_parsePart 201 [(2, vI 0), (1, vI (gi I 1 5)), (0, vR (some 3))] [] (mem (some 22, some 5, some 22) I49 J50) Q
                      refine st_iload_n (pc' := 202) dX3_parsePart_201 rfl rfl (j := 0) rfl ?_
                      exact st_iret (ty := .boolean) dX3_parsePart_202 rfl (by decide) rfl h
                    · replace h := h.2 c
                      refine st_sipush (pc' := 192) dX3_parsePart_189 rfl (by decide) ?_
                      refine st_goto (pc' := 198) dX3_parsePart_192 (by decide) ?_
                      refine st_callV (pc' := 201) (kc := k - 1) (E' := LAY) (cal := m_X7_emit) (n := 1) (as := [vI 10105]) (S := []) dX3_parsePart_198 rfl l_X3_165 k_X7_emit rfl L_22 c_X7 rfl rfl (Nat.le_of_ble_eq_true rfl) (by omega) ⟨Nat.le_refl _, Nat.le_refl _, Nat.le_refl _, Nat.le_refl _⟩ h (fun r M' q => ?_)
                      obtain ⟨I52, J53, rfl, rfl, h⟩ := q
                      change WP _ LAY m_X3_parsePart 201 [(2, vI 0), (1, vI (gi I 1 5)), (0, vR (some 3))] [] (mem (some 22, some 5, some 22) I52 J53) Q
                      refine st_iload_n (pc' := 202) dX3_parsePart_201 rfl rfl (j := 0) rfl ?_
                      exact st_iret (ty := .boolean) dX3_parsePart_202 rfl (by decide) rfl h
                  · replace h := h.2 c
                    refine st_aload_n (pc' := 165) dX3_parsePart_164 rfl rfl (j := 1) rfl ?_
                    refine st_bipush (pc' := 167) dX3_parsePart_165 rfl (by decide) ?_
                    refine st_callV (pc' := 170) (kc := k - 1) (E' := LAY) (cal := m_X3_closeOne) (n := 1) (as := [vI 41]) (S := []) dX3_parsePart_167 rfl l_X3_181 k_X3_closeOne rfl L_3 c_X3 rfl rfl (Nat.le_of_ble_eq_true rfl) (by omega) ⟨Nat.le_refl _, Nat.le_refl _, Nat.le_refl _, Nat.le_refl _⟩ h (fun r M' q => ?_)
                    obtain ⟨v54, I55, J56, rfl, rfl, h⟩ := q
                    change WP _ LAY m_X3_parsePart 170 [(1, vI (gi I 1 5)), (0, vR (some 3))] [vI v54] (mem (some 22, some 5, some 22) I55 J56) Q
                    obtain ⟨e57, h⟩ := h
                    refine st_if_eq (tg := 177) (pc' := 173) dX3_parsePart_170 (by decide) rfl e57 (fun c => ?_) (fun c => ?_)
                    · replace h := h.1 c
                      refine st_iconst (pc' := 178) dX3_parsePart_177 rfl ?_
                      refine st_istore_n (pc' := 179) (L' := [(2, vI 0), (1, vI (gi I 1 5)), (0, vR (some 3))]) dX3_parsePart_178 rfl rfl (by decide) rfl ?_
                      refine st_aload_n (pc' := 180) dX3_parsePart_179 rfl rfl (j := 2) rfl ?_
                      refine G_X3_19_3 dX3_parsePart_180 (pc' := 183) rfl rfl ?_
                      refine st_iload_n (pc' := 184) dX3_parsePart_183 rfl rfl (j := 1) rfl ?_
                      refine st_bipush (pc' := 186) dX3_parsePart_184 rfl (by decide) ?_
                      refine st_icmp_ne (tg := 195) (pc' := 189) dX3_parsePart_186 (by decide) rfl (gi_in _ _ _) (by decide) (fun c => ?_) (fun c => ?_)
                      · replace h := h.1 c
                        refine st_sipush (pc' := 198) dX3_parsePart_195 rfl (by decide) ?_
                        refine st_callV (pc' := 201) (kc := k - 1) (E' := LAY) (cal := m_X7_emit) (n := 1) (as := [vI 10106]) (S := []) dX3_parsePart_198 rfl l_X3_165 k_X7_emit rfl L_22 c_X7 rfl rfl (Nat.le_of_ble_eq_true rfl) (by omega) ⟨Nat.le_refl _, Nat.le_refl _, Nat.le_refl _, Nat.le_refl _⟩ h (fun r M' q => ?_)
                        obtain ⟨I59, J60, rfl, rfl, h⟩ := q
                        change WP _ LAY m_X3_parsePart 201 [(2, vI 0), (1, vI (gi I 1 5)), (0, vR (some 3))] [] (mem (some 22, some 5, some 22) I59 J60) Q
                        refine st_iload_n (pc' := 202) dX3_parsePart_201 rfl rfl (j := 0) rfl ?_
                        exact st_iret (ty := .boolean) dX3_parsePart_202 rfl (by decide) rfl h
                      · replace h := h.2 c
                        refine st_sipush (pc' := 192) dX3_parsePart_189 rfl (by decide) ?_
                        refine st_goto (pc' := 198) dX3_parsePart_192 (by decide) ?_
                        refine st_callV (pc' := 201) (kc := k - 1) (E' := LAY) (cal := m_X7_emit) (n := 1) (as := [vI 10105]) (S := []) dX3_parsePart_198 rfl l_X3_165 k_X7_emit rfl L_22 c_X7 rfl rfl (Nat.le_of_ble_eq_true rfl) (by omega) ⟨Nat.le_refl _, Nat.le_refl _, Nat.le_refl _, Nat.le_refl _⟩ h (fun r M' q => ?_)
                        obtain ⟨I62, J63, rfl, rfl, h⟩ := q
                        change WP _ LAY m_X3_parsePart 201 [(2, vI 0), (1, vI (gi I 1 5)), (0, vR (some 3))] [] (mem (some 22, some 5, some 22) I62 J63) Q
                        refine st_iload_n (pc' := 202) dX3_parsePart_201 rfl rfl (j := 0) rfl ?_
                        exact st_iret (ty := .boolean) dX3_parsePart_202 rfl (by decide) rfl h
                    · replace h := h.2 c
                      refine st_iconst (pc' := 174) dX3_parsePart_173 rfl ?_
                      refine st_goto (pc' := 178) dX3_parsePart_174 (by decide) ?_
                      refine st_istore_n (pc' := 179) (L' := [(2, vI 1), (1, vI (gi I 1 5)), (0, vR (some 3))]) dX3_parsePart_178 rfl rfl (by decide) rfl ?_
                      refine st_aload_n (pc' := 180) dX3_parsePart_179 rfl rfl (j := 2) rfl ?_
                      refine G_X3_19_3 dX3_parsePart_180 (pc' := 183) rfl rfl ?_
                      refine st_iload_n (pc' := 184) dX3_parsePart_183 rfl rfl (j := 1) rfl ?_
                      refine st_bipush (pc' := 186) dX3_parsePart_184 rfl (by decide) ?_
                      refine st_icmp_ne (tg := 195) (pc' := 189) dX3_parsePart_186 (by decide) rfl (gi_in _ _ _) (by decide) (fun c => ?_) (fun c => ?_)
                      · replace h := h.1 c
                        refine st_sipush (pc' := 198) dX3_parsePart_195 rfl (by decide) ?_
                        refine st_callV (pc' := 201) (kc := k - 1) (E' := LAY) (cal := m_X7_emit) (n := 1) (as := [vI 10106]) (S := []) dX3_parsePart_198 rfl l_X3_165 k_X7_emit rfl L_22 c_X7 rfl rfl (Nat.le_of_ble_eq_true rfl) (by omega) ⟨Nat.le_refl _, Nat.le_refl _, Nat.le_refl _, Nat.le_refl _⟩ h (fun r M' q => ?_)
                        obtain ⟨I65, J66, rfl, rfl, h⟩ := q
                        change WP _ LAY m_X3_parsePart 201 [(2, vI 1), (1, vI (gi I 1 5)), (0, vR (some 3))] [] (mem (some 22, some 5, some 22) I65 J66) Q
                        refine st_iload_n (pc' := 202) dX3_parsePart_201 rfl rfl (j := 0) rfl ?_
                        exact st_iret (ty := .boolean) dX3_parsePart_202 rfl (by decide) rfl h
                      · replace h := h.2 c
                        refine st_sipush (pc' := 192) dX3_parsePart_189 rfl (by decide) ?_
                        refine st_goto (pc' := 198) dX3_parsePart_192 (by decide) ?_
                        refine st_callV (pc' := 201) (kc := k - 1) (E' := LAY) (cal := m_X7_emit) (n := 1) (as := [vI 10105]) (S := []) dX3_parsePart_198 rfl l_X3_165 k_X7_emit rfl L_22 c_X7 rfl rfl (Nat.le_of_ble_eq_true rfl) (by omega) ⟨Nat.le_refl _, Nat.le_refl _, Nat.le_refl _, Nat.le_refl _⟩ h (fun r M' q => ?_)
                        obtain ⟨I68, J69, rfl, rfl, h⟩ := q
                        change WP _ LAY m_X3_parsePart 201 [(2, vI 1), (1, vI (gi I 1 5)), (0, vR (some 3))] [] (mem (some 22, some 5, some 22) I68 J69) Q
                        refine st_iload_n (pc' := 202) dX3_parsePart_201 rfl rfl (j := 0) rfl ?_
                        exact st_iret (ty := .boolean) dX3_parsePart_202 rfl (by decide) rfl h
          · replace h := h.2 (b2i_f.mp c)
            refine st_aload_n (pc' := 130) dX3_parsePart_129 rfl rfl (j := 1) rfl ?_
            refine st_callV (pc' := 133) (kc := k - 1) (E' := LAY) (cal := m_X3_refuseWord) (n := 0) (as := []) (S := []) dX3_parsePart_130 rfl l_X3_67 k_X3_refuseWord rfl L_3 c_X3 rfl rfl (Nat.le_of_ble_eq_true rfl) (by omega) ⟨Nat.le_refl _, Nat.le_refl _, Nat.le_refl _, Nat.le_refl _⟩ (Q1 := fun r M' => WP k LAY m_X3_parsePart 133 [(1, vI (gi I 1 5)), (0, vR (some 3))] (r.toList ++ []) M' Q) (WPm.of k_X3_refuseWord.1 (Nat.le_of_ble_eq_true rfl) (B_X3_refuseWord_0 (by omega) ?_)) (fun r M' q => q)
            change WP _ LAY m_X3_parsePart 133 [(1, vI (gi I 1 5)), (0, vR (some 3))] [vI 0] (mem (some 22, some 5, some 22) (si (si I12 3 2 1) 3 3 (gi I12 1 6)) J13) Q
            exact st_iret (ty := .boolean) dX3_parsePart_133 rfl (by decide) rfl h
        · replace h := h.2 c
          refine st_iload_n (pc' := 105) dX3_parsePart_104 rfl rfl (j := 0) rfl ?_
          refine st_bipush (pc' := 107) dX3_parsePart_105 rfl (by decide) ?_
          refine st_icmp_ne (tg := 203) (pc' := 110) dX3_parsePart_107 (by decide) rfl (gi_in _ _ _) (by decide) (fun c => ?_) (fun c => ?_)
          · replace h := h.1 c
            refine st_iload_n (pc' := 204) dX3_parsePart_203 rfl rfl (j := 0) rfl ?_
            refine st_callS (pc' := 207) (kc := k - 1) (E' := LAY) (cal := m_X3_isValue) (n := 1) (as := [vI (gi I 1 5)]) (S := []) dX3_parsePart_204 rfl l_X3_203 k_X3_isValue rfl rfl (Nat.le_of_ble_eq_true rfl) (by omega) ⟨Nat.le_refl _, Nat.le_refl _, Nat.le_refl _, Nat.le_refl _⟩ h (fun r M' q => ?_)
            obtain ⟨v70, I71, J72, rfl, rfl, h⟩ := q
            change WP _ LAY m_X3_parsePart 207 [(1, vI (gi I 1 5)), (0, vR (some 3))] [vI v70] (mem (some 22, some 5, some 22) I71 J72) Q
            obtain ⟨e73, h⟩ := h
            refine st_if_ne (tg := 215) (pc' := 210) dX3_parsePart_207 (by decide) rfl e73 (fun c => ?_) (fun c => ?_)
            · replace h := h.1 c
              refine st_aload_n (pc' := 216) dX3_parsePart_215 rfl rfl (j := 1) rfl ?_
              refine G_X3_19_3 dX3_parsePart_216 (pc' := 219) rfl rfl ?_
              refine st_sipush (pc' := 222) dX3_parsePart_219 rfl (by decide) ?_
              refine st_iload_n (pc' := 223) dX3_parsePart_222 rfl rfl (j := 0) rfl ?_
              refine st_iadd (pc' := 224) dX3_parsePart_223 rfl ?_
              refine st_callV (pc' := 227) (kc := k - 1) (E' := LAY) (cal := m_X7_emit) (n := 1) (as := [vI (10000 + (gi I 1 5))]) (S := []) dX3_parsePart_224 rfl l_X3_165 k_X7_emit rfl L_22 c_X7 rfl rfl (Nat.le_of_ble_eq_true rfl) (by omega) ⟨Nat.le_refl _, Nat.le_refl _, Nat.le_refl _, Nat.le_refl _⟩ h (fun r M' q => ?_)
              obtain ⟨I75, J76, rfl, rfl, h⟩ := q
              change WP _ LAY m_X3_parsePart 227 [(1, vI (gi I 1 5)), (0, vR (some 3))] [] (mem (some 22, some 5, some 22) I75 J76) Q
              refine st_aload_n (pc' := 228) dX3_parsePart_227 rfl rfl (j := 1) rfl ?_
              refine G_X3_15_3 dX3_parsePart_228 (pc' := 231) rfl rfl ?_
              refine st_callV (pc' := 234) (kc := k - 1) (E' := LAY) (cal := m_X10_step) (n := 0) (as := []) (S := []) dX3_parsePart_231 rfl l_X3_74 k_X10_step rfl L_1 c_X10 rfl rfl (Nat.le_of_ble_eq_true rfl) (by omega) ⟨Nat.le_refl _, Nat.le_refl _, Nat.le_refl _, Nat.le_refl _⟩ h (fun r M' q => ?_)
              obtain ⟨I78, J79, rfl, rfl, h⟩ := q
              change WP _ LAY m_X3_parsePart 234 [(1, vI (gi I 1 5)), (0, vR (some 3))] [] (mem (some 22, some 5, some 22) I78 J79) Q
              refine st_iconst (pc' := 235) dX3_parsePart_234 rfl ?_
              exact st_iret (ty := .boolean) dX3_parsePart_235 rfl (by decide) rfl h
            · replace h := h.2 c
              refine st_aload_n (pc' := 211) dX3_parsePart_210 rfl rfl (j := 1) rfl ?_
              refine st_callV (pc' := 214) (kc := k - 1) (E' := LAY) (cal := m_X3_refuseWord) (n := 0) (as := []) (S := []) dX3_parsePart_211 rfl l_X3_67 k_X3_refuseWord rfl L_3 c_X3 rfl rfl (Nat.le_of_ble_eq_true rfl) (by omega) ⟨Nat.le_refl _, Nat.le_refl _, Nat.le_refl _, Nat.le_refl _⟩ (Q1 := fun r M' => WP k LAY m_X3_parsePart 214 [(1, vI (gi I 1 5)), (0, vR (some 3))] (r.toList ++ []) M' Q) (WPm.of k_X3_refuseWord.1 (Nat.le_of_ble_eq_true rfl) (B_X3_refuseWord_0 (by omega) ?_)) (fun r M' q => q)
              change WP _ LAY m_X3_parsePart 214 [(1, vI (gi I 1 5)), (0, vR (some 3))] [vI 0] (mem (some 22, some 5, some 22) (si (si I71 3 2 1) 3 3 (gi I71 1 6)) J72) Q
              exact st_iret (ty := .boolean) dX3_parsePart_214 rfl (by decide) rfl h
          · replace h := h.2 c
            refine st_aload_n (pc' := 111) dX3_parsePart_110 rfl rfl (j := 1) rfl ?_
            refine G_X3_15_3 dX3_parsePart_111 (pc' := 114) rfl rfl ?_
            refine st_callV (pc' := 117) (kc := k - 1) (E' := LAY) (cal := m_X10_step) (n := 0) (as := []) (S := []) dX3_parsePart_114 rfl l_X3_74 k_X10_step rfl L_1 c_X10 rfl rfl (Nat.le_of_ble_eq_true rfl) (by omega) ⟨Nat.le_refl _, Nat.le_refl _, Nat.le_refl _, Nat.le_refl _⟩ h (fun r M' q => ?_)
            obtain ⟨I81, J82, rfl, rfl, h⟩ := q
            change WP _ LAY m_X3_parsePart 117 [(1, vI (gi I 1 5)), (0, vR (some 3))] [] (mem (some 22, some 5, some 22) I81 J82) Q
            refine st_aload_n (pc' := 118) dX3_parsePart_117 rfl rfl (j := 1) rfl ?_
            refine G_X3_15_3 dX3_parsePart_118 (pc' := 121) rfl rfl ?_
            refine st_bipush (pc' := 123) dX3_parsePart_121 rfl (by decide) ?_
            refine st_callV (pc' := 126) (kc := k - 1) (E' := LAY) (cal := m_X10_isSign) (n := 1) (as := [vI 40]) (S := []) dX3_parsePart_123 rfl l_X3_178 k_X10_isSign rfl L_1 c_X10 rfl rfl (Nat.le_of_ble_eq_true rfl) (by omega) ⟨Nat.le_refl _, Nat.le_refl _, Nat.le_refl _, Nat.le_refl _⟩ (Q1 := fun r M' => WP k LAY m_X3_parsePart 126 [(1, vI (gi I 1 5)), (0, vR (some 3))] (r.toList ++ []) M' Q) (S_X10_isSign (by omega) (by decide) ?_) (fun r M' q => q)
            change WP _ LAY m_X3_parsePart 126 [(1, vI (gi I 1 5)), (0, vR (some 3))] [vI (b2i (gi I81 1 2 = 4 ∧ gi I81 1 5 = 40))] (mem (some 22, some 5, some 22) I81 J82) Q
            refine st_if_ne (tg := 134) (pc' := 129) dX3_parsePart_126 (by decide) rfl (b2i_in _) (fun c => ?_) (fun c => ?_)
            · replace h := h.1 (b2i_t.mp c)
              refine st_aload_n (pc' := 135) dX3_parsePart_134 rfl rfl (j := 1) rfl ?_
              refine st_callV (pc' := 138) (kc := k - 1) (E' := LAY) (cal := m_X3_openOne) (n := 0) (as := []) (S := []) dX3_parsePart_135 rfl l_X3_172 k_X3_openOne rfl L_3 c_X3 rfl rfl (Nat.le_of_ble_eq_true rfl) (by omega) ⟨Nat.le_refl _, Nat.le_refl _, Nat.le_refl _, Nat.le_refl _⟩ h (fun r M' q => ?_)
              obtain ⟨v83, I84, J85, rfl, rfl, h⟩ := q
              change WP _ LAY m_X3_parsePart 138 [(1, vI (gi I 1 5)), (0, vR (some 3))] [vI v83] (mem (some 22, some 5, some 22) I84 J85) Q
              obtain ⟨e86, h⟩ := h
              refine st_if_eq (tg := 177) (pc' := 141) dX3_parsePart_138 (by decide) rfl e86 (fun c => ?_) (fun c => ?_)
              · replace h := h.1 c
                refine st_iconst (pc' := 178) dX3_parsePart_177 rfl ?_
                refine st_istore_n (pc' := 179) (L' := [(2, vI 0), (1, vI (gi I 1 5)), (0, vR (some 3))]) dX3_parsePart_178 rfl rfl (by decide) rfl ?_
                refine st_aload_n (pc' := 180) dX3_parsePart_179 rfl rfl (j := 2) rfl ?_
                refine G_X3_19_3 dX3_parsePart_180 (pc' := 183) rfl rfl ?_
                refine st_iload_n (pc' := 184) dX3_parsePart_183 rfl rfl (j := 1) rfl ?_
                refine st_bipush (pc' := 186) dX3_parsePart_184 rfl (by decide) ?_
                refine st_icmp_ne (tg := 195) (pc' := 189) dX3_parsePart_186 (by decide) rfl (gi_in _ _ _) (by decide) (fun c => ?_) (fun c => ?_)
                · replace h := h.1 c
                  refine st_sipush (pc' := 198) dX3_parsePart_195 rfl (by decide) ?_
                  refine st_callV (pc' := 201) (kc := k - 1) (E' := LAY) (cal := m_X7_emit) (n := 1) (as := [vI 10106]) (S := []) dX3_parsePart_198 rfl l_X3_165 k_X7_emit rfl L_22 c_X7 rfl rfl (Nat.le_of_ble_eq_true rfl) (by omega) ⟨Nat.le_refl _, Nat.le_refl _, Nat.le_refl _, Nat.le_refl _⟩ h (fun r M' q => ?_)
                  obtain ⟨I88, J89, rfl, rfl, h⟩ := q
                  change WP _ LAY m_X3_parsePart 201 [(2, vI 0), (1, vI (gi I 1 5)), (0, vR (some 3))] [] (mem (some 22, some 5, some 22) I88 J89) Q
                  refine st_iload_n (pc' := 202) dX3_parsePart_201 rfl rfl (j := 0) rfl ?_
                  exact st_iret (ty := .boolean) dX3_parsePart_202 rfl (by decide) rfl h
                · replace h := h.2 c
                  refine st_sipush (pc' := 192) dX3_parsePart_189 rfl (by decide) ?_
                  refine st_goto (pc' := 198) dX3_parsePart_192 (by decide) ?_
                  refine st_callV (pc' := 201) (kc := k - 1) (E' := LAY) (cal := m_X7_emit) (n := 1) (as := [vI 10105]) (S := []) dX3_parsePart_198 rfl l_X3_165 k_X7_emit rfl L_22 c_X7 rfl rfl (Nat.le_of_ble_eq_true rfl) (by omega) ⟨Nat.le_refl _, Nat.le_refl _, Nat.le_refl _, Nat.le_refl _⟩ h (fun r M' q => ?_)
                  obtain ⟨I91, J92, rfl, rfl, h⟩ := q
                  change WP _ LAY m_X3_parsePart 201 [(2, vI 0), (1, vI (gi I 1 5)), (0, vR (some 3))] [] (mem (some 22, some 5, some 22) I91 J92) Q
                  refine st_iload_n (pc' := 202) dX3_parsePart_201 rfl rfl (j := 0) rfl ?_
                  exact st_iret (ty := .boolean) dX3_parsePart_202 rfl (by decide) rfl h
              · replace h := h.2 c
                refine st_aload_n (pc' := 142) dX3_parsePart_141 rfl rfl (j := 1) rfl ?_
                refine st_callV (pc' := 145) (kc := k - 1) (E' := LAY) (cal := m_X3_parseSum) (n := 0) (as := []) (S := []) dX3_parsePart_142 rfl l_X3_98 k_X3_parseSum rfl L_3 c_X3 rfl rfl (Nat.le_of_ble_eq_true rfl) (by omega) ⟨Nat.le_refl _, Nat.le_refl _, Nat.le_refl _, Nat.le_refl _⟩ h (fun r M' q => ?_)
                obtain ⟨v93, I94, J95, rfl, rfl, h⟩ := q
                change WP _ LAY m_X3_parsePart 145 [(1, vI (gi I 1 5)), (0, vR (some 3))] [vI v93] (mem (some 22, some 5, some 22) I94 J95) Q
                obtain ⟨e96, h⟩ := h
                refine st_if_eq (tg := 177) (pc' := 148) dX3_parsePart_145 (by decide) rfl e96 (fun c => ?_) (fun c => ?_)
                · replace h := h.1 c
                  refine st_iconst (pc' := 178) dX3_parsePart_177 rfl ?_
                  refine st_istore_n (pc' := 179) (L' := [(2, vI 0), (1, vI (gi I 1 5)), (0, vR (some 3))]) dX3_parsePart_178 rfl rfl (by decide) rfl ?_
                  refine st_aload_n (pc' := 180) dX3_parsePart_179 rfl rfl (j := 2) rfl ?_
                  refine G_X3_19_3 dX3_parsePart_180 (pc' := 183) rfl rfl ?_
                  refine st_iload_n (pc' := 184) dX3_parsePart_183 rfl rfl (j := 1) rfl ?_
                  refine st_bipush (pc' := 186) dX3_parsePart_184 rfl (by decide) ?_
                  refine st_icmp_ne (tg := 195) (pc' := 189) dX3_parsePart_186 (by decide) rfl (gi_in _ _ _) (by decide) (fun c => ?_) (fun c => ?_)
                  · replace h := h.1 c
                    refine st_sipush (pc' := 198) dX3_parsePart_195 rfl (by decide) ?_
                    refine st_callV (pc' := 201) (kc := k - 1) (E' := LAY) (cal := m_X7_emit) (n := 1) (as := [vI 10106]) (S := []) dX3_parsePart_198 rfl l_X3_165 k_X7_emit rfl L_22 c_X7 rfl rfl (Nat.le_of_ble_eq_true rfl) (by omega) ⟨Nat.le_refl _, Nat.le_refl _, Nat.le_refl _, Nat.le_refl _⟩ h (fun r M' q => ?_)
                    obtain ⟨I98, J99, rfl, rfl, h⟩ := q
                    change WP _ LAY m_X3_parsePart 201 [(2, vI 0), (1, vI (gi I 1 5)), (0, vR (some 3))] [] (mem (some 22, some 5, some 22) I98 J99) Q
                    refine st_iload_n (pc' := 202) dX3_parsePart_201 rfl rfl (j := 0) rfl ?_
                    exact st_iret (ty := .boolean) dX3_parsePart_202 rfl (by decide) rfl h
                  · replace h := h.2 c
                    refine st_sipush (pc' := 192) dX3_parsePart_189 rfl (by decide) ?_
                    refine st_goto (pc' := 198) dX3_parsePart_192 (by decide) ?_
                    refine st_callV (pc' := 201) (kc := k - 1) (E' := LAY) (cal := m_X7_emit) (n := 1) (as := [vI 10105]) (S := []) dX3_parsePart_198 rfl l_X3_165 k_X7_emit rfl L_22 c_X7 rfl rfl (Nat.le_of_ble_eq_true rfl) (by omega) ⟨Nat.le_refl _, Nat.le_refl _, Nat.le_refl _, Nat.le_refl _⟩ h (fun r M' q => ?_)
                    obtain ⟨I101, J102, rfl, rfl, h⟩ := q
                    change WP _ LAY m_X3_parsePart 201 [(2, vI 0), (1, vI (gi I 1 5)), (0, vR (some 3))] [] (mem (some 22, some 5, some 22) I101 J102) Q
                    refine st_iload_n (pc' := 202) dX3_parsePart_201 rfl rfl (j := 0) rfl ?_
                    exact st_iret (ty := .boolean) dX3_parsePart_202 rfl (by decide) rfl h
                · replace h := h.2 c
                  refine st_aload_n (pc' := 149) dX3_parsePart_148 rfl rfl (j := 1) rfl ?_
                  refine st_bipush (pc' := 151) dX3_parsePart_149 rfl (by decide) ?_
                  refine st_callV (pc' := 154) (kc := k - 1) (E' := LAY) (cal := m_X3_wantSign) (n := 1) (as := [vI 44]) (S := []) dX3_parsePart_151 rfl l_X3_107 k_X3_wantSign rfl L_3 c_X3 rfl rfl (Nat.le_of_ble_eq_true rfl) (by omega) ⟨Nat.le_refl _, Nat.le_refl _, Nat.le_refl _, Nat.le_refl _⟩ h (fun r M' q => ?_)
                  obtain ⟨v103, I104, J105, rfl, rfl, h⟩ := q
                  change WP _ LAY m_X3_parsePart 154 [(1, vI (gi I 1 5)), (0, vR (some 3))] [vI v103] (mem (some 22, some 5, some 22) I104 J105) Q
                  obtain ⟨e106, h⟩ := h
                  refine st_if_eq (tg := 177) (pc' := 157) dX3_parsePart_154 (by decide) rfl e106 (fun c => ?_) (fun c => ?_)
                  · replace h := h.1 c
                    refine st_iconst (pc' := 178) dX3_parsePart_177 rfl ?_
                    refine st_istore_n (pc' := 179) (L' := [(2, vI 0), (1, vI (gi I 1 5)), (0, vR (some 3))]) dX3_parsePart_178 rfl rfl (by decide) rfl ?_
                    refine st_aload_n (pc' := 180) dX3_parsePart_179 rfl rfl (j := 2) rfl ?_
                    refine G_X3_19_3 dX3_parsePart_180 (pc' := 183) rfl rfl ?_
                    refine st_iload_n (pc' := 184) dX3_parsePart_183 rfl rfl (j := 1) rfl ?_
                    refine st_bipush (pc' := 186) dX3_parsePart_184 rfl (by decide) ?_
                    refine st_icmp_ne (tg := 195) (pc' := 189) dX3_parsePart_186 (by decide) rfl (gi_in _ _ _) (by decide) (fun c => ?_) (fun c => ?_)
                    · replace h := h.1 c
                      refine st_sipush (pc' := 198) dX3_parsePart_195 rfl (by decide) ?_
                      refine st_callV (pc' := 201) (kc := k - 1) (E' := LAY) (cal := m_X7_emit) (n := 1) (as := [vI 10106]) (S := []) dX3_parsePart_198 rfl l_X3_165 k_X7_emit rfl L_22 c_X7 rfl rfl (Nat.le_of_ble_eq_true rfl) (by omega) ⟨Nat.le_refl _, Nat.le_refl _, Nat.le_refl _, Nat.le_refl _⟩ h (fun r M' q => ?_)
                      obtain ⟨I108, J109, rfl, rfl, h⟩ := q
                      change WP _ LAY m_X3_parsePart 201 [(2, vI 0), (1, vI (gi I 1 5)), (0, vR (some 3))] [] (mem (some 22, some 5, some 22) I108 J109) Q
                      refine st_iload_n (pc' := 202) dX3_parsePart_201 rfl rfl (j := 0) rfl ?_
                      exact st_iret (ty := .boolean) dX3_parsePart_202 rfl (by decide) rfl h
                    · replace h := h.2 c
                      refine st_sipush (pc' := 192) dX3_parsePart_189 rfl (by decide) ?_
                      refine st_goto (pc' := 198) dX3_parsePart_192 (by decide) ?_
                      refine st_callV (pc' := 201) (kc := k - 1) (E' := LAY) (cal := m_X7_emit) (n := 1) (as := [vI 10105]) (S := []) dX3_parsePart_198 rfl l_X3_165 k_X7_emit rfl L_22 c_X7 rfl rfl (Nat.le_of_ble_eq_true rfl) (by omega) ⟨Nat.le_refl _, Nat.le_refl _, Nat.le_refl _, Nat.le_refl _⟩ h (fun r M' q => ?_)
                      obtain ⟨I111, J112, rfl, rfl, h⟩ := q
                      change WP _ LAY m_X3_parsePart 201 [(2, vI 0), (1, vI (gi I 1 5)), (0, vR (some 3))] [] (mem (some 22, some 5, some 22) I111 J112) Q
                      refine st_iload_n (pc' := 202) dX3_parsePart_201 rfl rfl (j := 0) rfl ?_
                      exact st_iret (ty := .boolean) dX3_parsePart_202 rfl (by decide) rfl h
                  · replace h := h.2 c
                    refine st_aload_n (pc' := 158) dX3_parsePart_157 rfl rfl (j := 1) rfl ?_
                    refine st_callV (pc' := 161) (kc := k - 1) (E' := LAY) (cal := m_X3_parseSum) (n := 0) (as := []) (S := []) dX3_parsePart_158 rfl l_X3_98 k_X3_parseSum rfl L_3 c_X3 rfl rfl (Nat.le_of_ble_eq_true rfl) (by omega) ⟨Nat.le_refl _, Nat.le_refl _, Nat.le_refl _, Nat.le_refl _⟩ h (fun r M' q => ?_)
                    obtain ⟨v113, I114, J115, rfl, rfl, h⟩ := q
                    change WP _ LAY m_X3_parsePart 161 [(1, vI (gi I 1 5)), (0, vR (some 3))] [vI v113] (mem (some 22, some 5, some 22) I114 J115) Q
                    obtain ⟨e116, h⟩ := h
                    refine st_if_eq (tg := 177) (pc' := 164) dX3_parsePart_161 (by decide) rfl e116 (fun c => ?_) (fun c => ?_)
                    · replace h := h.1 c
                      refine st_iconst (pc' := 178) dX3_parsePart_177 rfl ?_
                      refine st_istore_n (pc' := 179) (L' := [(2, vI 0), (1, vI (gi I 1 5)), (0, vR (some 3))]) dX3_parsePart_178 rfl rfl (by decide) rfl ?_
                      refine st_aload_n (pc' := 180) dX3_parsePart_179 rfl rfl (j := 2) rfl ?_
                      refine G_X3_19_3 dX3_parsePart_180 (pc' := 183) rfl rfl ?_
                      refine st_iload_n (pc' := 184) dX3_parsePart_183 rfl rfl (j := 1) rfl ?_
                      refine st_bipush (pc' := 186) dX3_parsePart_184 rfl (by decide) ?_
                      refine st_icmp_ne (tg := 195) (pc' := 189) dX3_parsePart_186 (by decide) rfl (gi_in _ _ _) (by decide) (fun c => ?_) (fun c => ?_)
                      · replace h := h.1 c
                        refine st_sipush (pc' := 198) dX3_parsePart_195 rfl (by decide) ?_
                        refine st_callV (pc' := 201) (kc := k - 1) (E' := LAY) (cal := m_X7_emit) (n := 1) (as := [vI 10106]) (S := []) dX3_parsePart_198 rfl l_X3_165 k_X7_emit rfl L_22 c_X7 rfl rfl (Nat.le_of_ble_eq_true rfl) (by omega) ⟨Nat.le_refl _, Nat.le_refl _, Nat.le_refl _, Nat.le_refl _⟩ h (fun r M' q => ?_)
                        obtain ⟨I118, J119, rfl, rfl, h⟩ := q
                        change WP _ LAY m_X3_parsePart 201 [(2, vI 0), (1, vI (gi I 1 5)), (0, vR (some 3))] [] (mem (some 22, some 5, some 22) I118 J119) Q
                        refine st_iload_n (pc' := 202) dX3_parsePart_201 rfl rfl (j := 0) rfl ?_
                        exact st_iret (ty := .boolean) dX3_parsePart_202 rfl (by decide) rfl h
                      · replace h := h.2 c
                        refine st_sipush (pc' := 192) dX3_parsePart_189 rfl (by decide) ?_
                        refine st_goto (pc' := 198) dX3_parsePart_192 (by decide) ?_
                        refine st_callV (pc' := 201) (kc := k - 1) (E' := LAY) (cal := m_X7_emit) (n := 1) (as := [vI 10105]) (S := []) dX3_parsePart_198 rfl l_X3_165 k_X7_emit rfl L_22 c_X7 rfl rfl (Nat.le_of_ble_eq_true rfl) (by omega) ⟨Nat.le_refl _, Nat.le_refl _, Nat.le_refl _, Nat.le_refl _⟩ h (fun r M' q => ?_)
                        obtain ⟨I121, J122, rfl, rfl, h⟩ := q
                        change WP _ LAY m_X3_parsePart 201 [(2, vI 0), (1, vI (gi I 1 5)), (0, vR (some 3))] [] (mem (some 22, some 5, some 22) I121 J122) Q
                        refine st_iload_n (pc' := 202) dX3_parsePart_201 rfl rfl (j := 0) rfl ?_
                        exact st_iret (ty := .boolean) dX3_parsePart_202 rfl (by decide) rfl h
                    · replace h := h.2 c
                      refine st_aload_n (pc' := 165) dX3_parsePart_164 rfl rfl (j := 1) rfl ?_
                      refine st_bipush (pc' := 167) dX3_parsePart_165 rfl (by decide) ?_
                      refine st_callV (pc' := 170) (kc := k - 1) (E' := LAY) (cal := m_X3_closeOne) (n := 1) (as := [vI 41]) (S := []) dX3_parsePart_167 rfl l_X3_181 k_X3_closeOne rfl L_3 c_X3 rfl rfl (Nat.le_of_ble_eq_true rfl) (by omega) ⟨Nat.le_refl _, Nat.le_refl _, Nat.le_refl _, Nat.le_refl _⟩ h (fun r M' q => ?_)
                      obtain ⟨v123, I124, J125, rfl, rfl, h⟩ := q
                      change WP _ LAY m_X3_parsePart 170 [(1, vI (gi I 1 5)), (0, vR (some 3))] [vI v123] (mem (some 22, some 5, some 22) I124 J125) Q
                      obtain ⟨e126, h⟩ := h
                      refine st_if_eq (tg := 177) (pc' := 173) dX3_parsePart_170 (by decide) rfl e126 (fun c => ?_) (fun c => ?_)
                      · replace h := h.1 c
                        refine st_iconst (pc' := 178) dX3_parsePart_177 rfl ?_
                        refine st_istore_n (pc' := 179) (L' := [(2, vI 0), (1, vI (gi I 1 5)), (0, vR (some 3))]) dX3_parsePart_178 rfl rfl (by decide) rfl ?_
                        refine st_aload_n (pc' := 180) dX3_parsePart_179 rfl rfl (j := 2) rfl ?_
                        refine G_X3_19_3 dX3_parsePart_180 (pc' := 183) rfl rfl ?_
                        refine st_iload_n (pc' := 184) dX3_parsePart_183 rfl rfl (j := 1) rfl ?_
                        refine st_bipush (pc' := 186) dX3_parsePart_184 rfl (by decide) ?_
                        refine st_icmp_ne (tg := 195) (pc' := 189) dX3_parsePart_186 (by decide) rfl (gi_in _ _ _) (by decide) (fun c => ?_) (fun c => ?_)
                        · replace h := h.1 c
                          refine st_sipush (pc' := 198) dX3_parsePart_195 rfl (by decide) ?_
                          refine st_callV (pc' := 201) (kc := k - 1) (E' := LAY) (cal := m_X7_emit) (n := 1) (as := [vI 10106]) (S := []) dX3_parsePart_198 rfl l_X3_165 k_X7_emit rfl L_22 c_X7 rfl rfl (Nat.le_of_ble_eq_true rfl) (by omega) ⟨Nat.le_refl _, Nat.le_refl _, Nat.le_refl _, Nat.le_refl _⟩ h (fun r M' q => ?_)
                          obtain ⟨I128, J129, rfl, rfl, h⟩ := q
                          change WP _ LAY m_X3_parsePart 201 [(2, vI 0), (1, vI (gi I 1 5)), (0, vR (some 3))] [] (mem (some 22, some 5, some 22) I128 J129) Q
                          refine st_iload_n (pc' := 202) dX3_parsePart_201 rfl rfl (j := 0) rfl ?_
                          exact st_iret (ty := .boolean) dX3_parsePart_202 rfl (by decide) rfl h
                        · replace h := h.2 c
                          refine st_sipush (pc' := 192) dX3_parsePart_189 rfl (by decide) ?_
                          refine st_goto (pc' := 198) dX3_parsePart_192 (by decide) ?_
                          refine st_callV (pc' := 201) (kc := k - 1) (E' := LAY) (cal := m_X7_emit) (n := 1) (as := [vI 10105]) (S := []) dX3_parsePart_198 rfl l_X3_165 k_X7_emit rfl L_22 c_X7 rfl rfl (Nat.le_of_ble_eq_true rfl) (by omega) ⟨Nat.le_refl _, Nat.le_refl _, Nat.le_refl _, Nat.le_refl _⟩ h (fun r M' q => ?_)
                          obtain ⟨I131, J132, rfl, rfl, h⟩ := q
                          change WP _ LAY m_X3_parsePart 201 [(2, vI 0), (1, vI (gi I 1 5)), (0, vR (some 3))] [] (mem (some 22, some 5, some 22) I131 J132) Q
                          refine st_iload_n (pc' := 202) dX3_parsePart_201 rfl rfl (j := 0) rfl ?_
                          exact st_iret (ty := .boolean) dX3_parsePart_202 rfl (by decide) rfl h
                      · replace h := h.2 c
                        refine st_iconst (pc' := 174) dX3_parsePart_173 rfl ?_
                        refine st_goto (pc' := 178) dX3_parsePart_174 (by decide) ?_
                        refine st_istore_n (pc' := 179) (L' := [(2, vI 1), (1, vI (gi I 1 5)), (0, vR (some 3))]) dX3_parsePart_178 rfl rfl (by decide) rfl ?_
                        refine st_aload_n (pc' := 180) dX3_parsePart_179 rfl rfl (j := 2) rfl ?_
                        refine G_X3_19_3 dX3_parsePart_180 (pc' := 183) rfl rfl ?_
                        refine st_iload_n (pc' := 184) dX3_parsePart_183 rfl rfl (j := 1) rfl ?_
                        refine st_bipush (pc' := 186) dX3_parsePart_184 rfl (by decide) ?_
                        refine st_icmp_ne (tg := 195) (pc' := 189) dX3_parsePart_186 (by decide) rfl (gi_in _ _ _) (by decide) (fun c => ?_) (fun c => ?_)
                        · replace h := h.1 c
                          refine st_sipush (pc' := 198) dX3_parsePart_195 rfl (by decide) ?_
                          refine st_callV (pc' := 201) (kc := k - 1) (E' := LAY) (cal := m_X7_emit) (n := 1) (as := [vI 10106]) (S := []) dX3_parsePart_198 rfl l_X3_165 k_X7_emit rfl L_22 c_X7 rfl rfl (Nat.le_of_ble_eq_true rfl) (by omega) ⟨Nat.le_refl _, Nat.le_refl _, Nat.le_refl _, Nat.le_refl _⟩ h (fun r M' q => ?_)
                          obtain ⟨I134, J135, rfl, rfl, h⟩ := q
                          change WP _ LAY m_X3_parsePart 201 [(2, vI 1), (1, vI (gi I 1 5)), (0, vR (some 3))] [] (mem (some 22, some 5, some 22) I134 J135) Q
                          refine st_iload_n (pc' := 202) dX3_parsePart_201 rfl rfl (j := 0) rfl ?_
                          exact st_iret (ty := .boolean) dX3_parsePart_202 rfl (by decide) rfl h
                        · replace h := h.2 c
                          refine st_sipush (pc' := 192) dX3_parsePart_189 rfl (by decide) ?_
                          refine st_goto (pc' := 198) dX3_parsePart_192 (by decide) ?_
                          refine st_callV (pc' := 201) (kc := k - 1) (E' := LAY) (cal := m_X7_emit) (n := 1) (as := [vI 10105]) (S := []) dX3_parsePart_198 rfl l_X3_165 k_X7_emit rfl L_22 c_X7 rfl rfl (Nat.le_of_ble_eq_true rfl) (by omega) ⟨Nat.le_refl _, Nat.le_refl _, Nat.le_refl _, Nat.le_refl _⟩ h (fun r M' q => ?_)
                          obtain ⟨I137, J138, rfl, rfl, h⟩ := q
                          change WP _ LAY m_X3_parsePart 201 [(2, vI 1), (1, vI (gi I 1 5)), (0, vR (some 3))] [] (mem (some 22, some 5, some 22) I137 J138) Q
                          refine st_iload_n (pc' := 202) dX3_parsePart_201 rfl rfl (j := 0) rfl ?_
                          exact st_iret (ty := .boolean) dX3_parsePart_202 rfl (by decide) rfl h
            · replace h := h.2 (b2i_f.mp c)
              refine st_aload_n (pc' := 130) dX3_parsePart_129 rfl rfl (j := 1) rfl ?_
              refine st_callV (pc' := 133) (kc := k - 1) (E' := LAY) (cal := m_X3_refuseWord) (n := 0) (as := []) (S := []) dX3_parsePart_130 rfl l_X3_67 k_X3_refuseWord rfl L_3 c_X3 rfl rfl (Nat.le_of_ble_eq_true rfl) (by omega) ⟨Nat.le_refl _, Nat.le_refl _, Nat.le_refl _, Nat.le_refl _⟩ (Q1 := fun r M' => WP k LAY m_X3_parsePart 133 [(1, vI (gi I 1 5)), (0, vR (some 3))] (r.toList ++ []) M' Q) (WPm.of k_X3_refuseWord.1 (Nat.le_of_ble_eq_true rfl) (B_X3_refuseWord_0 (by omega) ?_)) (fun r M' q => q)
              change WP _ LAY m_X3_parsePart 133 [(1, vI (gi I 1 5)), (0, vR (some 3))] [vI 0] (mem (some 22, some 5, some 22) (si (si I81 3 2 1) 3 3 (gi I81 1 6)) J82) Q
              exact st_iret (ty := .boolean) dX3_parsePart_133 rfl (by decide) rfl h
    · replace h := h.2 (b2i_t.mp c)
      refine st_aload_n (pc' := 47) dX3_parsePart_46 rfl rfl (j := 0) rfl ?_
      refine st_callV (pc' := 50) (kc := k - 1) (E' := LAY) (cal := m_X3_openOne) (n := 0) (as := []) (S := []) dX3_parsePart_47 rfl l_X3_172 k_X3_openOne rfl L_3 c_X3 rfl rfl (Nat.le_of_ble_eq_true rfl) (by omega) ⟨Nat.le_refl _, Nat.le_refl _, Nat.le_refl _, Nat.le_refl _⟩ h (fun r M' q => ?_)
      obtain ⟨v139, I140, J141, rfl, rfl, h⟩ := q
      change WP _ LAY m_X3_parsePart 50 [(0, vR (some 3))] [vI v139] (mem (some 22, some 5, some 22) I140 J141) Q
      obtain ⟨e142, h⟩ := h
      refine st_if_eq (tg := 73) (pc' := 53) dX3_parsePart_50 (by decide) rfl e142 (fun c => ?_) (fun c => ?_)
      · replace h := h.1 c
        refine st_iconst (pc' := 74) dX3_parsePart_73 rfl ?_
        exact st_iret (ty := .boolean) dX3_parsePart_74 rfl (by decide) rfl h
      · replace h := h.2 c
        refine st_aload_n (pc' := 54) dX3_parsePart_53 rfl rfl (j := 0) rfl ?_
        refine st_callV (pc' := 57) (kc := k - 1) (E' := LAY) (cal := m_X3_parseSum) (n := 0) (as := []) (S := []) dX3_parsePart_54 rfl l_X3_98 k_X3_parseSum rfl L_3 c_X3 rfl rfl (Nat.le_of_ble_eq_true rfl) (by omega) ⟨Nat.le_refl _, Nat.le_refl _, Nat.le_refl _, Nat.le_refl _⟩ h (fun r M' q => ?_)
        obtain ⟨v143, I144, J145, rfl, rfl, h⟩ := q
        change WP _ LAY m_X3_parsePart 57 [(0, vR (some 3))] [vI v143] (mem (some 22, some 5, some 22) I144 J145) Q
        obtain ⟨e146, h⟩ := h
        refine st_if_eq (tg := 73) (pc' := 60) dX3_parsePart_57 (by decide) rfl e146 (fun c => ?_) (fun c => ?_)
        · replace h := h.1 c
          refine st_iconst (pc' := 74) dX3_parsePart_73 rfl ?_
          exact st_iret (ty := .boolean) dX3_parsePart_74 rfl (by decide) rfl h
        · replace h := h.2 c
          refine st_aload_n (pc' := 61) dX3_parsePart_60 rfl rfl (j := 0) rfl ?_
          refine st_bipush (pc' := 63) dX3_parsePart_61 rfl (by decide) ?_
          refine st_callV (pc' := 66) (kc := k - 1) (E' := LAY) (cal := m_X3_closeOne) (n := 1) (as := [vI 41]) (S := []) dX3_parsePart_63 rfl l_X3_181 k_X3_closeOne rfl L_3 c_X3 rfl rfl (Nat.le_of_ble_eq_true rfl) (by omega) ⟨Nat.le_refl _, Nat.le_refl _, Nat.le_refl _, Nat.le_refl _⟩ h (fun r M' q => ?_)
          obtain ⟨v147, I148, J149, rfl, rfl, h⟩ := q
          change WP _ LAY m_X3_parsePart 66 [(0, vR (some 3))] [vI v147] (mem (some 22, some 5, some 22) I148 J149) Q
          obtain ⟨e150, h⟩ := h
          refine st_if_eq (tg := 73) (pc' := 69) dX3_parsePart_66 (by decide) rfl e150 (fun c => ?_) (fun c => ?_)
          · replace h := h.1 c
            refine st_iconst (pc' := 74) dX3_parsePart_73 rfl ?_
            exact st_iret (ty := .boolean) dX3_parsePart_74 rfl (by decide) rfl h
          · replace h := h.2 c
            refine st_iconst (pc' := 70) dX3_parsePart_69 rfl ?_
            refine st_goto (pc' := 74) dX3_parsePart_70 (by decide) ?_
            exact st_iret (ty := .boolean) dX3_parsePart_74 rfl (by decide) rfl h
  · replace h := h.2 c
    refine st_aload_n (pc' := 12) dX3_parsePart_11 rfl rfl (j := 0) rfl ?_
    refine G_X3_19_3 dX3_parsePart_12 (pc' := 15) rfl rfl ?_
    refine st_aload_n (pc' := 16) dX3_parsePart_15 rfl rfl (j := 0) rfl ?_
    refine G_X3_15_3 dX3_parsePart_16 (pc' := 19) rfl rfl ?_
    refine G_X3_60_1 dX3_parsePart_19 (pc' := 22) rfl rfl ?_
    refine st_callV (pc' := 25) (kc := k - 1) (E' := LAY) (cal := m_X7_emit) (n := 1) (as := [vI (gi I 1 5)]) (S := []) dX3_parsePart_22 rfl l_X3_165 k_X7_emit rfl L_22 c_X7 rfl rfl (Nat.le_of_ble_eq_true rfl) (by omega) ⟨Nat.le_refl _, Nat.le_refl _, Nat.le_refl _, Nat.le_refl _⟩ h (fun r M' q => ?_)
    obtain ⟨I152, J153, rfl, rfl, h⟩ := q
    change WP _ LAY m_X3_parsePart 25 [(0, vR (some 3))] [] (mem (some 22, some 5, some 22) I152 J153) Q
    refine st_aload_n (pc' := 26) dX3_parsePart_25 rfl rfl (j := 0) rfl ?_
    refine G_X3_15_3 dX3_parsePart_26 (pc' := 29) rfl rfl ?_
    refine st_callV (pc' := 32) (kc := k - 1) (E' := LAY) (cal := m_X10_step) (n := 0) (as := []) (S := []) dX3_parsePart_29 rfl l_X3_74 k_X10_step rfl L_1 c_X10 rfl rfl (Nat.le_of_ble_eq_true rfl) (by omega) ⟨Nat.le_refl _, Nat.le_refl _, Nat.le_refl _, Nat.le_refl _⟩ h (fun r M' q => ?_)
    obtain ⟨I155, J156, rfl, rfl, h⟩ := q
    change WP _ LAY m_X3_parsePart 32 [(0, vR (some 3))] [] (mem (some 22, some 5, some 22) I155 J156) Q
    refine st_iconst (pc' := 33) dX3_parsePart_32 rfl ?_
    exact st_iret (ty := .boolean) dX3_parsePart_33 rfl (by decide) rfl h
set_option maxRecDepth 20000 in
set_option maxHeartbeats 4000000 in
theorem B_X3_signOperator_0 {k : Nat} {I : Nat → Nat → Int32} {J : Nat → Nat → Int64}  {Q : Option AV → Mem → Prop} (hk : 0 ≤ k) (h : ((gi I 1 2) = 4 → (((gi I 1 5) = 37 → (Q (some (vI 10104)) (mem (some 22, some 5, some 22) I J))) ∧ (¬ (gi I 1 5) = 37 → (((gi I 1 5) = 42 → (Q (some (vI 10102)) (mem (some 22, some 5, some 22) I J))) ∧ (¬ (gi I 1 5) = 42 → (((gi I 1 5) = 43 → (Q (some (vI 10100)) (mem (some 22, some 5, some 22) I J))) ∧ (¬ (gi I 1 5) = 43 → (((gi I 1 5) = 45 → (Q (some (vI 10101)) (mem (some 22, some 5, some 22) I J))) ∧ (¬ (gi I 1 5) = 45 → (((gi I 1 5) = 47 → (Q (some (vI 10103)) (mem (some 22, some 5, some 22) I J))) ∧ (¬ (gi I 1 5) = 47 → (((gi I 1 5) = 60 → (Q (some (vI 10107)) (mem (some 22, some 5, some 22) I J))) ∧ (¬ (gi I 1 5) = 60 → (((gi I 1 5) = 61 → (Q (some (vI 10109)) (mem (some 22, some 5, some 22) I J))) ∧ (¬ (gi I 1 5) = 61 → (((gi I 1 5) = 62 → (Q (some (vI 10108)) (mem (some 22, some 5, some 22) I J))) ∧ (¬ (gi I 1 5) = 62 → (Q (some (vI (-1))) (mem (some 22, some 5, some 22) I J))))))))))))))))))) ∧ (¬ (gi I 1 2) = 4 → (Q (some (vI (-1))) (mem (some 22, some 5, some 22) I J)))) : WP k LAY m_X3_signOperator 0 [(0, vR (some 3))] [] (mem (some 22, some 5, some 22) I J) Q := by
  refine st_aload_n (pc' := 1) dX3_signOperator_0 rfl rfl (j := 0) rfl ?_
  refine G_X3_15_3 dX3_signOperator_1 (pc' := 4) rfl rfl ?_
  refine G_X3_39_1 dX3_signOperator_4 (pc' := 7) rfl rfl ?_
  refine st_iconst (pc' := 8) dX3_signOperator_7 rfl ?_
  refine st_icmp_eq (tg := 13) (pc' := 11) dX3_signOperator_8 (by decide) rfl (gi_in _ _ _) (by decide) (fun c => ?_) (fun c => ?_)
  · replace h := h.1 c
    refine st_aload_n (pc' := 14) dX3_signOperator_13 rfl rfl (j := 0) rfl ?_
    refine G_X3_15_3 dX3_signOperator_14 (pc' := 17) rfl rfl ?_
    refine G_X3_60_1 dX3_signOperator_17 (pc' := 20) rfl rfl ?_
    by_cases c : (gi I 1 5) = 37
    · replace h := h.1 c
      refine st_tblIn (pc' := 156) (off := 136) dX3_signOperator_20 (gi_in _ _ _) (by omega) (by rw [c]; rfl) (by decide) ?_
      refine st_sipush (pc' := 159) dX3_signOperator_156 rfl (by decide) ?_
      exact st_iret (ty := .int) dX3_signOperator_159 rfl rfl rfl h
    replace h := h.2 c
    have c37 := c
    clear c
    by_cases c : (gi I 1 5) = 42
    · replace h := h.1 c
      refine st_tblIn (pc' := 148) (off := 128) dX3_signOperator_20 (gi_in _ _ _) (by omega) (by rw [c]; rfl) (by decide) ?_
      refine st_sipush (pc' := 151) dX3_signOperator_148 rfl (by decide) ?_
      exact st_iret (ty := .int) dX3_signOperator_151 rfl rfl rfl h
    replace h := h.2 c
    have c42 := c
    clear c
    by_cases c : (gi I 1 5) = 43
    · replace h := h.1 c
      refine st_tblIn (pc' := 140) (off := 120) dX3_signOperator_20 (gi_in _ _ _) (by omega) (by rw [c]; rfl) (by decide) ?_
      refine st_sipush (pc' := 143) dX3_signOperator_140 rfl (by decide) ?_
      exact st_iret (ty := .int) dX3_signOperator_143 rfl rfl rfl h
    replace h := h.2 c
    have c43 := c
    clear c
    by_cases c : (gi I 1 5) = 45
    · replace h := h.1 c
      refine st_tblIn (pc' := 144) (off := 124) dX3_signOperator_20 (gi_in _ _ _) (by omega) (by rw [c]; rfl) (by decide) ?_
      refine st_sipush (pc' := 147) dX3_signOperator_144 rfl (by decide) ?_
      exact st_iret (ty := .int) dX3_signOperator_147 rfl rfl rfl h
    replace h := h.2 c
    have c45 := c
    clear c
    by_cases c : (gi I 1 5) = 47
    · replace h := h.1 c
      refine st_tblIn (pc' := 152) (off := 132) dX3_signOperator_20 (gi_in _ _ _) (by omega) (by rw [c]; rfl) (by decide) ?_
      refine st_sipush (pc' := 155) dX3_signOperator_152 rfl (by decide) ?_
      exact st_iret (ty := .int) dX3_signOperator_155 rfl rfl rfl h
    replace h := h.2 c
    have c47 := c
    clear c
    by_cases c : (gi I 1 5) = 60
    · replace h := h.1 c
      refine st_tblIn (pc' := 160) (off := 140) dX3_signOperator_20 (gi_in _ _ _) (by omega) (by rw [c]; rfl) (by decide) ?_
      refine st_sipush (pc' := 163) dX3_signOperator_160 rfl (by decide) ?_
      exact st_iret (ty := .int) dX3_signOperator_163 rfl rfl rfl h
    replace h := h.2 c
    have c60 := c
    clear c
    by_cases c : (gi I 1 5) = 61
    · replace h := h.1 c
      refine st_tblIn (pc' := 168) (off := 148) dX3_signOperator_20 (gi_in _ _ _) (by omega) (by rw [c]; rfl) (by decide) ?_
      refine st_sipush (pc' := 171) dX3_signOperator_168 rfl (by decide) ?_
      exact st_iret (ty := .int) dX3_signOperator_171 rfl rfl rfl h
    replace h := h.2 c
    have c61 := c
    clear c
    by_cases c : (gi I 1 5) = 62
    · replace h := h.1 c
      refine st_tblIn (pc' := 164) (off := 144) dX3_signOperator_20 (gi_in _ _ _) (by omega) (by rw [c]; rfl) (by decide) ?_
      refine st_sipush (pc' := 167) dX3_signOperator_164 rfl (by decide) ?_
      exact st_iret (ty := .int) dX3_signOperator_167 rfl rfl rfl h
    replace h := h.2 c
    have c62 := c
    clear c
    have go : WP k LAY m_X3_signOperator 172 [(0, vR (some 3))] [] (mem (some 22, some 5, some 22) I J) Q := by
      refine st_iconst (pc' := 173) dX3_signOperator_172 rfl ?_
      exact st_iret (ty := .int) dX3_signOperator_173 rfl rfl rfl h
    by_cases c : (gi I 1 5) = 38
    · exact st_tblIn (pc' := 172) (off := 152) dX3_signOperator_20 (gi_in _ _ _) (by omega) (by rw [c]; rfl) (by decide) go
    have c38 := c
    clear c
    by_cases c : (gi I 1 5) = 39
    · exact st_tblIn (pc' := 172) (off := 152) dX3_signOperator_20 (gi_in _ _ _) (by omega) (by rw [c]; rfl) (by decide) go
    have c39 := c
    clear c
    by_cases c : (gi I 1 5) = 40
    · exact st_tblIn (pc' := 172) (off := 152) dX3_signOperator_20 (gi_in _ _ _) (by omega) (by rw [c]; rfl) (by decide) go
    have c40 := c
    clear c
    by_cases c : (gi I 1 5) = 41
    · exact st_tblIn (pc' := 172) (off := 152) dX3_signOperator_20 (gi_in _ _ _) (by omega) (by rw [c]; rfl) (by decide) go
    have c41 := c
    clear c
    by_cases c : (gi I 1 5) = 44
    · exact st_tblIn (pc' := 172) (off := 152) dX3_signOperator_20 (gi_in _ _ _) (by omega) (by rw [c]; rfl) (by decide) go
    have c44 := c
    clear c
    by_cases c : (gi I 1 5) = 46
    · exact st_tblIn (pc' := 172) (off := 152) dX3_signOperator_20 (gi_in _ _ _) (by omega) (by rw [c]; rfl) (by decide) go
    have c46 := c
    clear c
    by_cases c : (gi I 1 5) = 48
    · exact st_tblIn (pc' := 172) (off := 152) dX3_signOperator_20 (gi_in _ _ _) (by omega) (by rw [c]; rfl) (by decide) go
    have c48 := c
    clear c
    by_cases c : (gi I 1 5) = 49
    · exact st_tblIn (pc' := 172) (off := 152) dX3_signOperator_20 (gi_in _ _ _) (by omega) (by rw [c]; rfl) (by decide) go
    have c49 := c
    clear c
    by_cases c : (gi I 1 5) = 50
    · exact st_tblIn (pc' := 172) (off := 152) dX3_signOperator_20 (gi_in _ _ _) (by omega) (by rw [c]; rfl) (by decide) go
    have c50 := c
    clear c
    by_cases c : (gi I 1 5) = 51
    · exact st_tblIn (pc' := 172) (off := 152) dX3_signOperator_20 (gi_in _ _ _) (by omega) (by rw [c]; rfl) (by decide) go
    have c51 := c
    clear c
    by_cases c : (gi I 1 5) = 52
    · exact st_tblIn (pc' := 172) (off := 152) dX3_signOperator_20 (gi_in _ _ _) (by omega) (by rw [c]; rfl) (by decide) go
    have c52 := c
    clear c
    by_cases c : (gi I 1 5) = 53
    · exact st_tblIn (pc' := 172) (off := 152) dX3_signOperator_20 (gi_in _ _ _) (by omega) (by rw [c]; rfl) (by decide) go
    have c53 := c
    clear c
    by_cases c : (gi I 1 5) = 54
    · exact st_tblIn (pc' := 172) (off := 152) dX3_signOperator_20 (gi_in _ _ _) (by omega) (by rw [c]; rfl) (by decide) go
    have c54 := c
    clear c
    by_cases c : (gi I 1 5) = 55
    · exact st_tblIn (pc' := 172) (off := 152) dX3_signOperator_20 (gi_in _ _ _) (by omega) (by rw [c]; rfl) (by decide) go
    have c55 := c
    clear c
    by_cases c : (gi I 1 5) = 56
    · exact st_tblIn (pc' := 172) (off := 152) dX3_signOperator_20 (gi_in _ _ _) (by omega) (by rw [c]; rfl) (by decide) go
    have c56 := c
    clear c
    by_cases c : (gi I 1 5) = 57
    · exact st_tblIn (pc' := 172) (off := 152) dX3_signOperator_20 (gi_in _ _ _) (by omega) (by rw [c]; rfl) (by decide) go
    have c57 := c
    clear c
    by_cases c : (gi I 1 5) = 58
    · exact st_tblIn (pc' := 172) (off := 152) dX3_signOperator_20 (gi_in _ _ _) (by omega) (by rw [c]; rfl) (by decide) go
    have c58 := c
    clear c
    by_cases c : (gi I 1 5) = 59
    · exact st_tblIn (pc' := 172) (off := 152) dX3_signOperator_20 (gi_in _ _ _) (by omega) (by rw [c]; rfl) (by decide) go
    have c59 := c
    clear c
    exact st_tblOut (pc' := 172) dX3_signOperator_20 (gi_in _ _ _) (by omega) (by decide) go
  · replace h := h.2 c
    refine st_iconst (pc' := 12) dX3_signOperator_11 rfl ?_
    exact st_iret (ty := .int) dX3_signOperator_12 rfl rfl rfl h
set_option maxRecDepth 20000 in
set_option maxHeartbeats 4000000 in
theorem B_X3_parseProduct_0 {k : Nat} {I : Nat → Nat → Int32} {J : Nat → Nat → Int64}  {Q : Option AV → Mem → Prop} (hk : 1 ≤ k) (h : WPm (k - 1) LAY m_X3_parsePart [vR (some 3)] (mem (some 22, some 5, some 22) I J) (retI (fun v1 I2 J3 => WP k LAY m_X3_parseProduct 7 [(0, vR (some 3)), (1, vI v1), (2, vI 0)] [] (mem (some 22, some 5, some 22) I2 J3) Q) (some 22, some 5, some 22))) : WP k LAY m_X3_parseProduct 0 [(0, vR (some 3))] [] (mem (some 22, some 5, some 22) I J) Q := by
  refine st_aload_n (pc' := 1) dX3_parseProduct_0 rfl rfl (j := 0) rfl ?_
  refine st_callV (pc' := 4) (kc := k - 1) (E' := LAY) (cal := m_X3_parsePart) (n := 0) (as := []) (S := []) dX3_parseProduct_1 rfl l_X3_197 k_X3_parsePart rfl L_3 c_X3 rfl rfl (Nat.le_of_ble_eq_true rfl) (by omega) ⟨Nat.le_refl _, Nat.le_refl _, Nat.le_refl _, Nat.le_refl _⟩ h (fun r M' q => ?_)
  obtain ⟨v1, I2, J3, rfl, rfl, h⟩ := q
  change WP _ LAY m_X3_parseProduct 4 [(0, vR (some 3))] [vI v1] (mem (some 22, some 5, some 22) I2 J3) Q
  refine st_istore_n (pc' := 5) (L' := [(1, vI v1), (0, vR (some 3))]) dX3_parseProduct_4 rfl rfl (by decide) rfl ?_
  refine st_iconst (pc' := 6) dX3_parseProduct_5 rfl ?_
  refine st_istore_n (pc' := 7) (L' := [(2, vI 0), (1, vI v1), (0, vR (some 3))]) dX3_parseProduct_6 rfl rfl (by decide) rfl ?_
  refine WP_sub (L' := [(0, vR (some 3)), (1, vI v1), (2, vI 0)]) [2, 1, 0] rfl ?_
  exact h
set_option maxRecDepth 20000 in
set_option maxHeartbeats 4000000 in
theorem B_X3_parseProduct_7 {k : Nat} {I : Nat → Nat → Int32} {J : Nat → Nat → Int64} {x1 : Int} {x2 : Int} {Q : Option AV → Mem → Prop} (hk : 1 ≤ k) (h : inR x2 ∧ ((1600 ≤ x2 → ((x1 = 0 ∨ x1 = 1) ∧ (Q (some (vI x1)) (mem (some 22, some 5, some 22) I J)))) ∧ (¬ 1600 ≤ x2 → (inR x1 ∧ ((x1 = 0 → ((x1 = 0 ∨ x1 = 1) ∧ (Q (some (vI x1)) (mem (some 22, some 5, some 22) I J)))) ∧ (¬ x1 = 0 → (WPm (k - 1) LAY m_X3_signOperator [vR (some 3)] (mem (some 22, some 5, some 22) I J) (retI (fun v5 I6 J7 => WPm (k - 1) LAY m_X3_isProductOperator [vI v5] (mem (some 22, some 5, some 22) I6 J7) (retI (fun v8 I9 J10 => inR v8 ∧ ((v8 = 0 → ((x1 = 0 ∨ x1 = 1) ∧ (Q (some (vI x1)) (mem (some 22, some 5, some 22) I9 J10)))) ∧ (¬ v8 = 0 → (WPm (k - 1) LAY m_X3_signOperator [vR (some 3)] (mem (some 22, some 5, some 22) I9 J10) (retI (fun v13 I14 J15 => WPm (k - 1) LAY m_X10_step [vR (some 1)] (mem (some 22, some 5, some 22) I14 J15) (retV (fun I17 J18 => WPm (k - 1) LAY m_X3_parsePart [vR (some 3)] (mem (some 22, some 5, some 22) I17 J18) (retI (fun v19 I20 J21 => WPm (k - 1) LAY m_X7_emit [vR (some 22), vI v13] (mem (some 22, some 5, some 22) I20 J21) (retV (fun I23 J24 => WP k LAY m_X3_parseProduct 7 [(0, vR (some 3)), (1, vI v19), (2, vI (x2 + 1))] [] (mem (some 22, some 5, some 22) I23 J24) Q) (some 22, some 5, some 22))) (some 22, some 5, some 22))) (some 22, some 5, some 22))) (some 22, some 5, some 22)))))) (some 22, some 5, some 22))) (some 22, some 5, some 22))))))))) : WP k LAY m_X3_parseProduct 7 [(0, vR (some 3)), (1, vI x1), (2, vI x2)] [] (mem (some 22, some 5, some 22) I J) Q := by
  refine st_iload_n (pc' := 8) dX3_parseProduct_7 rfl rfl (j := 2) rfl ?_
  refine st_sipush (pc' := 11) dX3_parseProduct_8 rfl (by decide) ?_
  obtain ⟨e1, h⟩ := h
  refine st_icmp_ge (tg := 59) (pc' := 14) dX3_parseProduct_11 (by decide) rfl e1 (by decide) (fun c => ?_) (fun c => ?_)
  · replace h := h.1 c
    refine st_iload_n (pc' := 60) dX3_parseProduct_59 rfl rfl (j := 1) rfl ?_
    obtain ⟨e2, h⟩ := h
    exact st_iret (ty := .boolean) dX3_parseProduct_60 rfl (nar_b e2) rfl h
  · replace h := h.2 c
    refine st_iload_n (pc' := 15) dX3_parseProduct_14 rfl rfl (j := 1) rfl ?_
    obtain ⟨e3, h⟩ := h
    refine st_if_eq (tg := 59) (pc' := 18) dX3_parseProduct_15 (by decide) rfl e3 (fun c => ?_) (fun c => ?_)
    · replace h := h.1 c
      refine st_iload_n (pc' := 60) dX3_parseProduct_59 rfl rfl (j := 1) rfl ?_
      obtain ⟨e4, h⟩ := h
      exact st_iret (ty := .boolean) dX3_parseProduct_60 rfl (nar_b e4) rfl h
    · replace h := h.2 c
      refine st_aload_n (pc' := 19) dX3_parseProduct_18 rfl rfl (j := 0) rfl ?_
      refine st_callV (pc' := 22) (kc := k - 1) (E' := LAY) (cal := m_X3_signOperator) (n := 0) (as := []) (S := []) dX3_parseProduct_19 rfl l_X3_184 k_X3_signOperator rfl L_3 c_X3 rfl rfl (Nat.le_of_ble_eq_true rfl) (by omega) ⟨Nat.le_refl _, Nat.le_refl _, Nat.le_refl _, Nat.le_refl _⟩ h (fun r M' q => ?_)
      obtain ⟨v5, I6, J7, rfl, rfl, h⟩ := q
      change WP _ LAY m_X3_parseProduct 22 [(0, vR (some 3)), (1, vI x1), (2, vI x2)] [vI v5] (mem (some 22, some 5, some 22) I6 J7) Q
      refine st_callS (pc' := 25) (kc := k - 1) (E' := LAY) (cal := m_X3_isProductOperator) (n := 1) (as := [vI v5]) (S := []) dX3_parseProduct_22 rfl l_X3_200 k_X3_isProductOperator rfl rfl (Nat.le_of_ble_eq_true rfl) (by omega) ⟨Nat.le_refl _, Nat.le_refl _, Nat.le_refl _, Nat.le_refl _⟩ h (fun r M' q => ?_)
      obtain ⟨v8, I9, J10, rfl, rfl, h⟩ := q
      change WP _ LAY m_X3_parseProduct 25 [(0, vR (some 3)), (1, vI x1), (2, vI x2)] [vI v8] (mem (some 22, some 5, some 22) I9 J10) Q
      obtain ⟨e11, h⟩ := h
      refine st_if_eq (tg := 59) (pc' := 28) dX3_parseProduct_25 (by decide) rfl e11 (fun c => ?_) (fun c => ?_)
      · replace h := h.1 c
        refine st_iload_n (pc' := 60) dX3_parseProduct_59 rfl rfl (j := 1) rfl ?_
        obtain ⟨e12, h⟩ := h
        exact st_iret (ty := .boolean) dX3_parseProduct_60 rfl (nar_b e12) rfl h
      · replace h := h.2 c
        refine st_aload_n (pc' := 29) dX3_parseProduct_28 rfl rfl (j := 0) rfl ?_
        refine st_callV (pc' := 32) (kc := k - 1) (E' := LAY) (cal := m_X3_signOperator) (n := 0) (as := []) (S := []) dX3_parseProduct_29 rfl l_X3_184 k_X3_signOperator rfl L_3 c_X3 rfl rfl (Nat.le_of_ble_eq_true rfl) (by omega) ⟨Nat.le_refl _, Nat.le_refl _, Nat.le_refl _, Nat.le_refl _⟩ h (fun r M' q => ?_)
        obtain ⟨v13, I14, J15, rfl, rfl, h⟩ := q
        change WP _ LAY m_X3_parseProduct 32 [(0, vR (some 3)), (1, vI x1), (2, vI x2)] [vI v13] (mem (some 22, some 5, some 22) I14 J15) Q
        refine st_istore_n (pc' := 33) (L' := [(3, vI v13), (0, vR (some 3)), (1, vI x1), (2, vI x2)]) dX3_parseProduct_32 rfl rfl (by decide) rfl ?_
        refine st_aload_n (pc' := 34) dX3_parseProduct_33 rfl rfl (j := 1) rfl ?_
        refine G_X3_15_3 dX3_parseProduct_34 (pc' := 37) rfl rfl ?_
        refine st_callV (pc' := 40) (kc := k - 1) (E' := LAY) (cal := m_X10_step) (n := 0) (as := []) (S := []) dX3_parseProduct_37 rfl l_X3_74 k_X10_step rfl L_1 c_X10 rfl rfl (Nat.le_of_ble_eq_true rfl) (by omega) ⟨Nat.le_refl _, Nat.le_refl _, Nat.le_refl _, Nat.le_refl _⟩ h (fun r M' q => ?_)
        obtain ⟨I17, J18, rfl, rfl, h⟩ := q
        change WP _ LAY m_X3_parseProduct 40 [(3, vI v13), (0, vR (some 3)), (1, vI x1), (2, vI x2)] [] (mem (some 22, some 5, some 22) I17 J18) Q
        refine st_aload_n (pc' := 41) dX3_parseProduct_40 rfl rfl (j := 1) rfl ?_
        refine st_callV (pc' := 44) (kc := k - 1) (E' := LAY) (cal := m_X3_parsePart) (n := 0) (as := []) (S := []) dX3_parseProduct_41 rfl l_X3_197 k_X3_parsePart rfl L_3 c_X3 rfl rfl (Nat.le_of_ble_eq_true rfl) (by omega) ⟨Nat.le_refl _, Nat.le_refl _, Nat.le_refl _, Nat.le_refl _⟩ h (fun r M' q => ?_)
        obtain ⟨v19, I20, J21, rfl, rfl, h⟩ := q
        change WP _ LAY m_X3_parseProduct 44 [(3, vI v13), (0, vR (some 3)), (1, vI x1), (2, vI x2)] [vI v19] (mem (some 22, some 5, some 22) I20 J21) Q
        refine st_istore_n (pc' := 45) (L' := [(1, vI v19), (3, vI v13), (0, vR (some 3)), (2, vI x2)]) dX3_parseProduct_44 rfl rfl (by decide) rfl ?_
        refine st_aload_n (pc' := 46) dX3_parseProduct_45 rfl rfl (j := 2) rfl ?_
        refine G_X3_19_3 dX3_parseProduct_46 (pc' := 49) rfl rfl ?_
        refine st_iload_n (pc' := 50) dX3_parseProduct_49 rfl rfl (j := 1) rfl ?_
        refine st_callV (pc' := 53) (kc := k - 1) (E' := LAY) (cal := m_X7_emit) (n := 1) (as := [vI v13]) (S := []) dX3_parseProduct_50 rfl l_X3_165 k_X7_emit rfl L_22 c_X7 rfl rfl (Nat.le_of_ble_eq_true rfl) (by omega) ⟨Nat.le_refl _, Nat.le_refl _, Nat.le_refl _, Nat.le_refl _⟩ h (fun r M' q => ?_)
        obtain ⟨I23, J24, rfl, rfl, h⟩ := q
        change WP _ LAY m_X3_parseProduct 53 [(1, vI v19), (3, vI v13), (0, vR (some 3)), (2, vI x2)] [] (mem (some 22, some 5, some 22) I23 J24) Q
        refine st_iinc (pc' := 56) (L' := [(2, vI (x2 + 1)), (1, vI v19), (3, vI v13), (0, vR (some 3))]) (j := 3) dX3_parseProduct_53 rfl (by decide) rfl rfl ?_
        refine st_goto (pc' := 7) dX3_parseProduct_56 (by decide) ?_
        refine WP_sub (L' := [(0, vR (some 3)), (1, vI v19), (2, vI (x2 + 1))]) [3, 1, 0] rfl ?_
        exact h
set_option maxRecDepth 20000 in
set_option maxHeartbeats 4000000 in
theorem B_X3_parseSum_0 {k : Nat} {I : Nat → Nat → Int32} {J : Nat → Nat → Int64}  {Q : Option AV → Mem → Prop} (hk : 1 ≤ k) (h : WPm (k - 1) LAY m_X3_parseProduct [vR (some 3)] (mem (some 22, some 5, some 22) I J) (retI (fun v1 I2 J3 => WP k LAY m_X3_parseSum 7 [(0, vR (some 3)), (1, vI v1), (2, vI 0)] [] (mem (some 22, some 5, some 22) I2 J3) Q) (some 22, some 5, some 22))) : WP k LAY m_X3_parseSum 0 [(0, vR (some 3))] [] (mem (some 22, some 5, some 22) I J) Q := by
  refine st_aload_n (pc' := 1) dX3_parseSum_0 rfl rfl (j := 0) rfl ?_
  refine st_callV (pc' := 4) (kc := k - 1) (E' := LAY) (cal := m_X3_parseProduct) (n := 0) (as := []) (S := []) dX3_parseSum_1 rfl l_X3_191 k_X3_parseProduct rfl L_3 c_X3 rfl rfl (Nat.le_of_ble_eq_true rfl) (by omega) ⟨Nat.le_refl _, Nat.le_refl _, Nat.le_refl _, Nat.le_refl _⟩ h (fun r M' q => ?_)
  obtain ⟨v1, I2, J3, rfl, rfl, h⟩ := q
  change WP _ LAY m_X3_parseSum 4 [(0, vR (some 3))] [vI v1] (mem (some 22, some 5, some 22) I2 J3) Q
  refine st_istore_n (pc' := 5) (L' := [(1, vI v1), (0, vR (some 3))]) dX3_parseSum_4 rfl rfl (by decide) rfl ?_
  refine st_iconst (pc' := 6) dX3_parseSum_5 rfl ?_
  refine st_istore_n (pc' := 7) (L' := [(2, vI 0), (1, vI v1), (0, vR (some 3))]) dX3_parseSum_6 rfl rfl (by decide) rfl ?_
  refine WP_sub (L' := [(0, vR (some 3)), (1, vI v1), (2, vI 0)]) [2, 1, 0] rfl ?_
  exact h
set_option maxRecDepth 20000 in
set_option maxHeartbeats 4000000 in
theorem B_X3_parseSum_7 {k : Nat} {I : Nat → Nat → Int32} {J : Nat → Nat → Int64} {x1 : Int} {x2 : Int} {Q : Option AV → Mem → Prop} (hk : 1 ≤ k) (h : inR x2 ∧ ((1600 ≤ x2 → ((x1 = 0 ∨ x1 = 1) ∧ (Q (some (vI x1)) (mem (some 22, some 5, some 22) I J)))) ∧ (¬ 1600 ≤ x2 → (inR x1 ∧ ((x1 = 0 → ((x1 = 0 ∨ x1 = 1) ∧ (Q (some (vI x1)) (mem (some 22, some 5, some 22) I J)))) ∧ (¬ x1 = 0 → (WPm (k - 1) LAY m_X3_signOperator [vR (some 3)] (mem (some 22, some 5, some 22) I J) (retI (fun v5 I6 J7 => inR v5 ∧ ((v5 = 10100 → (WPm (k - 1) LAY m_X3_signOperator [vR (some 3)] (mem (some 22, some 5, some 22) I6 J7) (retI (fun v9 I10 J11 => WPm (k - 1) LAY m_X10_step [vR (some 1)] (mem (some 22, some 5, some 22) I10 J11) (retV (fun I13 J14 => WPm (k - 1) LAY m_X3_parseProduct [vR (some 3)] (mem (some 22, some 5, some 22) I13 J14) (retI (fun v15 I16 J17 => WPm (k - 1) LAY m_X7_emit [vR (some 22), vI v9] (mem (some 22, some 5, some 22) I16 J17) (retV (fun I19 J20 => WP k LAY m_X3_parseSum 7 [(0, vR (some 3)), (1, vI v15), (2, vI (x2 + 1))] [] (mem (some 22, some 5, some 22) I19 J20) Q) (some 22, some 5, some 22))) (some 22, some 5, some 22))) (some 22, some 5, some 22))) (some 22, some 5, some 22)))) ∧ (¬ v5 = 10100 → ((¬ v5 = 10101 → ((x1 = 0 ∨ x1 = 1) ∧ (Q (some (vI x1)) (mem (some 22, some 5, some 22) I6 J7)))) ∧ (v5 = 10101 → (WPm (k - 1) LAY m_X3_signOperator [vR (some 3)] (mem (some 22, some 5, some 22) I6 J7) (retI (fun v22 I23 J24 => WPm (k - 1) LAY m_X10_step [vR (some 1)] (mem (some 22, some 5, some 22) I23 J24) (retV (fun I26 J27 => WPm (k - 1) LAY m_X3_parseProduct [vR (some 3)] (mem (some 22, some 5, some 22) I26 J27) (retI (fun v28 I29 J30 => WPm (k - 1) LAY m_X7_emit [vR (some 22), vI v22] (mem (some 22, some 5, some 22) I29 J30) (retV (fun I32 J33 => WP k LAY m_X3_parseSum 7 [(0, vR (some 3)), (1, vI v28), (2, vI (x2 + 1))] [] (mem (some 22, some 5, some 22) I32 J33) Q) (some 22, some 5, some 22))) (some 22, some 5, some 22))) (some 22, some 5, some 22))) (some 22, some 5, some 22)))))))) (some 22, some 5, some 22))))))))) : WP k LAY m_X3_parseSum 7 [(0, vR (some 3)), (1, vI x1), (2, vI x2)] [] (mem (some 22, some 5, some 22) I J) Q := by
  refine st_iload_n (pc' := 8) dX3_parseSum_7 rfl rfl (j := 2) rfl ?_
  refine st_sipush (pc' := 11) dX3_parseSum_8 rfl (by decide) ?_
  obtain ⟨e1, h⟩ := h
  refine st_icmp_ge (tg := 59) (pc' := 14) dX3_parseSum_11 (by decide) rfl e1 (by decide) (fun c => ?_) (fun c => ?_)
  · replace h := h.1 c
    refine st_iload_n (pc' := 60) dX3_parseSum_59 rfl rfl (j := 1) rfl ?_
    obtain ⟨e2, h⟩ := h
    exact st_iret (ty := .boolean) dX3_parseSum_60 rfl (nar_b e2) rfl h
  · replace h := h.2 c
    refine st_iload_n (pc' := 15) dX3_parseSum_14 rfl rfl (j := 1) rfl ?_
    obtain ⟨e3, h⟩ := h
    refine st_if_eq (tg := 59) (pc' := 18) dX3_parseSum_15 (by decide) rfl e3 (fun c => ?_) (fun c => ?_)
    · replace h := h.1 c
      refine st_iload_n (pc' := 60) dX3_parseSum_59 rfl rfl (j := 1) rfl ?_
      obtain ⟨e4, h⟩ := h
      exact st_iret (ty := .boolean) dX3_parseSum_60 rfl (nar_b e4) rfl h
    · replace h := h.2 c
      refine st_aload_n (pc' := 19) dX3_parseSum_18 rfl rfl (j := 0) rfl ?_
      refine st_callV (pc' := 22) (kc := k - 1) (E' := LAY) (cal := m_X3_signOperator) (n := 0) (as := []) (S := []) dX3_parseSum_19 rfl l_X3_184 k_X3_signOperator rfl L_3 c_X3 rfl rfl (Nat.le_of_ble_eq_true rfl) (by omega) ⟨Nat.le_refl _, Nat.le_refl _, Nat.le_refl _, Nat.le_refl _⟩ h (fun r M' q => ?_)
      obtain ⟨v5, I6, J7, rfl, rfl, h⟩ := q
      change WP _ LAY m_X3_parseSum 22 [(0, vR (some 3)), (1, vI x1), (2, vI x2)] [vI v5] (mem (some 22, some 5, some 22) I6 J7) Q
      refine st_callS (pc' := 25) (kc := k - 1) (E' := LAY) (cal := m_X3_isSumOperator) (n := 1) (as := [vI v5]) (S := []) dX3_parseSum_22 rfl l_X3_194 k_X3_isSumOperator rfl rfl (Nat.le_of_ble_eq_true rfl) (by omega) ⟨Nat.le_refl _, Nat.le_refl _, Nat.le_refl _, Nat.le_refl _⟩ (Q1 := fun r M' => WP k LAY m_X3_parseSum 25 [(0, vR (some 3)), (1, vI x1), (2, vI x2)] (r.toList ++ []) M' Q) (WPm.of k_X3_isSumOperator.1 (Nat.le_of_ble_eq_true rfl) (B_X3_isSumOperator_0 (by omega) ?_)) (fun r M' q => q)
      obtain ⟨e8, h⟩ := h
      refine ⟨e8, ?_⟩
      refine ⟨fun c => ?_, fun c => ?_⟩
      · replace h := h.1 c
        change WP _ LAY m_X3_parseSum 25 [(0, vR (some 3)), (1, vI x1), (2, vI x2)] [vI 1] (mem (some 22, some 5, some 22) I6 J7) Q
        refine st_if_eq (tg := 59) (pc' := 28) dX3_parseSum_25 (by decide) rfl (by decide) (fun c => ?_) (fun c => ?_)
        · exact absurd c (by decide)
        · refine st_aload_n (pc' := 29) dX3_parseSum_28 rfl rfl (j := 0) rfl ?_
          refine st_callV (pc' := 32) (kc := k - 1) (E' := LAY) (cal := m_X3_signOperator) (n := 0) (as := []) (S := []) dX3_parseSum_29 rfl l_X3_184 k_X3_signOperator rfl L_3 c_X3 rfl rfl (Nat.le_of_ble_eq_true rfl) (by omega) ⟨Nat.le_refl _, Nat.le_refl _, Nat.le_refl _, Nat.le_refl _⟩ h (fun r M' q => ?_)
          obtain ⟨v9, I10, J11, rfl, rfl, h⟩ := q
          change WP _ LAY m_X3_parseSum 32 [(0, vR (some 3)), (1, vI x1), (2, vI x2)] [vI v9] (mem (some 22, some 5, some 22) I10 J11) Q
          refine st_istore_n (pc' := 33) (L' := [(3, vI v9), (0, vR (some 3)), (1, vI x1), (2, vI x2)]) dX3_parseSum_32 rfl rfl (by decide) rfl ?_
          refine st_aload_n (pc' := 34) dX3_parseSum_33 rfl rfl (j := 1) rfl ?_
          refine G_X3_15_3 dX3_parseSum_34 (pc' := 37) rfl rfl ?_
          refine st_callV (pc' := 40) (kc := k - 1) (E' := LAY) (cal := m_X10_step) (n := 0) (as := []) (S := []) dX3_parseSum_37 rfl l_X3_74 k_X10_step rfl L_1 c_X10 rfl rfl (Nat.le_of_ble_eq_true rfl) (by omega) ⟨Nat.le_refl _, Nat.le_refl _, Nat.le_refl _, Nat.le_refl _⟩ h (fun r M' q => ?_)
          obtain ⟨I13, J14, rfl, rfl, h⟩ := q
          change WP _ LAY m_X3_parseSum 40 [(3, vI v9), (0, vR (some 3)), (1, vI x1), (2, vI x2)] [] (mem (some 22, some 5, some 22) I13 J14) Q
          refine st_aload_n (pc' := 41) dX3_parseSum_40 rfl rfl (j := 1) rfl ?_
          refine st_callV (pc' := 44) (kc := k - 1) (E' := LAY) (cal := m_X3_parseProduct) (n := 0) (as := []) (S := []) dX3_parseSum_41 rfl l_X3_191 k_X3_parseProduct rfl L_3 c_X3 rfl rfl (Nat.le_of_ble_eq_true rfl) (by omega) ⟨Nat.le_refl _, Nat.le_refl _, Nat.le_refl _, Nat.le_refl _⟩ h (fun r M' q => ?_)
          obtain ⟨v15, I16, J17, rfl, rfl, h⟩ := q
          change WP _ LAY m_X3_parseSum 44 [(3, vI v9), (0, vR (some 3)), (1, vI x1), (2, vI x2)] [vI v15] (mem (some 22, some 5, some 22) I16 J17) Q
          refine st_istore_n (pc' := 45) (L' := [(1, vI v15), (3, vI v9), (0, vR (some 3)), (2, vI x2)]) dX3_parseSum_44 rfl rfl (by decide) rfl ?_
          refine st_aload_n (pc' := 46) dX3_parseSum_45 rfl rfl (j := 2) rfl ?_
          refine G_X3_19_3 dX3_parseSum_46 (pc' := 49) rfl rfl ?_
          refine st_iload_n (pc' := 50) dX3_parseSum_49 rfl rfl (j := 1) rfl ?_
          refine st_callV (pc' := 53) (kc := k - 1) (E' := LAY) (cal := m_X7_emit) (n := 1) (as := [vI v9]) (S := []) dX3_parseSum_50 rfl l_X3_165 k_X7_emit rfl L_22 c_X7 rfl rfl (Nat.le_of_ble_eq_true rfl) (by omega) ⟨Nat.le_refl _, Nat.le_refl _, Nat.le_refl _, Nat.le_refl _⟩ h (fun r M' q => ?_)
          obtain ⟨I19, J20, rfl, rfl, h⟩ := q
          change WP _ LAY m_X3_parseSum 53 [(1, vI v15), (3, vI v9), (0, vR (some 3)), (2, vI x2)] [] (mem (some 22, some 5, some 22) I19 J20) Q
          refine st_iinc (pc' := 56) (L' := [(2, vI (x2 + 1)), (1, vI v15), (3, vI v9), (0, vR (some 3))]) (j := 3) dX3_parseSum_53 rfl (by decide) rfl rfl ?_
          refine st_goto (pc' := 7) dX3_parseSum_56 (by decide) ?_
          refine WP_sub (L' := [(0, vR (some 3)), (1, vI v15), (2, vI (x2 + 1))]) [3, 1, 0] rfl ?_
          exact h
      · replace h := h.2 c
        refine ⟨fun c => ?_, fun c => ?_⟩
        · replace h := h.1 c
          change WP _ LAY m_X3_parseSum 25 [(0, vR (some 3)), (1, vI x1), (2, vI x2)] [vI 0] (mem (some 22, some 5, some 22) I6 J7) Q
          refine st_if_eq (tg := 59) (pc' := 28) dX3_parseSum_25 (by decide) rfl (by decide) (fun c => ?_) (fun c => ?_)
          · refine st_iload_n (pc' := 60) dX3_parseSum_59 rfl rfl (j := 1) rfl ?_
            obtain ⟨e21, h⟩ := h
            exact st_iret (ty := .boolean) dX3_parseSum_60 rfl (nar_b e21) rfl h
          · exact absurd c (by decide)
        · replace h := h.2 c
          change WP _ LAY m_X3_parseSum 25 [(0, vR (some 3)), (1, vI x1), (2, vI x2)] [vI 1] (mem (some 22, some 5, some 22) I6 J7) Q
          refine st_if_eq (tg := 59) (pc' := 28) dX3_parseSum_25 (by decide) rfl (by decide) (fun c => ?_) (fun c => ?_)
          · exact absurd c (by decide)
          · refine st_aload_n (pc' := 29) dX3_parseSum_28 rfl rfl (j := 0) rfl ?_
            refine st_callV (pc' := 32) (kc := k - 1) (E' := LAY) (cal := m_X3_signOperator) (n := 0) (as := []) (S := []) dX3_parseSum_29 rfl l_X3_184 k_X3_signOperator rfl L_3 c_X3 rfl rfl (Nat.le_of_ble_eq_true rfl) (by omega) ⟨Nat.le_refl _, Nat.le_refl _, Nat.le_refl _, Nat.le_refl _⟩ h (fun r M' q => ?_)
            obtain ⟨v22, I23, J24, rfl, rfl, h⟩ := q
            change WP _ LAY m_X3_parseSum 32 [(0, vR (some 3)), (1, vI x1), (2, vI x2)] [vI v22] (mem (some 22, some 5, some 22) I23 J24) Q
            refine st_istore_n (pc' := 33) (L' := [(3, vI v22), (0, vR (some 3)), (1, vI x1), (2, vI x2)]) dX3_parseSum_32 rfl rfl (by decide) rfl ?_
            refine st_aload_n (pc' := 34) dX3_parseSum_33 rfl rfl (j := 1) rfl ?_
            refine G_X3_15_3 dX3_parseSum_34 (pc' := 37) rfl rfl ?_
            refine st_callV (pc' := 40) (kc := k - 1) (E' := LAY) (cal := m_X10_step) (n := 0) (as := []) (S := []) dX3_parseSum_37 rfl l_X3_74 k_X10_step rfl L_1 c_X10 rfl rfl (Nat.le_of_ble_eq_true rfl) (by omega) ⟨Nat.le_refl _, Nat.le_refl _, Nat.le_refl _, Nat.le_refl _⟩ h (fun r M' q => ?_)
            obtain ⟨I26, J27, rfl, rfl, h⟩ := q
            change WP _ LAY m_X3_parseSum 40 [(3, vI v22), (0, vR (some 3)), (1, vI x1), (2, vI x2)] [] (mem (some 22, some 5, some 22) I26 J27) Q
            refine st_aload_n (pc' := 41) dX3_parseSum_40 rfl rfl (j := 1) rfl ?_
            refine st_callV (pc' := 44) (kc := k - 1) (E' := LAY) (cal := m_X3_parseProduct) (n := 0) (as := []) (S := []) dX3_parseSum_41 rfl l_X3_191 k_X3_parseProduct rfl L_3 c_X3 rfl rfl (Nat.le_of_ble_eq_true rfl) (by omega) ⟨Nat.le_refl _, Nat.le_refl _, Nat.le_refl _, Nat.le_refl _⟩ h (fun r M' q => ?_)
            obtain ⟨v28, I29, J30, rfl, rfl, h⟩ := q
            change WP _ LAY m_X3_parseSum 44 [(3, vI v22), (0, vR (some 3)), (1, vI x1), (2, vI x2)] [vI v28] (mem (some 22, some 5, some 22) I29 J30) Q
            refine st_istore_n (pc' := 45) (L' := [(1, vI v28), (3, vI v22), (0, vR (some 3)), (2, vI x2)]) dX3_parseSum_44 rfl rfl (by decide) rfl ?_
            refine st_aload_n (pc' := 46) dX3_parseSum_45 rfl rfl (j := 2) rfl ?_
            refine G_X3_19_3 dX3_parseSum_46 (pc' := 49) rfl rfl ?_
            refine st_iload_n (pc' := 50) dX3_parseSum_49 rfl rfl (j := 1) rfl ?_
            refine st_callV (pc' := 53) (kc := k - 1) (E' := LAY) (cal := m_X7_emit) (n := 1) (as := [vI v22]) (S := []) dX3_parseSum_50 rfl l_X3_165 k_X7_emit rfl L_22 c_X7 rfl rfl (Nat.le_of_ble_eq_true rfl) (by omega) ⟨Nat.le_refl _, Nat.le_refl _, Nat.le_refl _, Nat.le_refl _⟩ h (fun r M' q => ?_)
            obtain ⟨I32, J33, rfl, rfl, h⟩ := q
            change WP _ LAY m_X3_parseSum 53 [(1, vI v28), (3, vI v22), (0, vR (some 3)), (2, vI x2)] [] (mem (some 22, some 5, some 22) I32 J33) Q
            refine st_iinc (pc' := 56) (L' := [(2, vI (x2 + 1)), (1, vI v28), (3, vI v22), (0, vR (some 3))]) (j := 3) dX3_parseSum_53 rfl (by decide) rfl rfl ?_
            refine st_goto (pc' := 7) dX3_parseSum_56 (by decide) ?_
            refine WP_sub (L' := [(0, vR (some 3)), (1, vI v28), (2, vI (x2 + 1))]) [3, 1, 0] rfl ?_
            exact h
set_option maxRecDepth 20000 in
set_option maxHeartbeats 4000000 in
theorem B_X3_parseNegated_0 {k : Nat} {I : Nat → Nat → Int32} {J : Nat → Nat → Int64}  {Q : Option AV → Mem → Prop} (hk : 1 ≤ k) (h : WPm (k - 1) LAY m_X3_parseFact [vR (some 3)] (mem (some 22, some 5, some 22) I J) (retI (fun v1 I2 J3 => WPm (k - 1) LAY m_X7_emit [vR (some 22), vI 10112] (mem (some 22, some 5, some 22) (si I2 3 4 ((gi I2 3 4) - 1)) J3) (retV (fun I5 J6 => (v1 = 0 ∨ v1 = 1) ∧ (Q (some (vI v1)) (mem (some 22, some 5, some 22) I5 J6))) (some 22, some 5, some 22))) (some 22, some 5, some 22))) : WP k LAY m_X3_parseNegated 0 [(0, vR (some 3))] [] (mem (some 22, some 5, some 22) I J) Q := by
  refine st_aload_n (pc' := 1) dX3_parseNegated_0 rfl rfl (j := 0) rfl ?_
  refine st_callV (pc' := 4) (kc := k - 1) (E' := LAY) (cal := m_X3_parseFact) (n := 0) (as := []) (S := []) dX3_parseNegated_1 rfl l_X3_169 k_X3_parseFact rfl L_3 c_X3 rfl rfl (Nat.le_of_ble_eq_true rfl) (by omega) ⟨Nat.le_refl _, Nat.le_refl _, Nat.le_refl _, Nat.le_refl _⟩ h (fun r M' q => ?_)
  obtain ⟨v1, I2, J3, rfl, rfl, h⟩ := q
  change WP _ LAY m_X3_parseNegated 4 [(0, vR (some 3))] [vI v1] (mem (some 22, some 5, some 22) I2 J3) Q
  refine st_istore_n (pc' := 5) (L' := [(1, vI v1), (0, vR (some 3))]) dX3_parseNegated_4 rfl rfl (by decide) rfl ?_
  refine st_aload_n (pc' := 6) dX3_parseNegated_5 rfl rfl (j := 1) rfl ?_
  refine st_dup (pc' := 7) dX3_parseNegated_6 rfl rfl ?_
  refine G_X3_31_3 dX3_parseNegated_7 (pc' := 10) rfl rfl ?_
  refine st_iconst (pc' := 11) dX3_parseNegated_10 rfl ?_
  refine st_isub (pc' := 12) dX3_parseNegated_11 rfl ?_
  refine P_X3_31_3 dX3_parseNegated_12 (pc' := 15) rfl rfl ?_
  refine st_aload_n (pc' := 16) dX3_parseNegated_15 rfl rfl (j := 1) rfl ?_
  refine G_X3_19_3 dX3_parseNegated_16 (pc' := 19) rfl rfl ?_
  refine st_sipush (pc' := 22) dX3_parseNegated_19 rfl (by decide) ?_
  refine st_callV (pc' := 25) (kc := k - 1) (E' := LAY) (cal := m_X7_emit) (n := 1) (as := [vI 10112]) (S := []) dX3_parseNegated_22 rfl l_X3_165 k_X7_emit rfl L_22 c_X7 rfl rfl (Nat.le_of_ble_eq_true rfl) (by omega) ⟨Nat.le_refl _, Nat.le_refl _, Nat.le_refl _, Nat.le_refl _⟩ h (fun r M' q => ?_)
  obtain ⟨I5, J6, rfl, rfl, h⟩ := q
  change WP _ LAY m_X3_parseNegated 25 [(1, vI v1), (0, vR (some 3))] [] (mem (some 22, some 5, some 22) I5 J6) Q
  refine st_iload_n (pc' := 26) dX3_parseNegated_25 rfl rfl (j := 0) rfl ?_
  obtain ⟨e7, h⟩ := h
  exact st_iret (ty := .boolean) dX3_parseNegated_26 rfl (nar_b e7) rfl h
set_option maxRecDepth 20000 in
set_option maxHeartbeats 4000000 in
theorem B_X3_parseFact_0 {k : Nat} {I : Nat → Nat → Int32} {J : Nat → Nat → Int64}  {Q : Option AV → Mem → Prop} (hk : 2 ≤ k) (h : (¬ (gi I 1 2 = 2 ∧ gi I 1 5 = 21) → ((¬ (gi I 1 2 = 4 ∧ gi I 1 5 = 91) → ((¬ (gi I 1 2 = 2 ∧ gi I 1 5 = 22) → (WPm (k - 1) LAY m_X3_parseSum [vR (some 3)] (mem (some 22, some 5, some 22) I J) (retI (fun v1 I2 J3 => inR v1 ∧ ((¬ v1 = 0 → (WPm (k - 1) LAY m_X3_signOperator [vR (some 3)] (mem (some 22, some 5, some 22) I2 J3) (retI (fun v5 I6 J7 => WPm (k - 1) LAY m_X3_isTestOperator [vI v5] (mem (some 22, some 5, some 22) I6 J7) (retI (fun v8 I9 J10 => inR v8 ∧ ((¬ v8 = 0 → (WPm (k - 1) LAY m_X10_step [vR (some 1)] (mem (some 22, some 5, some 22) I9 J10) (retV (fun I13 J14 => WPm (k - 1) LAY m_X3_parseSum [vR (some 3)] (mem (some 22, some 5, some 22) I13 J14) (retI (fun v15 I16 J17 => WPm (k - 1) LAY m_X7_emit [vR (some 22), vI v5] (mem (some 22, some 5, some 22) I16 J17) (retV (fun I19 J20 => (v15 = 0 ∨ v15 = 1) ∧ (Q (some (vI v15)) (mem (some 22, some 5, some 22) I19 J20))) (some 22, some 5, some 22))) (some 22, some 5, some 22))) (some 22, some 5, some 22)))) ∧ (v8 = 0 → (Q (some (vI 0)) (mem (some 22, some 5, some 22) (si (si I9 3 2 1) 3 3 (gi I9 1 6)) J10))))) (some 22, some 5, some 22))) (some 22, some 5, some 22)))) ∧ (v1 = 0 → (Q (some (vI 0)) (mem (some 22, some 5, some 22) I2 J3))))) (some 22, some 5, some 22)))) ∧ ((gi I 1 2 = 2 ∧ gi I 1 5 = 22) → (WPm (k - 1) LAY m_X10_step [vR (some 1)] (mem (some 22, some 5, some 22) I J) (retV (fun I23 J24 => WPm (k - 1) LAY m_X7_emit [vR (some 22), vI 1] (mem (some 22, some 5, some 22) I23 J24) (retV (fun I26 J27 => Q (some (vI 1)) (mem (some 22, some 5, some 22) I26 J27)) (some 22, some 5, some 22))) (some 22, some 5, some 22)))))) ∧ ((gi I 1 2 = 4 ∧ gi I 1 5 = 91) → (WPm (k - 1) LAY m_X3_openOne [vR (some 3)] (mem (some 22, some 5, some 22) I J) (retI (fun v28 I29 J30 => inR v28 ∧ ((v28 = 0 → (Q (some (vI 0)) (mem (some 22, some 5, some 22) I29 J30))) ∧ (¬ v28 = 0 → (WPm (k - 1) LAY m_X3_parseTest [vR (some 3)] (mem (some 22, some 5, some 22) I29 J30) (retI (fun v32 I33 J34 => inR v32 ∧ ((v32 = 0 → (Q (some (vI 0)) (mem (some 22, some 5, some 22) I33 J34))) ∧ (¬ v32 = 0 → (WPm (k - 1) LAY m_X3_closeOne [vR (some 3), vI 93] (mem (some 22, some 5, some 22) I33 J34) (retI (fun v36 I37 J38 => inR v36 ∧ ((v36 = 0 → (Q (some (vI 0)) (mem (some 22, some 5, some 22) I37 J38))) ∧ (¬ v36 = 0 → (Q (some (vI 1)) (mem (some 22, some 5, some 22) I37 J38))))) (some 22, some 5, some 22)))))) (some 22, some 5, some 22)))))) (some 22, some 5, some 22)))))) ∧ ((gi I 1 2 = 2 ∧ gi I 1 5 = 21) → (WPm (k - 1) LAY m_X3_openOne [vR (some 3)] (mem (some 22, some 5, some 22) I J) (retI (fun v40 I41 J42 => inR v40 ∧ ((v40 = 0 → (Q (some (vI 0)) (mem (some 22, some 5, some 22) I41 J42))) ∧ (¬ v40 = 0 → (WPm (k - 1) LAY m_X3_parseNegated [vR (some 3)] (mem (some 22, some 5, some 22) I41 J42) (retI (fun v44 I45 J46 => inR v44 ∧ ((v44 = 0 → (Q (some (vI 0)) (mem (some 22, some 5, some 22) I45 J46))) ∧ (¬ v44 = 0 → (Q (some (vI 1)) (mem (some 22, some 5, some 22) I45 J46))))) (some 22, some 5, some 22)))))) (some 22, some 5, some 22))))) : WP k LAY m_X3_parseFact 0 [(0, vR (some 3))] [] (mem (some 22, some 5, some 22) I J) Q := by
  refine st_aload_n (pc' := 1) dX3_parseFact_0 rfl rfl (j := 0) rfl ?_
  refine G_X3_15_3 dX3_parseFact_1 (pc' := 4) rfl rfl ?_
  refine st_bipush (pc' := 6) dX3_parseFact_4 rfl (by decide) ?_
  refine st_callV (pc' := 9) (kc := k - 1) (E' := LAY) (cal := m_X10_isOwn) (n := 1) (as := [vI 21]) (S := []) dX3_parseFact_6 rfl l_X3_132 k_X10_isOwn rfl L_1 c_X10 rfl rfl (Nat.le_of_ble_eq_true rfl) (by omega) ⟨Nat.le_refl _, Nat.le_refl _, Nat.le_refl _, Nat.le_refl _⟩ (Q1 := fun r M' => WP k LAY m_X3_parseFact 9 [(0, vR (some 3))] (r.toList ++ []) M' Q) (S_X10_isOwn (by omega) (by decide) ?_) (fun r M' q => q)
  change WP _ LAY m_X3_parseFact 9 [(0, vR (some 3))] [vI (b2i (gi I 1 2 = 2 ∧ gi I 1 5 = 21))] (mem (some 22, some 5, some 22) I J) Q
  refine st_if_eq (tg := 32) (pc' := 12) dX3_parseFact_9 (by decide) rfl (b2i_in _) (fun c => ?_) (fun c => ?_)
  · replace h := h.1 (b2i_f.mp c)
    refine st_aload_n (pc' := 33) dX3_parseFact_32 rfl rfl (j := 0) rfl ?_
    refine G_X3_15_3 dX3_parseFact_33 (pc' := 36) rfl rfl ?_
    refine st_bipush (pc' := 38) dX3_parseFact_36 rfl (by decide) ?_
    refine st_callV (pc' := 41) (kc := k - 1) (E' := LAY) (cal := m_X10_isSign) (n := 1) (as := [vI 91]) (S := []) dX3_parseFact_38 rfl l_X3_178 k_X10_isSign rfl L_1 c_X10 rfl rfl (Nat.le_of_ble_eq_true rfl) (by omega) ⟨Nat.le_refl _, Nat.le_refl _, Nat.le_refl _, Nat.le_refl _⟩ (Q1 := fun r M' => WP k LAY m_X3_parseFact 41 [(0, vR (some 3))] (r.toList ++ []) M' Q) (S_X10_isSign (by omega) (by decide) ?_) (fun r M' q => q)
    change WP _ LAY m_X3_parseFact 41 [(0, vR (some 3))] [vI (b2i (gi I 1 2 = 4 ∧ gi I 1 5 = 91))] (mem (some 22, some 5, some 22) I J) Q
    refine st_if_eq (tg := 73) (pc' := 44) dX3_parseFact_41 (by decide) rfl (b2i_in _) (fun c => ?_) (fun c => ?_)
    · replace h := h.1 (b2i_f.mp c)
      refine st_aload_n (pc' := 74) dX3_parseFact_73 rfl rfl (j := 0) rfl ?_
      refine G_X3_15_3 dX3_parseFact_74 (pc' := 77) rfl rfl ?_
      refine st_bipush (pc' := 79) dX3_parseFact_77 rfl (by decide) ?_
      refine st_callV (pc' := 82) (kc := k - 1) (E' := LAY) (cal := m_X10_isOwn) (n := 1) (as := [vI 22]) (S := []) dX3_parseFact_79 rfl l_X3_132 k_X10_isOwn rfl L_1 c_X10 rfl rfl (Nat.le_of_ble_eq_true rfl) (by omega) ⟨Nat.le_refl _, Nat.le_refl _, Nat.le_refl _, Nat.le_refl _⟩ (Q1 := fun r M' => WP k LAY m_X3_parseFact 82 [(0, vR (some 3))] (r.toList ++ []) M' Q) (S_X10_isOwn (by omega) (by decide) ?_) (fun r M' q => q)
      change WP _ LAY m_X3_parseFact 82 [(0, vR (some 3))] [vI (b2i (gi I 1 2 = 2 ∧ gi I 1 5 = 22))] (mem (some 22, some 5, some 22) I J) Q
      refine st_if_eq (tg := 102) (pc' := 85) dX3_parseFact_82 (by decide) rfl (b2i_in _) (fun c => ?_) (fun c => ?_)
      · replace h := h.1 (b2i_f.mp c)
        refine st_aload_n (pc' := 103) dX3_parseFact_102 rfl rfl (j := 0) rfl ?_
        refine st_callV (pc' := 106) (kc := k - 1) (E' := LAY) (cal := m_X3_parseSum) (n := 0) (as := []) (S := []) dX3_parseFact_103 rfl l_X3_98 k_X3_parseSum rfl L_3 c_X3 rfl rfl (Nat.le_of_ble_eq_true rfl) (by omega) ⟨Nat.le_refl _, Nat.le_refl _, Nat.le_refl _, Nat.le_refl _⟩ h (fun r M' q => ?_)
        obtain ⟨v1, I2, J3, rfl, rfl, h⟩ := q
        change WP _ LAY m_X3_parseFact 106 [(0, vR (some 3))] [vI v1] (mem (some 22, some 5, some 22) I2 J3) Q
        obtain ⟨e4, h⟩ := h
        refine st_if_ne (tg := 111) (pc' := 109) dX3_parseFact_106 (by decide) rfl e4 (fun c => ?_) (fun c => ?_)
        · replace h := h.1 c
          refine st_aload_n (pc' := 112) dX3_parseFact_111 rfl rfl (j := 0) rfl ?_
          refine st_callV (pc' := 115) (kc := k - 1) (E' := LAY) (cal := m_X3_signOperator) (n := 0) (as := []) (S := []) dX3_parseFact_112 rfl l_X3_184 k_X3_signOperator rfl L_3 c_X3 rfl rfl (Nat.le_of_ble_eq_true rfl) (by omega) ⟨Nat.le_refl _, Nat.le_refl _, Nat.le_refl _, Nat.le_refl _⟩ h (fun r M' q => ?_)
          obtain ⟨v5, I6, J7, rfl, rfl, h⟩ := q
          change WP _ LAY m_X3_parseFact 115 [(0, vR (some 3))] [vI v5] (mem (some 22, some 5, some 22) I6 J7) Q
          refine st_istore_n (pc' := 116) (L' := [(1, vI v5), (0, vR (some 3))]) dX3_parseFact_115 rfl rfl (by decide) rfl ?_
          refine st_iload_n (pc' := 117) dX3_parseFact_116 rfl rfl (j := 0) rfl ?_
          refine st_callS (pc' := 120) (kc := k - 1) (E' := LAY) (cal := m_X3_isTestOperator) (n := 1) (as := [vI v5]) (S := []) dX3_parseFact_117 rfl l_X3_188 k_X3_isTestOperator rfl rfl (Nat.le_of_ble_eq_true rfl) (by omega) ⟨Nat.le_refl _, Nat.le_refl _, Nat.le_refl _, Nat.le_refl _⟩ h (fun r M' q => ?_)
          obtain ⟨v8, I9, J10, rfl, rfl, h⟩ := q
          change WP _ LAY m_X3_parseFact 120 [(1, vI v5), (0, vR (some 3))] [vI v8] (mem (some 22, some 5, some 22) I9 J10) Q
          obtain ⟨e11, h⟩ := h
          refine st_if_ne (tg := 128) (pc' := 123) dX3_parseFact_120 (by decide) rfl e11 (fun c => ?_) (fun c => ?_)
          · replace h := h.1 c
            refine st_aload_n (pc' := 129) dX3_parseFact_128 rfl rfl (j := 1) rfl ?_
            refine G_X3_15_3 dX3_parseFact_129 (pc' := 132) rfl rfl ?_
            refine st_callV (pc' := 135) (kc := k - 1) (E' := LAY) (cal := m_X10_step) (n := 0) (as := []) (S := []) dX3_parseFact_132 rfl l_X3_74 k_X10_step rfl L_1 c_X10 rfl rfl (Nat.le_of_ble_eq_true rfl) (by omega) ⟨Nat.le_refl _, Nat.le_refl _, Nat.le_refl _, Nat.le_refl _⟩ h (fun r M' q => ?_)
            obtain ⟨I13, J14, rfl, rfl, h⟩ := q
            change WP _ LAY m_X3_parseFact 135 [(1, vI v5), (0, vR (some 3))] [] (mem (some 22, some 5, some 22) I13 J14) Q
            refine st_aload_n (pc' := 136) dX3_parseFact_135 rfl rfl (j := 1) rfl ?_
            refine st_callV (pc' := 139) (kc := k - 1) (E' := LAY) (cal := m_X3_parseSum) (n := 0) (as := []) (S := []) dX3_parseFact_136 rfl l_X3_98 k_X3_parseSum rfl L_3 c_X3 rfl rfl (Nat.le_of_ble_eq_true rfl) (by omega) ⟨Nat.le_refl _, Nat.le_refl _, Nat.le_refl _, Nat.le_refl _⟩ h (fun r M' q => ?_)
            obtain ⟨v15, I16, J17, rfl, rfl, h⟩ := q
            change WP _ LAY m_X3_parseFact 139 [(1, vI v5), (0, vR (some 3))] [vI v15] (mem (some 22, some 5, some 22) I16 J17) Q
            refine st_istore_n (pc' := 140) (L' := [(2, vI v15), (1, vI v5), (0, vR (some 3))]) dX3_parseFact_139 rfl rfl (by decide) rfl ?_
            refine st_aload_n (pc' := 141) dX3_parseFact_140 rfl rfl (j := 2) rfl ?_
            refine G_X3_19_3 dX3_parseFact_141 (pc' := 144) rfl rfl ?_
            refine st_iload_n (pc' := 145) dX3_parseFact_144 rfl rfl (j := 1) rfl ?_
            refine st_callV (pc' := 148) (kc := k - 1) (E' := LAY) (cal := m_X7_emit) (n := 1) (as := [vI v5]) (S := []) dX3_parseFact_145 rfl l_X3_165 k_X7_emit rfl L_22 c_X7 rfl rfl (Nat.le_of_ble_eq_true rfl) (by omega) ⟨Nat.le_refl _, Nat.le_refl _, Nat.le_refl _, Nat.le_refl _⟩ h (fun r M' q => ?_)
            obtain ⟨I19, J20, rfl, rfl, h⟩ := q
            change WP _ LAY m_X3_parseFact 148 [(2, vI v15), (1, vI v5), (0, vR (some 3))] [] (mem (some 22, some 5, some 22) I19 J20) Q
            refine st_iload_n (pc' := 149) dX3_parseFact_148 rfl rfl (j := 0) rfl ?_
            obtain ⟨e21, h⟩ := h
            exact st_iret (ty := .boolean) dX3_parseFact_149 rfl (nar_b e21) rfl h
          · replace h := h.2 c
            refine st_aload_n (pc' := 124) dX3_parseFact_123 rfl rfl (j := 1) rfl ?_
            refine st_callV (pc' := 127) (kc := k - 1) (E' := LAY) (cal := m_X3_refuseWord) (n := 0) (as := []) (S := []) dX3_parseFact_124 rfl l_X3_67 k_X3_refuseWord rfl L_3 c_X3 rfl rfl (Nat.le_of_ble_eq_true rfl) (by omega) ⟨Nat.le_refl _, Nat.le_refl _, Nat.le_refl _, Nat.le_refl _⟩ (Q1 := fun r M' => WP k LAY m_X3_parseFact 127 [(1, vI v5), (0, vR (some 3))] (r.toList ++ []) M' Q) (WPm.of k_X3_refuseWord.1 (Nat.le_of_ble_eq_true rfl) (B_X3_refuseWord_0 (by omega) ?_)) (fun r M' q => q)
            change WP _ LAY m_X3_parseFact 127 [(1, vI v5), (0, vR (some 3))] [vI 0] (mem (some 22, some 5, some 22) (si (si I9 3 2 1) 3 3 (gi I9 1 6)) J10) Q
            exact st_iret (ty := .boolean) dX3_parseFact_127 rfl (by decide) rfl h
        · replace h := h.2 c
          refine st_iconst (pc' := 110) dX3_parseFact_109 rfl ?_
          exact st_iret (ty := .boolean) dX3_parseFact_110 rfl (by decide) rfl h
      · replace h := h.2 (b2i_t.mp c)
        refine st_aload_n (pc' := 86) dX3_parseFact_85 rfl rfl (j := 0) rfl ?_
        refine G_X3_15_3 dX3_parseFact_86 (pc' := 89) rfl rfl ?_
        refine st_callV (pc' := 92) (kc := k - 1) (E' := LAY) (cal := m_X10_step) (n := 0) (as := []) (S := []) dX3_parseFact_89 rfl l_X3_74 k_X10_step rfl L_1 c_X10 rfl rfl (Nat.le_of_ble_eq_true rfl) (by omega) ⟨Nat.le_refl _, Nat.le_refl _, Nat.le_refl _, Nat.le_refl _⟩ h (fun r M' q => ?_)
        obtain ⟨I23, J24, rfl, rfl, h⟩ := q
        change WP _ LAY m_X3_parseFact 92 [(0, vR (some 3))] [] (mem (some 22, some 5, some 22) I23 J24) Q
        refine st_aload_n (pc' := 93) dX3_parseFact_92 rfl rfl (j := 0) rfl ?_
        refine G_X3_19_3 dX3_parseFact_93 (pc' := 96) rfl rfl ?_
        refine st_iconst (pc' := 97) dX3_parseFact_96 rfl ?_
        refine st_callV (pc' := 100) (kc := k - 1) (E' := LAY) (cal := m_X7_emit) (n := 1) (as := [vI 1]) (S := []) dX3_parseFact_97 rfl l_X3_165 k_X7_emit rfl L_22 c_X7 rfl rfl (Nat.le_of_ble_eq_true rfl) (by omega) ⟨Nat.le_refl _, Nat.le_refl _, Nat.le_refl _, Nat.le_refl _⟩ h (fun r M' q => ?_)
        obtain ⟨I26, J27, rfl, rfl, h⟩ := q
        change WP _ LAY m_X3_parseFact 100 [(0, vR (some 3))] [] (mem (some 22, some 5, some 22) I26 J27) Q
        refine st_iconst (pc' := 101) dX3_parseFact_100 rfl ?_
        exact st_iret (ty := .boolean) dX3_parseFact_101 rfl (by decide) rfl h
    · replace h := h.2 (b2i_t.mp c)
      refine st_aload_n (pc' := 45) dX3_parseFact_44 rfl rfl (j := 0) rfl ?_
      refine st_callV (pc' := 48) (kc := k - 1) (E' := LAY) (cal := m_X3_openOne) (n := 0) (as := []) (S := []) dX3_parseFact_45 rfl l_X3_172 k_X3_openOne rfl L_3 c_X3 rfl rfl (Nat.le_of_ble_eq_true rfl) (by omega) ⟨Nat.le_refl _, Nat.le_refl _, Nat.le_refl _, Nat.le_refl _⟩ h (fun r M' q => ?_)
      obtain ⟨v28, I29, J30, rfl, rfl, h⟩ := q
      change WP _ LAY m_X3_parseFact 48 [(0, vR (some 3))] [vI v28] (mem (some 22, some 5, some 22) I29 J30) Q
      obtain ⟨e31, h⟩ := h
      refine st_if_eq (tg := 71) (pc' := 51) dX3_parseFact_48 (by decide) rfl e31 (fun c => ?_) (fun c => ?_)
      · replace h := h.1 c
        refine st_iconst (pc' := 72) dX3_parseFact_71 rfl ?_
        exact st_iret (ty := .boolean) dX3_parseFact_72 rfl (by decide) rfl h
      · replace h := h.2 c
        refine st_aload_n (pc' := 52) dX3_parseFact_51 rfl rfl (j := 0) rfl ?_
        refine st_callV (pc' := 55) (kc := k - 1) (E' := LAY) (cal := m_X3_parseTest) (n := 0) (as := []) (S := []) dX3_parseFact_52 rfl l_X3_104 k_X3_parseTest rfl L_3 c_X3 rfl rfl (Nat.le_of_ble_eq_true rfl) (by omega) ⟨Nat.le_refl _, Nat.le_refl _, Nat.le_refl _, Nat.le_refl _⟩ h (fun r M' q => ?_)
        obtain ⟨v32, I33, J34, rfl, rfl, h⟩ := q
        change WP _ LAY m_X3_parseFact 55 [(0, vR (some 3))] [vI v32] (mem (some 22, some 5, some 22) I33 J34) Q
        obtain ⟨e35, h⟩ := h
        refine st_if_eq (tg := 71) (pc' := 58) dX3_parseFact_55 (by decide) rfl e35 (fun c => ?_) (fun c => ?_)
        · replace h := h.1 c
          refine st_iconst (pc' := 72) dX3_parseFact_71 rfl ?_
          exact st_iret (ty := .boolean) dX3_parseFact_72 rfl (by decide) rfl h
        · replace h := h.2 c
          refine st_aload_n (pc' := 59) dX3_parseFact_58 rfl rfl (j := 0) rfl ?_
          refine st_bipush (pc' := 61) dX3_parseFact_59 rfl (by decide) ?_
          refine st_callV (pc' := 64) (kc := k - 1) (E' := LAY) (cal := m_X3_closeOne) (n := 1) (as := [vI 93]) (S := []) dX3_parseFact_61 rfl l_X3_181 k_X3_closeOne rfl L_3 c_X3 rfl rfl (Nat.le_of_ble_eq_true rfl) (by omega) ⟨Nat.le_refl _, Nat.le_refl _, Nat.le_refl _, Nat.le_refl _⟩ h (fun r M' q => ?_)
          obtain ⟨v36, I37, J38, rfl, rfl, h⟩ := q
          change WP _ LAY m_X3_parseFact 64 [(0, vR (some 3))] [vI v36] (mem (some 22, some 5, some 22) I37 J38) Q
          obtain ⟨e39, h⟩ := h
          refine st_if_eq (tg := 71) (pc' := 67) dX3_parseFact_64 (by decide) rfl e39 (fun c => ?_) (fun c => ?_)
          · replace h := h.1 c
            refine st_iconst (pc' := 72) dX3_parseFact_71 rfl ?_
            exact st_iret (ty := .boolean) dX3_parseFact_72 rfl (by decide) rfl h
          · replace h := h.2 c
            refine st_iconst (pc' := 68) dX3_parseFact_67 rfl ?_
            refine st_goto (pc' := 72) dX3_parseFact_68 (by decide) ?_
            exact st_iret (ty := .boolean) dX3_parseFact_72 rfl (by decide) rfl h
  · replace h := h.2 (b2i_t.mp c)
    refine st_aload_n (pc' := 13) dX3_parseFact_12 rfl rfl (j := 0) rfl ?_
    refine st_callV (pc' := 16) (kc := k - 1) (E' := LAY) (cal := m_X3_openOne) (n := 0) (as := []) (S := []) dX3_parseFact_13 rfl l_X3_172 k_X3_openOne rfl L_3 c_X3 rfl rfl (Nat.le_of_ble_eq_true rfl) (by omega) ⟨Nat.le_refl _, Nat.le_refl _, Nat.le_refl _, Nat.le_refl _⟩ h (fun r M' q => ?_)
    obtain ⟨v40, I41, J42, rfl, rfl, h⟩ := q
    change WP _ LAY m_X3_parseFact 16 [(0, vR (some 3))] [vI v40] (mem (some 22, some 5, some 22) I41 J42) Q
    obtain ⟨e43, h⟩ := h
    refine st_if_eq (tg := 30) (pc' := 19) dX3_parseFact_16 (by decide) rfl e43 (fun c => ?_) (fun c => ?_)
    · replace h := h.1 c
      refine st_iconst (pc' := 31) dX3_parseFact_30 rfl ?_
      exact st_iret (ty := .boolean) dX3_parseFact_31 rfl (by decide) rfl h
    · replace h := h.2 c
      refine st_aload_n (pc' := 20) dX3_parseFact_19 rfl rfl (j := 0) rfl ?_
      refine st_callV (pc' := 23) (kc := k - 1) (E' := LAY) (cal := m_X3_parseNegated) (n := 0) (as := []) (S := []) dX3_parseFact_20 rfl l_X3_175 k_X3_parseNegated rfl L_3 c_X3 rfl rfl (Nat.le_of_ble_eq_true rfl) (by omega) ⟨Nat.le_refl _, Nat.le_refl _, Nat.le_refl _, Nat.le_refl _⟩ h (fun r M' q => ?_)
      obtain ⟨v44, I45, J46, rfl, rfl, h⟩ := q
      change WP _ LAY m_X3_parseFact 23 [(0, vR (some 3))] [vI v44] (mem (some 22, some 5, some 22) I45 J46) Q
      obtain ⟨e47, h⟩ := h
      refine st_if_eq (tg := 30) (pc' := 26) dX3_parseFact_23 (by decide) rfl e47 (fun c => ?_) (fun c => ?_)
      · replace h := h.1 c
        refine st_iconst (pc' := 31) dX3_parseFact_30 rfl ?_
        exact st_iret (ty := .boolean) dX3_parseFact_31 rfl (by decide) rfl h
      · replace h := h.2 c
        refine st_iconst (pc' := 27) dX3_parseFact_26 rfl ?_
        refine st_goto (pc' := 31) dX3_parseFact_27 (by decide) ?_
        exact st_iret (ty := .boolean) dX3_parseFact_31 rfl (by decide) rfl h
set_option maxRecDepth 20000 in
set_option maxHeartbeats 4000000 in
theorem B_X3_parseBoth_0 {k : Nat} {I : Nat → Nat → Int32} {J : Nat → Nat → Int64}  {Q : Option AV → Mem → Prop} (hk : 1 ≤ k) (h : WPm (k - 1) LAY m_X3_parseFact [vR (some 3)] (mem (some 22, some 5, some 22) I J) (retI (fun v1 I2 J3 => WP k LAY m_X3_parseBoth 7 [(0, vR (some 3)), (1, vI v1), (2, vI 0)] [] (mem (some 22, some 5, some 22) I2 J3) Q) (some 22, some 5, some 22))) : WP k LAY m_X3_parseBoth 0 [(0, vR (some 3))] [] (mem (some 22, some 5, some 22) I J) Q := by
  refine st_aload_n (pc' := 1) dX3_parseBoth_0 rfl rfl (j := 0) rfl ?_
  refine st_callV (pc' := 4) (kc := k - 1) (E' := LAY) (cal := m_X3_parseFact) (n := 0) (as := []) (S := []) dX3_parseBoth_1 rfl l_X3_169 k_X3_parseFact rfl L_3 c_X3 rfl rfl (Nat.le_of_ble_eq_true rfl) (by omega) ⟨Nat.le_refl _, Nat.le_refl _, Nat.le_refl _, Nat.le_refl _⟩ h (fun r M' q => ?_)
  obtain ⟨v1, I2, J3, rfl, rfl, h⟩ := q
  change WP _ LAY m_X3_parseBoth 4 [(0, vR (some 3))] [vI v1] (mem (some 22, some 5, some 22) I2 J3) Q
  refine st_istore_n (pc' := 5) (L' := [(1, vI v1), (0, vR (some 3))]) dX3_parseBoth_4 rfl rfl (by decide) rfl ?_
  refine st_iconst (pc' := 6) dX3_parseBoth_5 rfl ?_
  refine st_istore_n (pc' := 7) (L' := [(2, vI 0), (1, vI v1), (0, vR (some 3))]) dX3_parseBoth_6 rfl rfl (by decide) rfl ?_
  refine WP_sub (L' := [(0, vR (some 3)), (1, vI v1), (2, vI 0)]) [2, 1, 0] rfl ?_
  exact h
set_option maxRecDepth 20000 in
set_option maxHeartbeats 4000000 in
theorem B_X3_parseBoth_7 {k : Nat} {I : Nat → Nat → Int32} {J : Nat → Nat → Int64} {x1 : Int} {x2 : Int} {Q : Option AV → Mem → Prop} (hk : 1 ≤ k) (h : inR x2 ∧ ((1600 ≤ x2 → ((x1 = 0 ∨ x1 = 1) ∧ (Q (some (vI x1)) (mem (some 22, some 5, some 22) I J)))) ∧ (¬ 1600 ≤ x2 → (inR x1 ∧ ((x1 = 0 → ((x1 = 0 ∨ x1 = 1) ∧ (Q (some (vI x1)) (mem (some 22, some 5, some 22) I J)))) ∧ (¬ x1 = 0 → ((¬ (gi I 1 2 = 2 ∧ gi I 1 5 = 20) → ((x1 = 0 ∨ x1 = 1) ∧ (Q (some (vI x1)) (mem (some 22, some 5, some 22) I J)))) ∧ ((gi I 1 2 = 2 ∧ gi I 1 5 = 20) → (WPm (k - 1) LAY m_X10_step [vR (some 1)] (mem (some 22, some 5, some 22) I J) (retV (fun I7 J8 => WPm (k - 1) LAY m_X3_parseFact [vR (some 3)] (mem (some 22, some 5, some 22) I7 J8) (retI (fun v9 I10 J11 => WPm (k - 1) LAY m_X7_emit [vR (some 22), vI 10110] (mem (some 22, some 5, some 22) I10 J11) (retV (fun I13 J14 => WP k LAY m_X3_parseBoth 7 [(0, vR (some 3)), (1, vI v9), (2, vI (x2 + 1))] [] (mem (some 22, some 5, some 22) I13 J14) Q) (some 22, some 5, some 22))) (some 22, some 5, some 22))) (some 22, some 5, some 22))))))))))) : WP k LAY m_X3_parseBoth 7 [(0, vR (some 3)), (1, vI x1), (2, vI x2)] [] (mem (some 22, some 5, some 22) I J) Q := by
  refine st_iload_n (pc' := 8) dX3_parseBoth_7 rfl rfl (j := 2) rfl ?_
  refine st_sipush (pc' := 11) dX3_parseBoth_8 rfl (by decide) ?_
  obtain ⟨e1, h⟩ := h
  refine st_icmp_ge (tg := 58) (pc' := 14) dX3_parseBoth_11 (by decide) rfl e1 (by decide) (fun c => ?_) (fun c => ?_)
  · replace h := h.1 c
    refine st_iload_n (pc' := 59) dX3_parseBoth_58 rfl rfl (j := 1) rfl ?_
    obtain ⟨e2, h⟩ := h
    exact st_iret (ty := .boolean) dX3_parseBoth_59 rfl (nar_b e2) rfl h
  · replace h := h.2 c
    refine st_iload_n (pc' := 15) dX3_parseBoth_14 rfl rfl (j := 1) rfl ?_
    obtain ⟨e3, h⟩ := h
    refine st_if_eq (tg := 58) (pc' := 18) dX3_parseBoth_15 (by decide) rfl e3 (fun c => ?_) (fun c => ?_)
    · replace h := h.1 c
      refine st_iload_n (pc' := 59) dX3_parseBoth_58 rfl rfl (j := 1) rfl ?_
      obtain ⟨e4, h⟩ := h
      exact st_iret (ty := .boolean) dX3_parseBoth_59 rfl (nar_b e4) rfl h
    · replace h := h.2 c
      refine st_aload_n (pc' := 19) dX3_parseBoth_18 rfl rfl (j := 0) rfl ?_
      refine G_X3_15_3 dX3_parseBoth_19 (pc' := 22) rfl rfl ?_
      refine st_bipush (pc' := 24) dX3_parseBoth_22 rfl (by decide) ?_
      refine st_callV (pc' := 27) (kc := k - 1) (E' := LAY) (cal := m_X10_isOwn) (n := 1) (as := [vI 20]) (S := []) dX3_parseBoth_24 rfl l_X3_132 k_X10_isOwn rfl L_1 c_X10 rfl rfl (Nat.le_of_ble_eq_true rfl) (by omega) ⟨Nat.le_refl _, Nat.le_refl _, Nat.le_refl _, Nat.le_refl _⟩ (Q1 := fun r M' => WP k LAY m_X3_parseBoth 27 [(0, vR (some 3)), (1, vI x1), (2, vI x2)] (r.toList ++ []) M' Q) (S_X10_isOwn (by omega) (by decide) ?_) (fun r M' q => q)
      change WP _ LAY m_X3_parseBoth 27 [(0, vR (some 3)), (1, vI x1), (2, vI x2)] [vI (b2i (gi I 1 2 = 2 ∧ gi I 1 5 = 20))] (mem (some 22, some 5, some 22) I J) Q
      refine st_if_eq (tg := 58) (pc' := 30) dX3_parseBoth_27 (by decide) rfl (b2i_in _) (fun c => ?_) (fun c => ?_)
      · replace h := h.1 (b2i_f.mp c)
        refine st_iload_n (pc' := 59) dX3_parseBoth_58 rfl rfl (j := 1) rfl ?_
        obtain ⟨e5, h⟩ := h
        exact st_iret (ty := .boolean) dX3_parseBoth_59 rfl (nar_b e5) rfl h
      · replace h := h.2 (b2i_t.mp c)
        refine st_aload_n (pc' := 31) dX3_parseBoth_30 rfl rfl (j := 0) rfl ?_
        refine G_X3_15_3 dX3_parseBoth_31 (pc' := 34) rfl rfl ?_
        refine st_callV (pc' := 37) (kc := k - 1) (E' := LAY) (cal := m_X10_step) (n := 0) (as := []) (S := []) dX3_parseBoth_34 rfl l_X3_74 k_X10_step rfl L_1 c_X10 rfl rfl (Nat.le_of_ble_eq_true rfl) (by omega) ⟨Nat.le_refl _, Nat.le_refl _, Nat.le_refl _, Nat.le_refl _⟩ h (fun r M' q => ?_)
        obtain ⟨I7, J8, rfl, rfl, h⟩ := q
        change WP _ LAY m_X3_parseBoth 37 [(0, vR (some 3)), (1, vI x1), (2, vI x2)] [] (mem (some 22, some 5, some 22) I7 J8) Q
        refine st_aload_n (pc' := 38) dX3_parseBoth_37 rfl rfl (j := 0) rfl ?_
        refine st_callV (pc' := 41) (kc := k - 1) (E' := LAY) (cal := m_X3_parseFact) (n := 0) (as := []) (S := []) dX3_parseBoth_38 rfl l_X3_169 k_X3_parseFact rfl L_3 c_X3 rfl rfl (Nat.le_of_ble_eq_true rfl) (by omega) ⟨Nat.le_refl _, Nat.le_refl _, Nat.le_refl _, Nat.le_refl _⟩ h (fun r M' q => ?_)
        obtain ⟨v9, I10, J11, rfl, rfl, h⟩ := q
        change WP _ LAY m_X3_parseBoth 41 [(0, vR (some 3)), (1, vI x1), (2, vI x2)] [vI v9] (mem (some 22, some 5, some 22) I10 J11) Q
        refine st_istore_n (pc' := 42) (L' := [(1, vI v9), (0, vR (some 3)), (2, vI x2)]) dX3_parseBoth_41 rfl rfl (by decide) rfl ?_
        refine st_aload_n (pc' := 43) dX3_parseBoth_42 rfl rfl (j := 1) rfl ?_
        refine G_X3_19_3 dX3_parseBoth_43 (pc' := 46) rfl rfl ?_
        refine st_sipush (pc' := 49) dX3_parseBoth_46 rfl (by decide) ?_
        refine st_callV (pc' := 52) (kc := k - 1) (E' := LAY) (cal := m_X7_emit) (n := 1) (as := [vI 10110]) (S := []) dX3_parseBoth_49 rfl l_X3_165 k_X7_emit rfl L_22 c_X7 rfl rfl (Nat.le_of_ble_eq_true rfl) (by omega) ⟨Nat.le_refl _, Nat.le_refl _, Nat.le_refl _, Nat.le_refl _⟩ h (fun r M' q => ?_)
        obtain ⟨I13, J14, rfl, rfl, h⟩ := q
        change WP _ LAY m_X3_parseBoth 52 [(1, vI v9), (0, vR (some 3)), (2, vI x2)] [] (mem (some 22, some 5, some 22) I13 J14) Q
        refine st_iinc (pc' := 55) (L' := [(2, vI (x2 + 1)), (1, vI v9), (0, vR (some 3))]) (j := 2) dX3_parseBoth_52 rfl (by decide) rfl rfl ?_
        refine st_goto (pc' := 7) dX3_parseBoth_55 (by decide) ?_
        refine WP_sub (L' := [(0, vR (some 3)), (1, vI v9), (2, vI (x2 + 1))]) [2, 1, 0] rfl ?_
        exact h
set_option maxRecDepth 20000 in
set_option maxHeartbeats 4000000 in
theorem B_X3_parseTest_0 {k : Nat} {I : Nat → Nat → Int32} {J : Nat → Nat → Int64}  {Q : Option AV → Mem → Prop} (hk : 1 ≤ k) (h : WPm (k - 1) LAY m_X3_parseBoth [vR (some 3)] (mem (some 22, some 5, some 22) I J) (retI (fun v1 I2 J3 => WP k LAY m_X3_parseTest 7 [(0, vR (some 3)), (1, vI v1), (2, vI 0)] [] (mem (some 22, some 5, some 22) I2 J3) Q) (some 22, some 5, some 22))) : WP k LAY m_X3_parseTest 0 [(0, vR (some 3))] [] (mem (some 22, some 5, some 22) I J) Q := by
  refine st_aload_n (pc' := 1) dX3_parseTest_0 rfl rfl (j := 0) rfl ?_
  refine st_callV (pc' := 4) (kc := k - 1) (E' := LAY) (cal := m_X3_parseBoth) (n := 0) (as := []) (S := []) dX3_parseTest_1 rfl l_X3_162 k_X3_parseBoth rfl L_3 c_X3 rfl rfl (Nat.le_of_ble_eq_true rfl) (by omega) ⟨Nat.le_refl _, Nat.le_refl _, Nat.le_refl _, Nat.le_refl _⟩ h (fun r M' q => ?_)
  obtain ⟨v1, I2, J3, rfl, rfl, h⟩ := q
  change WP _ LAY m_X3_parseTest 4 [(0, vR (some 3))] [vI v1] (mem (some 22, some 5, some 22) I2 J3) Q
  refine st_istore_n (pc' := 5) (L' := [(1, vI v1), (0, vR (some 3))]) dX3_parseTest_4 rfl rfl (by decide) rfl ?_
  refine st_iconst (pc' := 6) dX3_parseTest_5 rfl ?_
  refine st_istore_n (pc' := 7) (L' := [(2, vI 0), (1, vI v1), (0, vR (some 3))]) dX3_parseTest_6 rfl rfl (by decide) rfl ?_
  refine WP_sub (L' := [(0, vR (some 3)), (1, vI v1), (2, vI 0)]) [2, 1, 0] rfl ?_
  exact h
set_option maxRecDepth 20000 in
set_option maxHeartbeats 4000000 in
theorem B_X3_parseTest_7 {k : Nat} {I : Nat → Nat → Int32} {J : Nat → Nat → Int64} {x1 : Int} {x2 : Int} {Q : Option AV → Mem → Prop} (hk : 1 ≤ k) (h : inR x2 ∧ ((1600 ≤ x2 → ((x1 = 0 ∨ x1 = 1) ∧ (Q (some (vI x1)) (mem (some 22, some 5, some 22) I J)))) ∧ (¬ 1600 ≤ x2 → (inR x1 ∧ ((x1 = 0 → ((x1 = 0 ∨ x1 = 1) ∧ (Q (some (vI x1)) (mem (some 22, some 5, some 22) I J)))) ∧ (¬ x1 = 0 → ((¬ (gi I 1 2 = 2 ∧ gi I 1 5 = 19) → ((x1 = 0 ∨ x1 = 1) ∧ (Q (some (vI x1)) (mem (some 22, some 5, some 22) I J)))) ∧ ((gi I 1 2 = 2 ∧ gi I 1 5 = 19) → (WPm (k - 1) LAY m_X10_step [vR (some 1)] (mem (some 22, some 5, some 22) I J) (retV (fun I7 J8 => WPm (k - 1) LAY m_X3_parseBoth [vR (some 3)] (mem (some 22, some 5, some 22) I7 J8) (retI (fun v9 I10 J11 => WPm (k - 1) LAY m_X7_emit [vR (some 22), vI 10111] (mem (some 22, some 5, some 22) I10 J11) (retV (fun I13 J14 => WP k LAY m_X3_parseTest 7 [(0, vR (some 3)), (1, vI v9), (2, vI (x2 + 1))] [] (mem (some 22, some 5, some 22) I13 J14) Q) (some 22, some 5, some 22))) (some 22, some 5, some 22))) (some 22, some 5, some 22))))))))))) : WP k LAY m_X3_parseTest 7 [(0, vR (some 3)), (1, vI x1), (2, vI x2)] [] (mem (some 22, some 5, some 22) I J) Q := by
  refine st_iload_n (pc' := 8) dX3_parseTest_7 rfl rfl (j := 2) rfl ?_
  refine st_sipush (pc' := 11) dX3_parseTest_8 rfl (by decide) ?_
  obtain ⟨e1, h⟩ := h
  refine st_icmp_ge (tg := 58) (pc' := 14) dX3_parseTest_11 (by decide) rfl e1 (by decide) (fun c => ?_) (fun c => ?_)
  · replace h := h.1 c
    refine st_iload_n (pc' := 59) dX3_parseTest_58 rfl rfl (j := 1) rfl ?_
    obtain ⟨e2, h⟩ := h
    exact st_iret (ty := .boolean) dX3_parseTest_59 rfl (nar_b e2) rfl h
  · replace h := h.2 c
    refine st_iload_n (pc' := 15) dX3_parseTest_14 rfl rfl (j := 1) rfl ?_
    obtain ⟨e3, h⟩ := h
    refine st_if_eq (tg := 58) (pc' := 18) dX3_parseTest_15 (by decide) rfl e3 (fun c => ?_) (fun c => ?_)
    · replace h := h.1 c
      refine st_iload_n (pc' := 59) dX3_parseTest_58 rfl rfl (j := 1) rfl ?_
      obtain ⟨e4, h⟩ := h
      exact st_iret (ty := .boolean) dX3_parseTest_59 rfl (nar_b e4) rfl h
    · replace h := h.2 c
      refine st_aload_n (pc' := 19) dX3_parseTest_18 rfl rfl (j := 0) rfl ?_
      refine G_X3_15_3 dX3_parseTest_19 (pc' := 22) rfl rfl ?_
      refine st_bipush (pc' := 24) dX3_parseTest_22 rfl (by decide) ?_
      refine st_callV (pc' := 27) (kc := k - 1) (E' := LAY) (cal := m_X10_isOwn) (n := 1) (as := [vI 19]) (S := []) dX3_parseTest_24 rfl l_X3_132 k_X10_isOwn rfl L_1 c_X10 rfl rfl (Nat.le_of_ble_eq_true rfl) (by omega) ⟨Nat.le_refl _, Nat.le_refl _, Nat.le_refl _, Nat.le_refl _⟩ (Q1 := fun r M' => WP k LAY m_X3_parseTest 27 [(0, vR (some 3)), (1, vI x1), (2, vI x2)] (r.toList ++ []) M' Q) (S_X10_isOwn (by omega) (by decide) ?_) (fun r M' q => q)
      change WP _ LAY m_X3_parseTest 27 [(0, vR (some 3)), (1, vI x1), (2, vI x2)] [vI (b2i (gi I 1 2 = 2 ∧ gi I 1 5 = 19))] (mem (some 22, some 5, some 22) I J) Q
      refine st_if_eq (tg := 58) (pc' := 30) dX3_parseTest_27 (by decide) rfl (b2i_in _) (fun c => ?_) (fun c => ?_)
      · replace h := h.1 (b2i_f.mp c)
        refine st_iload_n (pc' := 59) dX3_parseTest_58 rfl rfl (j := 1) rfl ?_
        obtain ⟨e5, h⟩ := h
        exact st_iret (ty := .boolean) dX3_parseTest_59 rfl (nar_b e5) rfl h
      · replace h := h.2 (b2i_t.mp c)
        refine st_aload_n (pc' := 31) dX3_parseTest_30 rfl rfl (j := 0) rfl ?_
        refine G_X3_15_3 dX3_parseTest_31 (pc' := 34) rfl rfl ?_
        refine st_callV (pc' := 37) (kc := k - 1) (E' := LAY) (cal := m_X10_step) (n := 0) (as := []) (S := []) dX3_parseTest_34 rfl l_X3_74 k_X10_step rfl L_1 c_X10 rfl rfl (Nat.le_of_ble_eq_true rfl) (by omega) ⟨Nat.le_refl _, Nat.le_refl _, Nat.le_refl _, Nat.le_refl _⟩ h (fun r M' q => ?_)
        obtain ⟨I7, J8, rfl, rfl, h⟩ := q
        change WP _ LAY m_X3_parseTest 37 [(0, vR (some 3)), (1, vI x1), (2, vI x2)] [] (mem (some 22, some 5, some 22) I7 J8) Q
        refine st_aload_n (pc' := 38) dX3_parseTest_37 rfl rfl (j := 0) rfl ?_
        refine st_callV (pc' := 41) (kc := k - 1) (E' := LAY) (cal := m_X3_parseBoth) (n := 0) (as := []) (S := []) dX3_parseTest_38 rfl l_X3_162 k_X3_parseBoth rfl L_3 c_X3 rfl rfl (Nat.le_of_ble_eq_true rfl) (by omega) ⟨Nat.le_refl _, Nat.le_refl _, Nat.le_refl _, Nat.le_refl _⟩ h (fun r M' q => ?_)
        obtain ⟨v9, I10, J11, rfl, rfl, h⟩ := q
        change WP _ LAY m_X3_parseTest 41 [(0, vR (some 3)), (1, vI x1), (2, vI x2)] [vI v9] (mem (some 22, some 5, some 22) I10 J11) Q
        refine st_istore_n (pc' := 42) (L' := [(1, vI v9), (0, vR (some 3)), (2, vI x2)]) dX3_parseTest_41 rfl rfl (by decide) rfl ?_
        refine st_aload_n (pc' := 43) dX3_parseTest_42 rfl rfl (j := 1) rfl ?_
        refine G_X3_19_3 dX3_parseTest_43 (pc' := 46) rfl rfl ?_
        refine st_sipush (pc' := 49) dX3_parseTest_46 rfl (by decide) ?_
        refine st_callV (pc' := 52) (kc := k - 1) (E' := LAY) (cal := m_X7_emit) (n := 1) (as := [vI 10111]) (S := []) dX3_parseTest_49 rfl l_X3_165 k_X7_emit rfl L_22 c_X7 rfl rfl (Nat.le_of_ble_eq_true rfl) (by omega) ⟨Nat.le_refl _, Nat.le_refl _, Nat.le_refl _, Nat.le_refl _⟩ h (fun r M' q => ?_)
        obtain ⟨I13, J14, rfl, rfl, h⟩ := q
        change WP _ LAY m_X3_parseTest 52 [(1, vI v9), (0, vR (some 3)), (2, vI x2)] [] (mem (some 22, some 5, some 22) I13 J14) Q
        refine st_iinc (pc' := 55) (L' := [(2, vI (x2 + 1)), (1, vI v9), (0, vR (some 3))]) (j := 2) dX3_parseTest_52 rfl (by decide) rfl rfl ?_
        refine st_goto (pc' := 7) dX3_parseTest_55 (by decide) ?_
        refine WP_sub (L' := [(0, vR (some 3)), (1, vI v9), (2, vI (x2 + 1))]) [2, 1, 0] rfl ?_
        exact h
set_option maxRecDepth 20000 in
set_option maxHeartbeats 4000000 in
theorem B_X3_statement_0 {k : Nat} {I : Nat → Nat → Int32} {J : Nat → Nat → Int64} {x1 : Int} {Q : Option AV → Mem → Prop} (hk : 2 ≤ k) (h : (¬ (gi I 1 2) = 2 → (inR x1 ∧ ((80 ≤ x1 → (Q (some (vI 0)) (mem (some 22, some 5, some 22) (si (si I 3 2 6) 3 3 (gi I 1 3)) J))) ∧ (¬ 80 ≤ x1 → (WPm (k - 1) LAY m_X3_roomFor [vR (some 3), vI (-1)] (mem (some 22, some 5, some 22) I J) (retI (fun v2 I3 J4 => inR v2 ∧ ((¬ v2 = (-1) → ((¬ v2 = 0 → (WPm (k - 1) LAY m_X10_step [vR (some 1)] (mem (some 22, some 5, some 22) I3 J4) (retV (fun I7 J8 => ((-1) = 0 → (WPm (k - 1) LAY m_X3_give [vR (some 3), vI 0] (mem (some 22, some 5, some 22) I7 J8) (retI (fun v9 I10 J11 => inR v9 ∧ ((v9 = 0 → (Q (some (vI 0)) (mem (some 22, some 5, some 22) I10 J11))) ∧ (¬ v9 = 0 → (WPm (k - 1) LAY m_X3_wantSign [vR (some 3), vI 59] (mem (some 22, some 5, some 22) I10 J11) (retI (fun v13 I14 J15 => inR v13 ∧ ((v13 = 0 → (Q (some (vI 0)) (mem (some 22, some 5, some 22) I14 J15))) ∧ (¬ v13 = 0 → (Q (some (vI 1)) (mem (some 22, some 5, some 22) I14 J15))))) (some 22, some 5, some 22)))))) (some 22, some 5, some 22)))) ∧ (¬ (-1) = 0 → (((-1) = 1 → (WPm (k - 1) LAY m_X3_tellPage [vR (some 3)] (mem (some 22, some 5, some 22) I7 J8) (retI (fun v17 I18 J19 => inR v17 ∧ ((v17 = 0 → (Q (some (vI 0)) (mem (some 22, some 5, some 22) I18 J19))) ∧ (¬ v17 = 0 → (WPm (k - 1) LAY m_X3_wantSign [vR (some 3), vI 59] (mem (some 22, some 5, some 22) I18 J19) (retI (fun v21 I22 J23 => inR v21 ∧ ((v21 = 0 → (Q (some (vI 0)) (mem (some 22, some 5, some 22) I22 J23))) ∧ (¬ v21 = 0 → (Q (some (vI 1)) (mem (some 22, some 5, some 22) I22 J23))))) (some 22, some 5, some 22)))))) (some 22, some 5, some 22)))) ∧ (¬ (-1) = 1 → (((-1) = 5 → (WPm (k - 1) LAY m_X3_tellNeed [vR (some 3)] (mem (some 22, some 5, some 22) I7 J8) (retI (fun v25 I26 J27 => inR v25 ∧ ((v25 = 0 → (Q (some (vI 0)) (mem (some 22, some 5, some 22) I26 J27))) ∧ (¬ v25 = 0 → (WPm (k - 1) LAY m_X3_wantSign [vR (some 3), vI 59] (mem (some 22, some 5, some 22) I26 J27) (retI (fun v29 I30 J31 => inR v29 ∧ ((v29 = 0 → (Q (some (vI 0)) (mem (some 22, some 5, some 22) I30 J31))) ∧ (¬ v29 = 0 → (Q (some (vI 1)) (mem (some 22, some 5, some 22) I30 J31))))) (some 22, some 5, some 22)))))) (some 22, some 5, some 22)))) ∧ (¬ (-1) = 5 → (((-1) = 6 → (WPm (k - 1) LAY m_X3_tellReader [vR (some 3)] (mem (some 22, some 5, some 22) I7 J8) (retI (fun v33 I34 J35 => inR v33 ∧ ((v33 = 0 → (Q (some (vI 0)) (mem (some 22, some 5, some 22) I34 J35))) ∧ (¬ v33 = 0 → (WPm (k - 1) LAY m_X3_wantSign [vR (some 3), vI 59] (mem (some 22, some 5, some 22) I34 J35) (retI (fun v37 I38 J39 => inR v37 ∧ ((v37 = 0 → (Q (some (vI 0)) (mem (some 22, some 5, some 22) I38 J39))) ∧ (¬ v37 = 0 → (Q (some (vI 1)) (mem (some 22, some 5, some 22) I38 J39))))) (some 22, some 5, some 22)))))) (some 22, some 5, some 22)))) ∧ (¬ (-1) = 6 → (((-1) = 9 → (WPm (k - 1) LAY m_X3_tellTable [vR (some 3)] (mem (some 22, some 5, some 22) I7 J8) (retI (fun v41 I42 J43 => inR v41 ∧ ((v41 = 0 → (Q (some (vI 0)) (mem (some 22, some 5, some 22) I42 J43))) ∧ (¬ v41 = 0 → (WPm (k - 1) LAY m_X3_wantSign [vR (some 3), vI 59] (mem (some 22, some 5, some 22) I42 J43) (retI (fun v45 I46 J47 => inR v45 ∧ ((v45 = 0 → (Q (some (vI 0)) (mem (some 22, some 5, some 22) I46 J47))) ∧ (¬ v45 = 0 → (Q (some (vI 1)) (mem (some 22, some 5, some 22) I46 J47))))) (some 22, some 5, some 22)))))) (some 22, some 5, some 22)))) ∧ (¬ (-1) = 9 → (((-1) = 11 → (WPm (k - 1) LAY m_X3_tellInch [vR (some 3)] (mem (some 22, some 5, some 22) I7 J8) (retI (fun v49 I50 J51 => inR v49 ∧ ((v49 = 0 → (Q (some (vI 0)) (mem (some 22, some 5, some 22) I50 J51))) ∧ (¬ v49 = 0 → (WPm (k - 1) LAY m_X3_wantSign [vR (some 3), vI 59] (mem (some 22, some 5, some 22) I50 J51) (retI (fun v53 I54 J55 => inR v53 ∧ ((v53 = 0 → (Q (some (vI 0)) (mem (some 22, some 5, some 22) I54 J55))) ∧ (¬ v53 = 0 → (Q (some (vI 1)) (mem (some 22, some 5, some 22) I54 J55))))) (some 22, some 5, some 22)))))) (some 22, some 5, some 22)))) ∧ (¬ (-1) = 11 → (((-1) = 12 → (WPm (k - 1) LAY m_X3_parseSum [vR (some 3)] (mem (some 22, some 5, some 22) (si I7 34 0 (gi I7 22 13)) J8) (retI (fun v57 I58 J59 => inR v57 ∧ ((v57 = 0 → (Q (some (vI 0)) (mem (some 22, some 5, some 22) I58 J59))) ∧ (¬ v57 = 0 → (WPm (k - 1) LAY m_X3_wantSign [vR (some 3), vI 59] (mem (some 22, some 5, some 22) (si I58 35 0 (gi I58 22 13)) J59) (retI (fun v61 I62 J63 => inR v61 ∧ ((v61 = 0 → (Q (some (vI 0)) (mem (some 22, some 5, some 22) I62 J63))) ∧ (¬ v61 = 0 → (Q (some (vI 1)) (mem (some 22, some 5, some 22) I62 J63))))) (some 22, some 5, some 22)))))) (some 22, some 5, some 22)))) ∧ (¬ (-1) = 12 → (((-1) = 13 → (WPm (k - 1) LAY m_X3_parseSum [vR (some 3)] (mem (some 22, some 5, some 22) (si I7 34 1 (gi I7 22 13)) J8) (retI (fun v65 I66 J67 => inR v65 ∧ ((v65 = 0 → (Q (some (vI 0)) (mem (some 22, some 5, some 22) I66 J67))) ∧ (¬ v65 = 0 → (WPm (k - 1) LAY m_X3_wantSign [vR (some 3), vI 59] (mem (some 22, some 5, some 22) (si I66 35 1 (gi I66 22 13)) J67) (retI (fun v69 I70 J71 => inR v69 ∧ ((v69 = 0 → (Q (some (vI 0)) (mem (some 22, some 5, some 22) I70 J71))) ∧ (¬ v69 = 0 → (Q (some (vI 1)) (mem (some 22, some 5, some 22) I70 J71))))) (some 22, some 5, some 22)))))) (some 22, some 5, some 22)))) ∧ (¬ (-1) = 13 → (WPm (k - 1) LAY m_X3_parseTest [vR (some 3)] (mem (some 22, some 5, some 22) (si I7 34 2 (gi I7 22 13)) J8) (retI (fun v73 I74 J75 => inR v73 ∧ ((v73 = 0 → (Q (some (vI 0)) (mem (some 22, some 5, some 22) I74 J75))) ∧ (¬ v73 = 0 → (WPm (k - 1) LAY m_X3_wantSign [vR (some 3), vI 59] (mem (some 22, some 5, some 22) (si I74 35 2 (gi I74 22 13)) J75) (retI (fun v77 I78 J79 => inR v77 ∧ ((v77 = 0 → (Q (some (vI 0)) (mem (some 22, some 5, some 22) I78 J79))) ∧ (¬ v77 = 0 → (Q (some (vI 1)) (mem (some 22, some 5, some 22) I78 J79))))) (some 22, some 5, some 22)))))) (some 22, some 5, some 22))))))))))))))))))) (some 22, some 5, some 22)))) ∧ (v2 = 0 → (Q (some (vI 0)) (mem (some 22, some 5, some 22) (si (si I3 3 2 6) 3 3 (gi I3 1 3)) J4))))) ∧ (v2 = (-1) → (Q (some (vI 0)) (mem (some 22, some 5, some 22) (si (si I3 3 2 1) 3 3 (gi I3 1 6)) J4))))) (some 22, some 5, some 22))))))) ∧ ((gi I 1 2) = 2 → (inR x1 ∧ ((80 ≤ x1 → (Q (some (vI 0)) (mem (some 22, some 5, some 22) (si (si I 3 2 6) 3 3 (gi I 1 3)) J))) ∧ (¬ 80 ≤ x1 → (WPm (k - 1) LAY m_X3_roomFor [vR (some 3), vI (gi I 1 5)] (mem (some 22, some 5, some 22) I J) (retI (fun v82 I83 J84 => inR v82 ∧ ((¬ v82 = (-1) → ((¬ v82 = 0 → (WPm (k - 1) LAY m_X10_step [vR (some 1)] (mem (some 22, some 5, some 22) I83 J84) (retV (fun I87 J88 => ((gi I 1 5) = 0 → (WPm (k - 1) LAY m_X3_give [vR (some 3), vI 0] (mem (some 22, some 5, some 22) I87 J88) (retI (fun v89 I90 J91 => inR v89 ∧ ((v89 = 0 → (Q (some (vI 0)) (mem (some 22, some 5, some 22) I90 J91))) ∧ (¬ v89 = 0 → (WPm (k - 1) LAY m_X3_wantSign [vR (some 3), vI 59] (mem (some 22, some 5, some 22) I90 J91) (retI (fun v93 I94 J95 => inR v93 ∧ ((v93 = 0 → (Q (some (vI 0)) (mem (some 22, some 5, some 22) I94 J95))) ∧ (¬ v93 = 0 → (Q (some (vI 1)) (mem (some 22, some 5, some 22) I94 J95))))) (some 22, some 5, some 22)))))) (some 22, some 5, some 22)))) ∧ (¬ (gi I 1 5) = 0 → (((gi I 1 5) = 1 → (WPm (k - 1) LAY m_X3_tellPage [vR (some 3)] (mem (some 22, some 5, some 22) I87 J88) (retI (fun v97 I98 J99 => inR v97 ∧ ((v97 = 0 → (Q (some (vI 0)) (mem (some 22, some 5, some 22) I98 J99))) ∧ (¬ v97 = 0 → (WPm (k - 1) LAY m_X3_wantSign [vR (some 3), vI 59] (mem (some 22, some 5, some 22) I98 J99) (retI (fun v101 I102 J103 => inR v101 ∧ ((v101 = 0 → (Q (some (vI 0)) (mem (some 22, some 5, some 22) I102 J103))) ∧ (¬ v101 = 0 → (Q (some (vI 1)) (mem (some 22, some 5, some 22) I102 J103))))) (some 22, some 5, some 22)))))) (some 22, some 5, some 22)))) ∧ (¬ (gi I 1 5) = 1 → (((gi I 1 5) = 5 → (WPm (k - 1) LAY m_X3_tellNeed [vR (some 3)] (mem (some 22, some 5, some 22) I87 J88) (retI (fun v105 I106 J107 => inR v105 ∧ ((v105 = 0 → (Q (some (vI 0)) (mem (some 22, some 5, some 22) I106 J107))) ∧ (¬ v105 = 0 → (WPm (k - 1) LAY m_X3_wantSign [vR (some 3), vI 59] (mem (some 22, some 5, some 22) I106 J107) (retI (fun v109 I110 J111 => inR v109 ∧ ((v109 = 0 → (Q (some (vI 0)) (mem (some 22, some 5, some 22) I110 J111))) ∧ (¬ v109 = 0 → (Q (some (vI 1)) (mem (some 22, some 5, some 22) I110 J111))))) (some 22, some 5, some 22)))))) (some 22, some 5, some 22)))) ∧ (¬ (gi I 1 5) = 5 → (((gi I 1 5) = 6 → (WPm (k - 1) LAY m_X3_tellReader [vR (some 3)] (mem (some 22, some 5, some 22) I87 J88) (retI (fun v113 I114 J115 => inR v113 ∧ ((v113 = 0 → (Q (some (vI 0)) (mem (some 22, some 5, some 22) I114 J115))) ∧ (¬ v113 = 0 → (WPm (k - 1) LAY m_X3_wantSign [vR (some 3), vI 59] (mem (some 22, some 5, some 22) I114 J115) (retI (fun v117 I118 J119 => inR v117 ∧ ((v117 = 0 → (Q (some (vI 0)) (mem (some 22, some 5, some 22) I118 J119))) ∧ (¬ v117 = 0 → (Q (some (vI 1)) (mem (some 22, some 5, some 22) I118 J119))))) (some 22, some 5, some 22)))))) (some 22, some 5, some 22)))) ∧ (¬ (gi I 1 5) = 6 → (((gi I 1 5) = 9 → (WPm (k - 1) LAY m_X3_tellTable [vR (some 3)] (mem (some 22, some 5, some 22) I87 J88) (retI (fun v121 I122 J123 => inR v121 ∧ ((v121 = 0 → (Q (some (vI 0)) (mem (some 22, some 5, some 22) I122 J123))) ∧ (¬ v121 = 0 → (WPm (k - 1) LAY m_X3_wantSign [vR (some 3), vI 59] (mem (some 22, some 5, some 22) I122 J123) (retI (fun v125 I126 J127 => inR v125 ∧ ((v125 = 0 → (Q (some (vI 0)) (mem (some 22, some 5, some 22) I126 J127))) ∧ (¬ v125 = 0 → (Q (some (vI 1)) (mem (some 22, some 5, some 22) I126 J127))))) (some 22, some 5, some 22)))))) (some 22, some 5, some 22)))) ∧ (¬ (gi I 1 5) = 9 → (((gi I 1 5) = 11 → (WPm (k - 1) LAY m_X3_tellInch [vR (some 3)] (mem (some 22, some 5, some 22) I87 J88) (retI (fun v129 I130 J131 => inR v129 ∧ ((v129 = 0 → (Q (some (vI 0)) (mem (some 22, some 5, some 22) I130 J131))) ∧ (¬ v129 = 0 → (WPm (k - 1) LAY m_X3_wantSign [vR (some 3), vI 59] (mem (some 22, some 5, some 22) I130 J131) (retI (fun v133 I134 J135 => inR v133 ∧ ((v133 = 0 → (Q (some (vI 0)) (mem (some 22, some 5, some 22) I134 J135))) ∧ (¬ v133 = 0 → (Q (some (vI 1)) (mem (some 22, some 5, some 22) I134 J135))))) (some 22, some 5, some 22)))))) (some 22, some 5, some 22)))) ∧ (¬ (gi I 1 5) = 11 → (((gi I 1 5) = 12 → (WPm (k - 1) LAY m_X3_parseSum [vR (some 3)] (mem (some 22, some 5, some 22) (si I87 34 0 (gi I87 22 13)) J88) (retI (fun v137 I138 J139 => inR v137 ∧ ((v137 = 0 → (Q (some (vI 0)) (mem (some 22, some 5, some 22) I138 J139))) ∧ (¬ v137 = 0 → (WPm (k - 1) LAY m_X3_wantSign [vR (some 3), vI 59] (mem (some 22, some 5, some 22) (si I138 35 0 (gi I138 22 13)) J139) (retI (fun v141 I142 J143 => inR v141 ∧ ((v141 = 0 → (Q (some (vI 0)) (mem (some 22, some 5, some 22) I142 J143))) ∧ (¬ v141 = 0 → (Q (some (vI 1)) (mem (some 22, some 5, some 22) I142 J143))))) (some 22, some 5, some 22)))))) (some 22, some 5, some 22)))) ∧ (¬ (gi I 1 5) = 12 → (((gi I 1 5) = 13 → (WPm (k - 1) LAY m_X3_parseSum [vR (some 3)] (mem (some 22, some 5, some 22) (si I87 34 1 (gi I87 22 13)) J88) (retI (fun v145 I146 J147 => inR v145 ∧ ((v145 = 0 → (Q (some (vI 0)) (mem (some 22, some 5, some 22) I146 J147))) ∧ (¬ v145 = 0 → (WPm (k - 1) LAY m_X3_wantSign [vR (some 3), vI 59] (mem (some 22, some 5, some 22) (si I146 35 1 (gi I146 22 13)) J147) (retI (fun v149 I150 J151 => inR v149 ∧ ((v149 = 0 → (Q (some (vI 0)) (mem (some 22, some 5, some 22) I150 J151))) ∧ (¬ v149 = 0 → (Q (some (vI 1)) (mem (some 22, some 5, some 22) I150 J151))))) (some 22, some 5, some 22)))))) (some 22, some 5, some 22)))) ∧ (¬ (gi I 1 5) = 13 → (WPm (k - 1) LAY m_X3_parseTest [vR (some 3)] (mem (some 22, some 5, some 22) (si I87 34 2 (gi I87 22 13)) J88) (retI (fun v153 I154 J155 => inR v153 ∧ ((v153 = 0 → (Q (some (vI 0)) (mem (some 22, some 5, some 22) I154 J155))) ∧ (¬ v153 = 0 → (WPm (k - 1) LAY m_X3_wantSign [vR (some 3), vI 59] (mem (some 22, some 5, some 22) (si I154 35 2 (gi I154 22 13)) J155) (retI (fun v157 I158 J159 => inR v157 ∧ ((v157 = 0 → (Q (some (vI 0)) (mem (some 22, some 5, some 22) I158 J159))) ∧ (¬ v157 = 0 → (Q (some (vI 1)) (mem (some 22, some 5, some 22) I158 J159))))) (some 22, some 5, some 22)))))) (some 22, some 5, some 22))))))))))))))))))) (some 22, some 5, some 22)))) ∧ (v82 = 0 → (Q (some (vI 0)) (mem (some 22, some 5, some 22) (si (si I83 3 2 6) 3 3 (gi I83 1 3)) J84))))) ∧ (v82 = (-1) → (Q (some (vI 0)) (mem (some 22, some 5, some 22) (si (si I83 3 2 1) 3 3 (gi I83 1 6)) J84))))) (some 22, some 5, some 22)))))))) : WP k LAY m_X3_statement 0 [(0, vR (some 3)), (1, vI x1)] [] (mem (some 22, some 5, some 22) I J) Q := by
  refine st_aload_n (pc' := 1) dX3_statement_0 rfl rfl (j := 0) rfl ?_
  refine G_X3_15_3 dX3_statement_1 (pc' := 4) rfl rfl ?_
  refine G_X3_39_1 dX3_statement_4 (pc' := 7) rfl rfl ?_
  refine st_iconst (pc' := 8) dX3_statement_7 rfl ?_
  refine st_icmp_ne (tg := 21) (pc' := 11) dX3_statement_8 (by decide) rfl (gi_in _ _ _) (by decide) (fun c => ?_) (fun c => ?_)
  · replace h := h.1 c
    refine st_iconst (pc' := 22) dX3_statement_21 rfl ?_
    refine st_istore_n (pc' := 23) (L' := [(2, vI (-1)), (0, vR (some 3)), (1, vI x1)]) dX3_statement_22 rfl rfl (by decide) rfl ?_
    refine st_iload_n (pc' := 24) dX3_statement_23 rfl rfl (j := 2) rfl ?_
    refine st_bipush (pc' := 26) dX3_statement_24 rfl (by decide) ?_
    obtain ⟨e1, h⟩ := h
    refine st_icmp_ge (tg := 37) (pc' := 29) dX3_statement_26 (by decide) rfl e1 (by decide) (fun c => ?_) (fun c => ?_)
    · replace h := h.1 c
      refine st_iconst (pc' := 38) dX3_statement_37 rfl ?_
      refine st_istore_n (pc' := 39) (L' := [(3, vI 0), (2, vI (-1)), (0, vR (some 3)), (1, vI x1)]) dX3_statement_38 rfl rfl (by decide) rfl ?_
      refine st_iload_n (pc' := 40) dX3_statement_39 rfl rfl (j := 0) rfl ?_
      refine st_iconst (pc' := 41) dX3_statement_40 rfl ?_
      refine st_icmp_ne (tg := 49) (pc' := 44) dX3_statement_41 (by decide) rfl (by decide) (by decide) (fun c => ?_) (fun c => ?_)
      · refine st_iload_n (pc' := 50) dX3_statement_49 rfl rfl (j := 0) rfl ?_
        refine st_if_ne (tg := 67) (pc' := 53) dX3_statement_50 (by decide) rfl (by decide) (fun c => ?_) (fun c => ?_)
        · exact absurd c (by decide)
        · refine st_aload_n (pc' := 54) dX3_statement_53 rfl rfl (j := 2) rfl ?_
          refine st_bipush (pc' := 56) dX3_statement_54 rfl (by decide) ?_
          refine st_aload_n (pc' := 57) dX3_statement_56 rfl rfl (j := 2) rfl ?_
          refine G_X3_15_3 dX3_statement_57 (pc' := 60) rfl rfl ?_
          refine G_X3_71_1 dX3_statement_60 (pc' := 63) rfl rfl ?_
          refine st_callV (pc' := 66) (kc := k - 1) (E' := LAY) (cal := m_X3_fail) (n := 2) (as := [vI 6, vI (gi I 1 3)]) (S := []) dX3_statement_63 rfl l_X3_53 k_X3_fail rfl L_3 c_X3 rfl rfl (Nat.le_of_ble_eq_true rfl) (by omega) ⟨Nat.le_refl _, Nat.le_refl _, Nat.le_refl _, Nat.le_refl _⟩ (Q1 := fun r M' => WP k LAY m_X3_statement 66 [(3, vI 0), (2, vI (-1)), (0, vR (some 3)), (1, vI x1)] (r.toList ++ []) M' Q) (WPm.of k_X3_fail.1 (Nat.le_of_ble_eq_true rfl) (B_X3_fail_0 (by omega) ?_)) (fun r M' q => q)
          change WP _ LAY m_X3_statement 66 [(3, vI 0), (2, vI (-1)), (0, vR (some 3)), (1, vI x1)] [vI 0] (mem (some 22, some 5, some 22) (si (si I 3 2 6) 3 3 (gi I 1 3)) J) Q
          exact st_iret (ty := .boolean) dX3_statement_66 rfl (by decide) rfl h
      · exact absurd c (by decide)
    · replace h := h.2 c
      refine st_aload_n (pc' := 30) dX3_statement_29 rfl rfl (j := 1) rfl ?_
      refine st_iload_n (pc' := 31) dX3_statement_30 rfl rfl (j := 0) rfl ?_
      refine st_callV (pc' := 34) (kc := k - 1) (E' := LAY) (cal := m_X3_roomFor) (n := 1) (as := [vI (-1)]) (S := []) dX3_statement_31 rfl l_X3_63 k_X3_roomFor rfl L_3 c_X3 rfl rfl (Nat.le_of_ble_eq_true rfl) (by omega) ⟨Nat.le_refl _, Nat.le_refl _, Nat.le_refl _, Nat.le_refl _⟩ h (fun r M' q => ?_)
      obtain ⟨v2, I3, J4, rfl, rfl, h⟩ := q
      change WP _ LAY m_X3_statement 34 [(2, vI (-1)), (0, vR (some 3)), (1, vI x1)] [vI v2] (mem (some 22, some 5, some 22) I3 J4) Q
      refine st_goto (pc' := 38) dX3_statement_34 (by decide) ?_
      refine st_istore_n (pc' := 39) (L' := [(3, vI v2), (2, vI (-1)), (0, vR (some 3)), (1, vI x1)]) dX3_statement_38 rfl rfl (by decide) rfl ?_
      refine st_iload_n (pc' := 40) dX3_statement_39 rfl rfl (j := 0) rfl ?_
      refine st_iconst (pc' := 41) dX3_statement_40 rfl ?_
      obtain ⟨e5, h⟩ := h
      refine st_icmp_ne (tg := 49) (pc' := 44) dX3_statement_41 (by decide) rfl e5 (by decide) (fun c => ?_) (fun c => ?_)
      · replace h := h.1 c
        refine st_iload_n (pc' := 50) dX3_statement_49 rfl rfl (j := 0) rfl ?_
        refine st_if_ne (tg := 67) (pc' := 53) dX3_statement_50 (by decide) rfl e5 (fun c => ?_) (fun c => ?_)
        · replace h := h.1 c
          refine st_aload_n (pc' := 68) dX3_statement_67 rfl rfl (j := 2) rfl ?_
          refine G_X3_15_3 dX3_statement_68 (pc' := 71) rfl rfl ?_
          refine st_callV (pc' := 74) (kc := k - 1) (E' := LAY) (cal := m_X10_step) (n := 0) (as := []) (S := []) dX3_statement_71 rfl l_X3_74 k_X10_step rfl L_1 c_X10 rfl rfl (Nat.le_of_ble_eq_true rfl) (by omega) ⟨Nat.le_refl _, Nat.le_refl _, Nat.le_refl _, Nat.le_refl _⟩ h (fun r M' q => ?_)
          obtain ⟨I7, J8, rfl, rfl, h⟩ := q
          change WP _ LAY m_X3_statement 74 [(3, vI v2), (2, vI (-1)), (0, vR (some 3)), (1, vI x1)] [] (mem (some 22, some 5, some 22) I7 J8) Q
          refine st_iload_n (pc' := 75) dX3_statement_74 rfl rfl (j := 1) rfl ?_
          by_cases c : (-1) = 0
          · replace h := h.1 c
            refine st_tblIn (pc' := 144) (off := 69) dX3_statement_75 (by decide) (by omega) (by rw [c]; rfl) (by decide) ?_
            refine st_aload_n (pc' := 145) dX3_statement_144 rfl rfl (j := 2) rfl ?_
            refine st_iconst (pc' := 146) dX3_statement_145 rfl ?_
            refine st_callV (pc' := 149) (kc := k - 1) (E' := LAY) (cal := m_X3_give) (n := 1) (as := [vI 0]) (S := []) dX3_statement_146 rfl l_X3_77 k_X3_give rfl L_3 c_X3 rfl rfl (Nat.le_of_ble_eq_true rfl) (by omega) ⟨Nat.le_refl _, Nat.le_refl _, Nat.le_refl _, Nat.le_refl _⟩ h (fun r M' q => ?_)
            obtain ⟨v9, I10, J11, rfl, rfl, h⟩ := q
            change WP _ LAY m_X3_statement 149 [(3, vI v2), (2, vI (-1)), (0, vR (some 3)), (1, vI x1)] [vI v9] (mem (some 22, some 5, some 22) I10 J11) Q
            refine st_istore (pc' := 151) (L' := [(4, vI v9), (3, vI v2), (2, vI (-1)), (0, vR (some 3)), (1, vI x1)]) dX3_statement_149 rfl (by decide) rfl ?_
            refine st_goto (pc' := 295) dX3_statement_151 (by decide) ?_
            refine st_iload (pc' := 297) dX3_statement_295 rfl (j := 0) rfl ?_
            obtain ⟨e12, h⟩ := h
            refine st_if_eq (tg := 313) (pc' := 300) dX3_statement_297 (by decide) rfl e12 (fun c => ?_) (fun c => ?_)
            · replace h := h.1 c
              refine st_iconst (pc' := 314) dX3_statement_313 rfl ?_
              exact st_iret (ty := .boolean) dX3_statement_314 rfl (by decide) rfl h
            · replace h := h.2 c
              refine st_aload_n (pc' := 301) dX3_statement_300 rfl rfl (j := 3) rfl ?_
              refine st_bipush (pc' := 303) dX3_statement_301 rfl (by decide) ?_
              refine st_callV (pc' := 306) (kc := k - 1) (E' := LAY) (cal := m_X3_wantSign) (n := 1) (as := [vI 59]) (S := []) dX3_statement_303 rfl l_X3_107 k_X3_wantSign rfl L_3 c_X3 rfl rfl (Nat.le_of_ble_eq_true rfl) (by omega) ⟨Nat.le_refl _, Nat.le_refl _, Nat.le_refl _, Nat.le_refl _⟩ h (fun r M' q => ?_)
              obtain ⟨v13, I14, J15, rfl, rfl, h⟩ := q
              change WP _ LAY m_X3_statement 306 [(4, vI v9), (3, vI v2), (2, vI (-1)), (0, vR (some 3)), (1, vI x1)] [vI v13] (mem (some 22, some 5, some 22) I14 J15) Q
              obtain ⟨e16, h⟩ := h
              refine st_if_eq (tg := 313) (pc' := 309) dX3_statement_306 (by decide) rfl e16 (fun c => ?_) (fun c => ?_)
              · replace h := h.1 c
                refine st_iconst (pc' := 314) dX3_statement_313 rfl ?_
                exact st_iret (ty := .boolean) dX3_statement_314 rfl (by decide) rfl h
              · replace h := h.2 c
                refine st_iconst (pc' := 310) dX3_statement_309 rfl ?_
                refine st_goto (pc' := 314) dX3_statement_310 (by decide) ?_
                exact st_iret (ty := .boolean) dX3_statement_314 rfl (by decide) rfl h
          replace h := h.2 c
          have c0 := c
          clear c
          by_cases c : (-1) = 1
          · replace h := h.1 c
            refine st_tblIn (pc' := 154) (off := 79) dX3_statement_75 (by decide) (by omega) (by rw [c]; rfl) (by decide) ?_
            refine st_aload_n (pc' := 155) dX3_statement_154 rfl rfl (j := 2) rfl ?_
            refine st_callV (pc' := 158) (kc := k - 1) (E' := LAY) (cal := m_X3_tellPage) (n := 0) (as := []) (S := []) dX3_statement_155 rfl l_X3_80 k_X3_tellPage rfl L_3 c_X3 rfl rfl (Nat.le_of_ble_eq_true rfl) (by omega) ⟨Nat.le_refl _, Nat.le_refl _, Nat.le_refl _, Nat.le_refl _⟩ h (fun r M' q => ?_)
            obtain ⟨v17, I18, J19, rfl, rfl, h⟩ := q
            change WP _ LAY m_X3_statement 158 [(3, vI v2), (2, vI (-1)), (0, vR (some 3)), (1, vI x1)] [vI v17] (mem (some 22, some 5, some 22) I18 J19) Q
            refine st_istore (pc' := 160) (L' := [(4, vI v17), (3, vI v2), (2, vI (-1)), (0, vR (some 3)), (1, vI x1)]) dX3_statement_158 rfl (by decide) rfl ?_
            refine st_goto (pc' := 295) dX3_statement_160 (by decide) ?_
            refine st_iload (pc' := 297) dX3_statement_295 rfl (j := 0) rfl ?_
            obtain ⟨e20, h⟩ := h
            refine st_if_eq (tg := 313) (pc' := 300) dX3_statement_297 (by decide) rfl e20 (fun c => ?_) (fun c => ?_)
            · replace h := h.1 c
              refine st_iconst (pc' := 314) dX3_statement_313 rfl ?_
              exact st_iret (ty := .boolean) dX3_statement_314 rfl (by decide) rfl h
            · replace h := h.2 c
              refine st_aload_n (pc' := 301) dX3_statement_300 rfl rfl (j := 3) rfl ?_
              refine st_bipush (pc' := 303) dX3_statement_301 rfl (by decide) ?_
              refine st_callV (pc' := 306) (kc := k - 1) (E' := LAY) (cal := m_X3_wantSign) (n := 1) (as := [vI 59]) (S := []) dX3_statement_303 rfl l_X3_107 k_X3_wantSign rfl L_3 c_X3 rfl rfl (Nat.le_of_ble_eq_true rfl) (by omega) ⟨Nat.le_refl _, Nat.le_refl _, Nat.le_refl _, Nat.le_refl _⟩ h (fun r M' q => ?_)
              obtain ⟨v21, I22, J23, rfl, rfl, h⟩ := q
              change WP _ LAY m_X3_statement 306 [(4, vI v17), (3, vI v2), (2, vI (-1)), (0, vR (some 3)), (1, vI x1)] [vI v21] (mem (some 22, some 5, some 22) I22 J23) Q
              obtain ⟨e24, h⟩ := h
              refine st_if_eq (tg := 313) (pc' := 309) dX3_statement_306 (by decide) rfl e24 (fun c => ?_) (fun c => ?_)
              · replace h := h.1 c
                refine st_iconst (pc' := 314) dX3_statement_313 rfl ?_
                exact st_iret (ty := .boolean) dX3_statement_314 rfl (by decide) rfl h
              · replace h := h.2 c
                refine st_iconst (pc' := 310) dX3_statement_309 rfl ?_
                refine st_goto (pc' := 314) dX3_statement_310 (by decide) ?_
                exact st_iret (ty := .boolean) dX3_statement_314 rfl (by decide) rfl h
          replace h := h.2 c
          have c1 := c
          clear c
          by_cases c : (-1) = 5
          · replace h := h.1 c
            refine st_tblIn (pc' := 163) (off := 88) dX3_statement_75 (by decide) (by omega) (by rw [c]; rfl) (by decide) ?_
            refine st_aload_n (pc' := 164) dX3_statement_163 rfl rfl (j := 2) rfl ?_
            refine st_callV (pc' := 167) (kc := k - 1) (E' := LAY) (cal := m_X3_tellNeed) (n := 0) (as := []) (S := []) dX3_statement_164 rfl l_X3_83 k_X3_tellNeed rfl L_3 c_X3 rfl rfl (Nat.le_of_ble_eq_true rfl) (by omega) ⟨Nat.le_refl _, Nat.le_refl _, Nat.le_refl _, Nat.le_refl _⟩ h (fun r M' q => ?_)
            obtain ⟨v25, I26, J27, rfl, rfl, h⟩ := q
            change WP _ LAY m_X3_statement 167 [(3, vI v2), (2, vI (-1)), (0, vR (some 3)), (1, vI x1)] [vI v25] (mem (some 22, some 5, some 22) I26 J27) Q
            refine st_istore (pc' := 169) (L' := [(4, vI v25), (3, vI v2), (2, vI (-1)), (0, vR (some 3)), (1, vI x1)]) dX3_statement_167 rfl (by decide) rfl ?_
            refine st_goto (pc' := 295) dX3_statement_169 (by decide) ?_
            refine st_iload (pc' := 297) dX3_statement_295 rfl (j := 0) rfl ?_
            obtain ⟨e28, h⟩ := h
            refine st_if_eq (tg := 313) (pc' := 300) dX3_statement_297 (by decide) rfl e28 (fun c => ?_) (fun c => ?_)
            · replace h := h.1 c
              refine st_iconst (pc' := 314) dX3_statement_313 rfl ?_
              exact st_iret (ty := .boolean) dX3_statement_314 rfl (by decide) rfl h
            · replace h := h.2 c
              refine st_aload_n (pc' := 301) dX3_statement_300 rfl rfl (j := 3) rfl ?_
              refine st_bipush (pc' := 303) dX3_statement_301 rfl (by decide) ?_
              refine st_callV (pc' := 306) (kc := k - 1) (E' := LAY) (cal := m_X3_wantSign) (n := 1) (as := [vI 59]) (S := []) dX3_statement_303 rfl l_X3_107 k_X3_wantSign rfl L_3 c_X3 rfl rfl (Nat.le_of_ble_eq_true rfl) (by omega) ⟨Nat.le_refl _, Nat.le_refl _, Nat.le_refl _, Nat.le_refl _⟩ h (fun r M' q => ?_)
              obtain ⟨v29, I30, J31, rfl, rfl, h⟩ := q
              change WP _ LAY m_X3_statement 306 [(4, vI v25), (3, vI v2), (2, vI (-1)), (0, vR (some 3)), (1, vI x1)] [vI v29] (mem (some 22, some 5, some 22) I30 J31) Q
              obtain ⟨e32, h⟩ := h
              refine st_if_eq (tg := 313) (pc' := 309) dX3_statement_306 (by decide) rfl e32 (fun c => ?_) (fun c => ?_)
              · replace h := h.1 c
                refine st_iconst (pc' := 314) dX3_statement_313 rfl ?_
                exact st_iret (ty := .boolean) dX3_statement_314 rfl (by decide) rfl h
              · replace h := h.2 c
                refine st_iconst (pc' := 310) dX3_statement_309 rfl ?_
                refine st_goto (pc' := 314) dX3_statement_310 (by decide) ?_
                exact st_iret (ty := .boolean) dX3_statement_314 rfl (by decide) rfl h
          replace h := h.2 c
          have c5 := c
          clear c
          by_cases c : (-1) = 6
          · replace h := h.1 c
            refine st_tblIn (pc' := 172) (off := 97) dX3_statement_75 (by decide) (by omega) (by rw [c]; rfl) (by decide) ?_
            refine st_aload_n (pc' := 173) dX3_statement_172 rfl rfl (j := 2) rfl ?_
            refine st_callV (pc' := 176) (kc := k - 1) (E' := LAY) (cal := m_X3_tellReader) (n := 0) (as := []) (S := []) dX3_statement_173 rfl l_X3_86 k_X3_tellReader rfl L_3 c_X3 rfl rfl (Nat.le_of_ble_eq_true rfl) (by omega) ⟨Nat.le_refl _, Nat.le_refl _, Nat.le_refl _, Nat.le_refl _⟩ h (fun r M' q => ?_)
            obtain ⟨v33, I34, J35, rfl, rfl, h⟩ := q
            change WP _ LAY m_X3_statement 176 [(3, vI v2), (2, vI (-1)), (0, vR (some 3)), (1, vI x1)] [vI v33] (mem (some 22, some 5, some 22) I34 J35) Q
            refine st_istore (pc' := 178) (L' := [(4, vI v33), (3, vI v2), (2, vI (-1)), (0, vR (some 3)), (1, vI x1)]) dX3_statement_176 rfl (by decide) rfl ?_
            refine st_goto (pc' := 295) dX3_statement_178 (by decide) ?_
            refine st_iload (pc' := 297) dX3_statement_295 rfl (j := 0) rfl ?_
            obtain ⟨e36, h⟩ := h
            refine st_if_eq (tg := 313) (pc' := 300) dX3_statement_297 (by decide) rfl e36 (fun c => ?_) (fun c => ?_)
            · replace h := h.1 c
              refine st_iconst (pc' := 314) dX3_statement_313 rfl ?_
              exact st_iret (ty := .boolean) dX3_statement_314 rfl (by decide) rfl h
            · replace h := h.2 c
              refine st_aload_n (pc' := 301) dX3_statement_300 rfl rfl (j := 3) rfl ?_
              refine st_bipush (pc' := 303) dX3_statement_301 rfl (by decide) ?_
              refine st_callV (pc' := 306) (kc := k - 1) (E' := LAY) (cal := m_X3_wantSign) (n := 1) (as := [vI 59]) (S := []) dX3_statement_303 rfl l_X3_107 k_X3_wantSign rfl L_3 c_X3 rfl rfl (Nat.le_of_ble_eq_true rfl) (by omega) ⟨Nat.le_refl _, Nat.le_refl _, Nat.le_refl _, Nat.le_refl _⟩ h (fun r M' q => ?_)
              obtain ⟨v37, I38, J39, rfl, rfl, h⟩ := q
              change WP _ LAY m_X3_statement 306 [(4, vI v33), (3, vI v2), (2, vI (-1)), (0, vR (some 3)), (1, vI x1)] [vI v37] (mem (some 22, some 5, some 22) I38 J39) Q
              obtain ⟨e40, h⟩ := h
              refine st_if_eq (tg := 313) (pc' := 309) dX3_statement_306 (by decide) rfl e40 (fun c => ?_) (fun c => ?_)
              · replace h := h.1 c
                refine st_iconst (pc' := 314) dX3_statement_313 rfl ?_
                exact st_iret (ty := .boolean) dX3_statement_314 rfl (by decide) rfl h
              · replace h := h.2 c
                refine st_iconst (pc' := 310) dX3_statement_309 rfl ?_
                refine st_goto (pc' := 314) dX3_statement_310 (by decide) ?_
                exact st_iret (ty := .boolean) dX3_statement_314 rfl (by decide) rfl h
          replace h := h.2 c
          have c6 := c
          clear c
          by_cases c : (-1) = 9
          · replace h := h.1 c
            refine st_tblIn (pc' := 181) (off := 106) dX3_statement_75 (by decide) (by omega) (by rw [c]; rfl) (by decide) ?_
            refine st_aload_n (pc' := 182) dX3_statement_181 rfl rfl (j := 2) rfl ?_
            refine st_callV (pc' := 185) (kc := k - 1) (E' := LAY) (cal := m_X3_tellTable) (n := 0) (as := []) (S := []) dX3_statement_182 rfl l_X3_89 k_X3_tellTable rfl L_3 c_X3 rfl rfl (Nat.le_of_ble_eq_true rfl) (by omega) ⟨Nat.le_refl _, Nat.le_refl _, Nat.le_refl _, Nat.le_refl _⟩ h (fun r M' q => ?_)
            obtain ⟨v41, I42, J43, rfl, rfl, h⟩ := q
            change WP _ LAY m_X3_statement 185 [(3, vI v2), (2, vI (-1)), (0, vR (some 3)), (1, vI x1)] [vI v41] (mem (some 22, some 5, some 22) I42 J43) Q
            refine st_istore (pc' := 187) (L' := [(4, vI v41), (3, vI v2), (2, vI (-1)), (0, vR (some 3)), (1, vI x1)]) dX3_statement_185 rfl (by decide) rfl ?_
            refine st_goto (pc' := 295) dX3_statement_187 (by decide) ?_
            refine st_iload (pc' := 297) dX3_statement_295 rfl (j := 0) rfl ?_
            obtain ⟨e44, h⟩ := h
            refine st_if_eq (tg := 313) (pc' := 300) dX3_statement_297 (by decide) rfl e44 (fun c => ?_) (fun c => ?_)
            · replace h := h.1 c
              refine st_iconst (pc' := 314) dX3_statement_313 rfl ?_
              exact st_iret (ty := .boolean) dX3_statement_314 rfl (by decide) rfl h
            · replace h := h.2 c
              refine st_aload_n (pc' := 301) dX3_statement_300 rfl rfl (j := 3) rfl ?_
              refine st_bipush (pc' := 303) dX3_statement_301 rfl (by decide) ?_
              refine st_callV (pc' := 306) (kc := k - 1) (E' := LAY) (cal := m_X3_wantSign) (n := 1) (as := [vI 59]) (S := []) dX3_statement_303 rfl l_X3_107 k_X3_wantSign rfl L_3 c_X3 rfl rfl (Nat.le_of_ble_eq_true rfl) (by omega) ⟨Nat.le_refl _, Nat.le_refl _, Nat.le_refl _, Nat.le_refl _⟩ h (fun r M' q => ?_)
              obtain ⟨v45, I46, J47, rfl, rfl, h⟩ := q
              change WP _ LAY m_X3_statement 306 [(4, vI v41), (3, vI v2), (2, vI (-1)), (0, vR (some 3)), (1, vI x1)] [vI v45] (mem (some 22, some 5, some 22) I46 J47) Q
              obtain ⟨e48, h⟩ := h
              refine st_if_eq (tg := 313) (pc' := 309) dX3_statement_306 (by decide) rfl e48 (fun c => ?_) (fun c => ?_)
              · replace h := h.1 c
                refine st_iconst (pc' := 314) dX3_statement_313 rfl ?_
                exact st_iret (ty := .boolean) dX3_statement_314 rfl (by decide) rfl h
              · replace h := h.2 c
                refine st_iconst (pc' := 310) dX3_statement_309 rfl ?_
                refine st_goto (pc' := 314) dX3_statement_310 (by decide) ?_
                exact st_iret (ty := .boolean) dX3_statement_314 rfl (by decide) rfl h
          replace h := h.2 c
          have c9 := c
          clear c
          by_cases c : (-1) = 11
          · replace h := h.1 c
            refine st_tblIn (pc' := 190) (off := 115) dX3_statement_75 (by decide) (by omega) (by rw [c]; rfl) (by decide) ?_
            refine st_aload_n (pc' := 191) dX3_statement_190 rfl rfl (j := 2) rfl ?_
            refine st_callV (pc' := 194) (kc := k - 1) (E' := LAY) (cal := m_X3_tellInch) (n := 0) (as := []) (S := []) dX3_statement_191 rfl l_X3_92 k_X3_tellInch rfl L_3 c_X3 rfl rfl (Nat.le_of_ble_eq_true rfl) (by omega) ⟨Nat.le_refl _, Nat.le_refl _, Nat.le_refl _, Nat.le_refl _⟩ h (fun r M' q => ?_)
            obtain ⟨v49, I50, J51, rfl, rfl, h⟩ := q
            change WP _ LAY m_X3_statement 194 [(3, vI v2), (2, vI (-1)), (0, vR (some 3)), (1, vI x1)] [vI v49] (mem (some 22, some 5, some 22) I50 J51) Q
            refine st_istore (pc' := 196) (L' := [(4, vI v49), (3, vI v2), (2, vI (-1)), (0, vR (some 3)), (1, vI x1)]) dX3_statement_194 rfl (by decide) rfl ?_
            refine st_goto (pc' := 295) dX3_statement_196 (by decide) ?_
            refine st_iload (pc' := 297) dX3_statement_295 rfl (j := 0) rfl ?_
            obtain ⟨e52, h⟩ := h
            refine st_if_eq (tg := 313) (pc' := 300) dX3_statement_297 (by decide) rfl e52 (fun c => ?_) (fun c => ?_)
            · replace h := h.1 c
              refine st_iconst (pc' := 314) dX3_statement_313 rfl ?_
              exact st_iret (ty := .boolean) dX3_statement_314 rfl (by decide) rfl h
            · replace h := h.2 c
              refine st_aload_n (pc' := 301) dX3_statement_300 rfl rfl (j := 3) rfl ?_
              refine st_bipush (pc' := 303) dX3_statement_301 rfl (by decide) ?_
              refine st_callV (pc' := 306) (kc := k - 1) (E' := LAY) (cal := m_X3_wantSign) (n := 1) (as := [vI 59]) (S := []) dX3_statement_303 rfl l_X3_107 k_X3_wantSign rfl L_3 c_X3 rfl rfl (Nat.le_of_ble_eq_true rfl) (by omega) ⟨Nat.le_refl _, Nat.le_refl _, Nat.le_refl _, Nat.le_refl _⟩ h (fun r M' q => ?_)
              obtain ⟨v53, I54, J55, rfl, rfl, h⟩ := q
              change WP _ LAY m_X3_statement 306 [(4, vI v49), (3, vI v2), (2, vI (-1)), (0, vR (some 3)), (1, vI x1)] [vI v53] (mem (some 22, some 5, some 22) I54 J55) Q
              obtain ⟨e56, h⟩ := h
              refine st_if_eq (tg := 313) (pc' := 309) dX3_statement_306 (by decide) rfl e56 (fun c => ?_) (fun c => ?_)
              · replace h := h.1 c
                refine st_iconst (pc' := 314) dX3_statement_313 rfl ?_
                exact st_iret (ty := .boolean) dX3_statement_314 rfl (by decide) rfl h
              · replace h := h.2 c
                refine st_iconst (pc' := 310) dX3_statement_309 rfl ?_
                refine st_goto (pc' := 314) dX3_statement_310 (by decide) ?_
                exact st_iret (ty := .boolean) dX3_statement_314 rfl (by decide) rfl h
          replace h := h.2 c
          have c11 := c
          clear c
          by_cases c : (-1) = 12
          · replace h := h.1 c
            refine st_tblIn (pc' := 199) (off := 124) dX3_statement_75 (by decide) (by omega) (by rw [c]; rfl) (by decide) ?_
            refine st_aload_n (pc' := 200) dX3_statement_199 rfl rfl (j := 2) rfl ?_
            refine st_iconst (pc' := 201) dX3_statement_200 rfl ?_
            refine st_callV (pc' := 204) (kc := k - 1) (E' := LAY) (cal := m_X3_beginRule) (n := 1) (as := [vI 0]) (S := []) dX3_statement_201 rfl l_X3_95 k_X3_beginRule rfl L_3 c_X3 rfl rfl (Nat.le_of_ble_eq_true rfl) (by omega) ⟨Nat.le_refl _, Nat.le_refl _, Nat.le_refl _, Nat.le_refl _⟩ (Q1 := fun r M' => WP k LAY m_X3_statement 204 [(3, vI v2), (2, vI (-1)), (0, vR (some 3)), (1, vI x1)] (r.toList ++ []) M' Q) (WPm.of k_X3_beginRule.1 (Nat.le_of_ble_eq_true rfl) (B_X3_beginRule_0 (by omega) ?_)) (fun r M' q => q)
            refine ⟨by decide, ?_⟩
            change WP _ LAY m_X3_statement 204 [(3, vI v2), (2, vI (-1)), (0, vR (some 3)), (1, vI x1)] [vI 1] (mem (some 22, some 5, some 22) (si I7 34 0 (gi I7 22 13)) J8) Q
            refine st_if_eq (tg := 226) (pc' := 207) dX3_statement_204 (by decide) rfl (by decide) (fun c => ?_) (fun c => ?_)
            · exact absurd c (by decide)
            · refine st_aload_n (pc' := 208) dX3_statement_207 rfl rfl (j := 2) rfl ?_
              refine st_callV (pc' := 211) (kc := k - 1) (E' := LAY) (cal := m_X3_parseSum) (n := 0) (as := []) (S := []) dX3_statement_208 rfl l_X3_98 k_X3_parseSum rfl L_3 c_X3 rfl rfl (Nat.le_of_ble_eq_true rfl) (by omega) ⟨Nat.le_refl _, Nat.le_refl _, Nat.le_refl _, Nat.le_refl _⟩ h (fun r M' q => ?_)
              obtain ⟨v57, I58, J59, rfl, rfl, h⟩ := q
              change WP _ LAY m_X3_statement 211 [(3, vI v2), (2, vI (-1)), (0, vR (some 3)), (1, vI x1)] [vI v57] (mem (some 22, some 5, some 22) I58 J59) Q
              obtain ⟨e60, h⟩ := h
              refine st_if_eq (tg := 226) (pc' := 214) dX3_statement_211 (by decide) rfl e60 (fun c => ?_) (fun c => ?_)
              · replace h := h.1 c
                refine st_iconst (pc' := 227) dX3_statement_226 rfl ?_
                refine st_istore (pc' := 229) (L' := [(4, vI 0), (3, vI v2), (2, vI (-1)), (0, vR (some 3)), (1, vI x1)]) dX3_statement_227 rfl (by decide) rfl ?_
                refine st_goto (pc' := 295) dX3_statement_229 (by decide) ?_
                refine st_iload (pc' := 297) dX3_statement_295 rfl (j := 0) rfl ?_
                refine st_if_eq (tg := 313) (pc' := 300) dX3_statement_297 (by decide) rfl (by decide) (fun c => ?_) (fun c => ?_)
                · refine st_iconst (pc' := 314) dX3_statement_313 rfl ?_
                  exact st_iret (ty := .boolean) dX3_statement_314 rfl (by decide) rfl h
                · exact absurd c (by decide)
              · replace h := h.2 c
                refine st_aload_n (pc' := 215) dX3_statement_214 rfl rfl (j := 2) rfl ?_
                refine st_iconst (pc' := 216) dX3_statement_215 rfl ?_
                refine st_callV (pc' := 219) (kc := k - 1) (E' := LAY) (cal := m_X3_endRule) (n := 1) (as := [vI 0]) (S := []) dX3_statement_216 rfl l_X3_101 k_X3_endRule rfl L_3 c_X3 rfl rfl (Nat.le_of_ble_eq_true rfl) (by omega) ⟨Nat.le_refl _, Nat.le_refl _, Nat.le_refl _, Nat.le_refl _⟩ (Q1 := fun r M' => WP k LAY m_X3_statement 219 [(3, vI v2), (2, vI (-1)), (0, vR (some 3)), (1, vI x1)] (r.toList ++ []) M' Q) (WPm.of k_X3_endRule.1 (Nat.le_of_ble_eq_true rfl) (B_X3_endRule_0 (by omega) ?_)) (fun r M' q => q)
                refine ⟨by decide, ?_⟩
                change WP _ LAY m_X3_statement 219 [(3, vI v2), (2, vI (-1)), (0, vR (some 3)), (1, vI x1)] [vI 1] (mem (some 22, some 5, some 22) (si I58 35 0 (gi I58 22 13)) J59) Q
                refine st_if_eq (tg := 226) (pc' := 222) dX3_statement_219 (by decide) rfl (by decide) (fun c => ?_) (fun c => ?_)
                · exact absurd c (by decide)
                · refine st_iconst (pc' := 223) dX3_statement_222 rfl ?_
                  refine st_goto (pc' := 227) dX3_statement_223 (by decide) ?_
                  refine st_istore (pc' := 229) (L' := [(4, vI 1), (3, vI v2), (2, vI (-1)), (0, vR (some 3)), (1, vI x1)]) dX3_statement_227 rfl (by decide) rfl ?_
                  refine st_goto (pc' := 295) dX3_statement_229 (by decide) ?_
                  refine st_iload (pc' := 297) dX3_statement_295 rfl (j := 0) rfl ?_
                  refine st_if_eq (tg := 313) (pc' := 300) dX3_statement_297 (by decide) rfl (by decide) (fun c => ?_) (fun c => ?_)
                  · exact absurd c (by decide)
                  · refine st_aload_n (pc' := 301) dX3_statement_300 rfl rfl (j := 3) rfl ?_
                    refine st_bipush (pc' := 303) dX3_statement_301 rfl (by decide) ?_
                    refine st_callV (pc' := 306) (kc := k - 1) (E' := LAY) (cal := m_X3_wantSign) (n := 1) (as := [vI 59]) (S := []) dX3_statement_303 rfl l_X3_107 k_X3_wantSign rfl L_3 c_X3 rfl rfl (Nat.le_of_ble_eq_true rfl) (by omega) ⟨Nat.le_refl _, Nat.le_refl _, Nat.le_refl _, Nat.le_refl _⟩ h (fun r M' q => ?_)
                    obtain ⟨v61, I62, J63, rfl, rfl, h⟩ := q
                    change WP _ LAY m_X3_statement 306 [(4, vI 1), (3, vI v2), (2, vI (-1)), (0, vR (some 3)), (1, vI x1)] [vI v61] (mem (some 22, some 5, some 22) I62 J63) Q
                    obtain ⟨e64, h⟩ := h
                    refine st_if_eq (tg := 313) (pc' := 309) dX3_statement_306 (by decide) rfl e64 (fun c => ?_) (fun c => ?_)
                    · replace h := h.1 c
                      refine st_iconst (pc' := 314) dX3_statement_313 rfl ?_
                      exact st_iret (ty := .boolean) dX3_statement_314 rfl (by decide) rfl h
                    · replace h := h.2 c
                      refine st_iconst (pc' := 310) dX3_statement_309 rfl ?_
                      refine st_goto (pc' := 314) dX3_statement_310 (by decide) ?_
                      exact st_iret (ty := .boolean) dX3_statement_314 rfl (by decide) rfl h
          replace h := h.2 c
          have c12 := c
          clear c
          by_cases c : (-1) = 13
          · replace h := h.1 c
            refine st_tblIn (pc' := 232) (off := 157) dX3_statement_75 (by decide) (by omega) (by rw [c]; rfl) (by decide) ?_
            refine st_aload_n (pc' := 233) dX3_statement_232 rfl rfl (j := 2) rfl ?_
            refine st_iconst (pc' := 234) dX3_statement_233 rfl ?_
            refine st_callV (pc' := 237) (kc := k - 1) (E' := LAY) (cal := m_X3_beginRule) (n := 1) (as := [vI 1]) (S := []) dX3_statement_234 rfl l_X3_95 k_X3_beginRule rfl L_3 c_X3 rfl rfl (Nat.le_of_ble_eq_true rfl) (by omega) ⟨Nat.le_refl _, Nat.le_refl _, Nat.le_refl _, Nat.le_refl _⟩ (Q1 := fun r M' => WP k LAY m_X3_statement 237 [(3, vI v2), (2, vI (-1)), (0, vR (some 3)), (1, vI x1)] (r.toList ++ []) M' Q) (WPm.of k_X3_beginRule.1 (Nat.le_of_ble_eq_true rfl) (B_X3_beginRule_0 (by omega) ?_)) (fun r M' q => q)
            refine ⟨by decide, ?_⟩
            change WP _ LAY m_X3_statement 237 [(3, vI v2), (2, vI (-1)), (0, vR (some 3)), (1, vI x1)] [vI 1] (mem (some 22, some 5, some 22) (si I7 34 1 (gi I7 22 13)) J8) Q
            refine st_if_eq (tg := 259) (pc' := 240) dX3_statement_237 (by decide) rfl (by decide) (fun c => ?_) (fun c => ?_)
            · exact absurd c (by decide)
            · refine st_aload_n (pc' := 241) dX3_statement_240 rfl rfl (j := 2) rfl ?_
              refine st_callV (pc' := 244) (kc := k - 1) (E' := LAY) (cal := m_X3_parseSum) (n := 0) (as := []) (S := []) dX3_statement_241 rfl l_X3_98 k_X3_parseSum rfl L_3 c_X3 rfl rfl (Nat.le_of_ble_eq_true rfl) (by omega) ⟨Nat.le_refl _, Nat.le_refl _, Nat.le_refl _, Nat.le_refl _⟩ h (fun r M' q => ?_)
              obtain ⟨v65, I66, J67, rfl, rfl, h⟩ := q
              change WP _ LAY m_X3_statement 244 [(3, vI v2), (2, vI (-1)), (0, vR (some 3)), (1, vI x1)] [vI v65] (mem (some 22, some 5, some 22) I66 J67) Q
              obtain ⟨e68, h⟩ := h
              refine st_if_eq (tg := 259) (pc' := 247) dX3_statement_244 (by decide) rfl e68 (fun c => ?_) (fun c => ?_)
              · replace h := h.1 c
                refine st_iconst (pc' := 260) dX3_statement_259 rfl ?_
                refine st_istore (pc' := 262) (L' := [(4, vI 0), (3, vI v2), (2, vI (-1)), (0, vR (some 3)), (1, vI x1)]) dX3_statement_260 rfl (by decide) rfl ?_
                refine st_goto (pc' := 295) dX3_statement_262 (by decide) ?_
                refine st_iload (pc' := 297) dX3_statement_295 rfl (j := 0) rfl ?_
                refine st_if_eq (tg := 313) (pc' := 300) dX3_statement_297 (by decide) rfl (by decide) (fun c => ?_) (fun c => ?_)
                · refine st_iconst (pc' := 314) dX3_statement_313 rfl ?_
                  exact st_iret (ty := .boolean) dX3_statement_314 rfl (by decide) rfl h
                · exact absurd c (by decide)
              · replace h := h.2 c
                refine st_aload_n (pc' := 248) dX3_statement_247 rfl rfl (j := 2) rfl ?_
                refine st_iconst (pc' := 249) dX3_statement_248 rfl ?_
                refine st_callV (pc' := 252) (kc := k - 1) (E' := LAY) (cal := m_X3_endRule) (n := 1) (as := [vI 1]) (S := []) dX3_statement_249 rfl l_X3_101 k_X3_endRule rfl L_3 c_X3 rfl rfl (Nat.le_of_ble_eq_true rfl) (by omega) ⟨Nat.le_refl _, Nat.le_refl _, Nat.le_refl _, Nat.le_refl _⟩ (Q1 := fun r M' => WP k LAY m_X3_statement 252 [(3, vI v2), (2, vI (-1)), (0, vR (some 3)), (1, vI x1)] (r.toList ++ []) M' Q) (WPm.of k_X3_endRule.1 (Nat.le_of_ble_eq_true rfl) (B_X3_endRule_0 (by omega) ?_)) (fun r M' q => q)
                refine ⟨by decide, ?_⟩
                change WP _ LAY m_X3_statement 252 [(3, vI v2), (2, vI (-1)), (0, vR (some 3)), (1, vI x1)] [vI 1] (mem (some 22, some 5, some 22) (si I66 35 1 (gi I66 22 13)) J67) Q
                refine st_if_eq (tg := 259) (pc' := 255) dX3_statement_252 (by decide) rfl (by decide) (fun c => ?_) (fun c => ?_)
                · exact absurd c (by decide)
                · refine st_iconst (pc' := 256) dX3_statement_255 rfl ?_
                  refine st_goto (pc' := 260) dX3_statement_256 (by decide) ?_
                  refine st_istore (pc' := 262) (L' := [(4, vI 1), (3, vI v2), (2, vI (-1)), (0, vR (some 3)), (1, vI x1)]) dX3_statement_260 rfl (by decide) rfl ?_
                  refine st_goto (pc' := 295) dX3_statement_262 (by decide) ?_
                  refine st_iload (pc' := 297) dX3_statement_295 rfl (j := 0) rfl ?_
                  refine st_if_eq (tg := 313) (pc' := 300) dX3_statement_297 (by decide) rfl (by decide) (fun c => ?_) (fun c => ?_)
                  · exact absurd c (by decide)
                  · refine st_aload_n (pc' := 301) dX3_statement_300 rfl rfl (j := 3) rfl ?_
                    refine st_bipush (pc' := 303) dX3_statement_301 rfl (by decide) ?_
                    refine st_callV (pc' := 306) (kc := k - 1) (E' := LAY) (cal := m_X3_wantSign) (n := 1) (as := [vI 59]) (S := []) dX3_statement_303 rfl l_X3_107 k_X3_wantSign rfl L_3 c_X3 rfl rfl (Nat.le_of_ble_eq_true rfl) (by omega) ⟨Nat.le_refl _, Nat.le_refl _, Nat.le_refl _, Nat.le_refl _⟩ h (fun r M' q => ?_)
                    obtain ⟨v69, I70, J71, rfl, rfl, h⟩ := q
                    change WP _ LAY m_X3_statement 306 [(4, vI 1), (3, vI v2), (2, vI (-1)), (0, vR (some 3)), (1, vI x1)] [vI v69] (mem (some 22, some 5, some 22) I70 J71) Q
                    obtain ⟨e72, h⟩ := h
                    refine st_if_eq (tg := 313) (pc' := 309) dX3_statement_306 (by decide) rfl e72 (fun c => ?_) (fun c => ?_)
                    · replace h := h.1 c
                      refine st_iconst (pc' := 314) dX3_statement_313 rfl ?_
                      exact st_iret (ty := .boolean) dX3_statement_314 rfl (by decide) rfl h
                    · replace h := h.2 c
                      refine st_iconst (pc' := 310) dX3_statement_309 rfl ?_
                      refine st_goto (pc' := 314) dX3_statement_310 (by decide) ?_
                      exact st_iret (ty := .boolean) dX3_statement_314 rfl (by decide) rfl h
          replace h := h.2 c
          have c13 := c
          clear c
          have go : WP k LAY m_X3_statement 265 [(3, vI v2), (2, vI (-1)), (0, vR (some 3)), (1, vI x1)] [] (mem (some 22, some 5, some 22) I7 J8) Q := by
            refine st_aload_n (pc' := 266) dX3_statement_265 rfl rfl (j := 2) rfl ?_
            refine st_iconst (pc' := 267) dX3_statement_266 rfl ?_
            refine st_callV (pc' := 270) (kc := k - 1) (E' := LAY) (cal := m_X3_beginRule) (n := 1) (as := [vI 2]) (S := []) dX3_statement_267 rfl l_X3_95 k_X3_beginRule rfl L_3 c_X3 rfl rfl (Nat.le_of_ble_eq_true rfl) (by omega) ⟨Nat.le_refl _, Nat.le_refl _, Nat.le_refl _, Nat.le_refl _⟩ (Q1 := fun r M' => WP k LAY m_X3_statement 270 [(3, vI v2), (2, vI (-1)), (0, vR (some 3)), (1, vI x1)] (r.toList ++ []) M' Q) (WPm.of k_X3_beginRule.1 (Nat.le_of_ble_eq_true rfl) (B_X3_beginRule_0 (by omega) ?_)) (fun r M' q => q)
            refine ⟨by decide, ?_⟩
            change WP _ LAY m_X3_statement 270 [(3, vI v2), (2, vI (-1)), (0, vR (some 3)), (1, vI x1)] [vI 1] (mem (some 22, some 5, some 22) (si I7 34 2 (gi I7 22 13)) J8) Q
            refine st_if_eq (tg := 292) (pc' := 273) dX3_statement_270 (by decide) rfl (by decide) (fun c => ?_) (fun c => ?_)
            · exact absurd c (by decide)
            · refine st_aload_n (pc' := 274) dX3_statement_273 rfl rfl (j := 2) rfl ?_
              refine st_callV (pc' := 277) (kc := k - 1) (E' := LAY) (cal := m_X3_parseTest) (n := 0) (as := []) (S := []) dX3_statement_274 rfl l_X3_104 k_X3_parseTest rfl L_3 c_X3 rfl rfl (Nat.le_of_ble_eq_true rfl) (by omega) ⟨Nat.le_refl _, Nat.le_refl _, Nat.le_refl _, Nat.le_refl _⟩ h (fun r M' q => ?_)
              obtain ⟨v73, I74, J75, rfl, rfl, h⟩ := q
              change WP _ LAY m_X3_statement 277 [(3, vI v2), (2, vI (-1)), (0, vR (some 3)), (1, vI x1)] [vI v73] (mem (some 22, some 5, some 22) I74 J75) Q
              obtain ⟨e76, h⟩ := h
              refine st_if_eq (tg := 292) (pc' := 280) dX3_statement_277 (by decide) rfl e76 (fun c => ?_) (fun c => ?_)
              · replace h := h.1 c
                refine st_iconst (pc' := 293) dX3_statement_292 rfl ?_
                refine st_istore (pc' := 295) (L' := [(4, vI 0), (3, vI v2), (2, vI (-1)), (0, vR (some 3)), (1, vI x1)]) dX3_statement_293 rfl (by decide) rfl ?_
                refine st_iload (pc' := 297) dX3_statement_295 rfl (j := 0) rfl ?_
                refine st_if_eq (tg := 313) (pc' := 300) dX3_statement_297 (by decide) rfl (by decide) (fun c => ?_) (fun c => ?_)
                · refine st_iconst (pc' := 314) dX3_statement_313 rfl ?_
                  exact st_iret (ty := .boolean) dX3_statement_314 rfl (by decide) rfl h
                · exact absurd c (by decide)
              · replace h := h.2 c
                refine st_aload_n (pc' := 281) dX3_statement_280 rfl rfl (j := 2) rfl ?_
                refine st_iconst (pc' := 282) dX3_statement_281 rfl ?_
                refine st_callV (pc' := 285) (kc := k - 1) (E' := LAY) (cal := m_X3_endRule) (n := 1) (as := [vI 2]) (S := []) dX3_statement_282 rfl l_X3_101 k_X3_endRule rfl L_3 c_X3 rfl rfl (Nat.le_of_ble_eq_true rfl) (by omega) ⟨Nat.le_refl _, Nat.le_refl _, Nat.le_refl _, Nat.le_refl _⟩ (Q1 := fun r M' => WP k LAY m_X3_statement 285 [(3, vI v2), (2, vI (-1)), (0, vR (some 3)), (1, vI x1)] (r.toList ++ []) M' Q) (WPm.of k_X3_endRule.1 (Nat.le_of_ble_eq_true rfl) (B_X3_endRule_0 (by omega) ?_)) (fun r M' q => q)
                refine ⟨by decide, ?_⟩
                change WP _ LAY m_X3_statement 285 [(3, vI v2), (2, vI (-1)), (0, vR (some 3)), (1, vI x1)] [vI 1] (mem (some 22, some 5, some 22) (si I74 35 2 (gi I74 22 13)) J75) Q
                refine st_if_eq (tg := 292) (pc' := 288) dX3_statement_285 (by decide) rfl (by decide) (fun c => ?_) (fun c => ?_)
                · exact absurd c (by decide)
                · refine st_iconst (pc' := 289) dX3_statement_288 rfl ?_
                  refine st_goto (pc' := 293) dX3_statement_289 (by decide) ?_
                  refine st_istore (pc' := 295) (L' := [(4, vI 1), (3, vI v2), (2, vI (-1)), (0, vR (some 3)), (1, vI x1)]) dX3_statement_293 rfl (by decide) rfl ?_
                  refine st_iload (pc' := 297) dX3_statement_295 rfl (j := 0) rfl ?_
                  refine st_if_eq (tg := 313) (pc' := 300) dX3_statement_297 (by decide) rfl (by decide) (fun c => ?_) (fun c => ?_)
                  · exact absurd c (by decide)
                  · refine st_aload_n (pc' := 301) dX3_statement_300 rfl rfl (j := 3) rfl ?_
                    refine st_bipush (pc' := 303) dX3_statement_301 rfl (by decide) ?_
                    refine st_callV (pc' := 306) (kc := k - 1) (E' := LAY) (cal := m_X3_wantSign) (n := 1) (as := [vI 59]) (S := []) dX3_statement_303 rfl l_X3_107 k_X3_wantSign rfl L_3 c_X3 rfl rfl (Nat.le_of_ble_eq_true rfl) (by omega) ⟨Nat.le_refl _, Nat.le_refl _, Nat.le_refl _, Nat.le_refl _⟩ h (fun r M' q => ?_)
                    obtain ⟨v77, I78, J79, rfl, rfl, h⟩ := q
                    change WP _ LAY m_X3_statement 306 [(4, vI 1), (3, vI v2), (2, vI (-1)), (0, vR (some 3)), (1, vI x1)] [vI v77] (mem (some 22, some 5, some 22) I78 J79) Q
                    obtain ⟨e80, h⟩ := h
                    refine st_if_eq (tg := 313) (pc' := 309) dX3_statement_306 (by decide) rfl e80 (fun c => ?_) (fun c => ?_)
                    · replace h := h.1 c
                      refine st_iconst (pc' := 314) dX3_statement_313 rfl ?_
                      exact st_iret (ty := .boolean) dX3_statement_314 rfl (by decide) rfl h
                    · replace h := h.2 c
                      refine st_iconst (pc' := 310) dX3_statement_309 rfl ?_
                      refine st_goto (pc' := 314) dX3_statement_310 (by decide) ?_
                      exact st_iret (ty := .boolean) dX3_statement_314 rfl (by decide) rfl h
          by_cases c : (-1) = 2
          · exact st_tblIn (pc' := 265) (off := 190) dX3_statement_75 (by decide) (by omega) (by rw [c]; rfl) (by decide) go
          have c2 := c
          clear c
          by_cases c : (-1) = 3
          · exact st_tblIn (pc' := 265) (off := 190) dX3_statement_75 (by decide) (by omega) (by rw [c]; rfl) (by decide) go
          have c3 := c
          clear c
          by_cases c : (-1) = 4
          · exact st_tblIn (pc' := 265) (off := 190) dX3_statement_75 (by decide) (by omega) (by rw [c]; rfl) (by decide) go
          have c4 := c
          clear c
          by_cases c : (-1) = 7
          · exact st_tblIn (pc' := 265) (off := 190) dX3_statement_75 (by decide) (by omega) (by rw [c]; rfl) (by decide) go
          have c7 := c
          clear c
          by_cases c : (-1) = 8
          · exact st_tblIn (pc' := 265) (off := 190) dX3_statement_75 (by decide) (by omega) (by rw [c]; rfl) (by decide) go
          have c8 := c
          clear c
          by_cases c : (-1) = 10
          · exact st_tblIn (pc' := 265) (off := 190) dX3_statement_75 (by decide) (by omega) (by rw [c]; rfl) (by decide) go
          have c10 := c
          clear c
          exact st_tblOut (pc' := 265) dX3_statement_75 (by decide) (by omega) (by decide) go
        · replace h := h.2 c
          refine st_aload_n (pc' := 54) dX3_statement_53 rfl rfl (j := 2) rfl ?_
          refine st_bipush (pc' := 56) dX3_statement_54 rfl (by decide) ?_
          refine st_aload_n (pc' := 57) dX3_statement_56 rfl rfl (j := 2) rfl ?_
          refine G_X3_15_3 dX3_statement_57 (pc' := 60) rfl rfl ?_
          refine G_X3_71_1 dX3_statement_60 (pc' := 63) rfl rfl ?_
          refine st_callV (pc' := 66) (kc := k - 1) (E' := LAY) (cal := m_X3_fail) (n := 2) (as := [vI 6, vI (gi I3 1 3)]) (S := []) dX3_statement_63 rfl l_X3_53 k_X3_fail rfl L_3 c_X3 rfl rfl (Nat.le_of_ble_eq_true rfl) (by omega) ⟨Nat.le_refl _, Nat.le_refl _, Nat.le_refl _, Nat.le_refl _⟩ (Q1 := fun r M' => WP k LAY m_X3_statement 66 [(3, vI v2), (2, vI (-1)), (0, vR (some 3)), (1, vI x1)] (r.toList ++ []) M' Q) (WPm.of k_X3_fail.1 (Nat.le_of_ble_eq_true rfl) (B_X3_fail_0 (by omega) ?_)) (fun r M' q => q)
          change WP _ LAY m_X3_statement 66 [(3, vI v2), (2, vI (-1)), (0, vR (some 3)), (1, vI x1)] [vI 0] (mem (some 22, some 5, some 22) (si (si I3 3 2 6) 3 3 (gi I3 1 3)) J4) Q
          exact st_iret (ty := .boolean) dX3_statement_66 rfl (by decide) rfl h
      · replace h := h.2 c
        refine st_aload_n (pc' := 45) dX3_statement_44 rfl rfl (j := 2) rfl ?_
        refine st_callV (pc' := 48) (kc := k - 1) (E' := LAY) (cal := m_X3_refuseWord) (n := 0) (as := []) (S := []) dX3_statement_45 rfl l_X3_67 k_X3_refuseWord rfl L_3 c_X3 rfl rfl (Nat.le_of_ble_eq_true rfl) (by omega) ⟨Nat.le_refl _, Nat.le_refl _, Nat.le_refl _, Nat.le_refl _⟩ (Q1 := fun r M' => WP k LAY m_X3_statement 48 [(3, vI v2), (2, vI (-1)), (0, vR (some 3)), (1, vI x1)] (r.toList ++ []) M' Q) (WPm.of k_X3_refuseWord.1 (Nat.le_of_ble_eq_true rfl) (B_X3_refuseWord_0 (by omega) ?_)) (fun r M' q => q)
        change WP _ LAY m_X3_statement 48 [(3, vI v2), (2, vI (-1)), (0, vR (some 3)), (1, vI x1)] [vI 0] (mem (some 22, some 5, some 22) (si (si I3 3 2 1) 3 3 (gi I3 1 6)) J4) Q
        exact st_iret (ty := .boolean) dX3_statement_48 rfl (by decide) rfl h
  · replace h := h.2 c
    refine st_aload_n (pc' := 12) dX3_statement_11 rfl rfl (j := 0) rfl ?_
    refine G_X3_15_3 dX3_statement_12 (pc' := 15) rfl rfl ?_
    refine G_X3_60_1 dX3_statement_15 (pc' := 18) rfl rfl ?_
    refine st_goto (pc' := 22) dX3_statement_18 (by decide) ?_
    refine st_istore_n (pc' := 23) (L' := [(2, vI (gi I 1 5)), (0, vR (some 3)), (1, vI x1)]) dX3_statement_22 rfl rfl (by decide) rfl ?_
    refine st_iload_n (pc' := 24) dX3_statement_23 rfl rfl (j := 2) rfl ?_
    refine st_bipush (pc' := 26) dX3_statement_24 rfl (by decide) ?_
    obtain ⟨e81, h⟩ := h
    refine st_icmp_ge (tg := 37) (pc' := 29) dX3_statement_26 (by decide) rfl e81 (by decide) (fun c => ?_) (fun c => ?_)
    · replace h := h.1 c
      refine st_iconst (pc' := 38) dX3_statement_37 rfl ?_
      refine st_istore_n (pc' := 39) (L' := [(3, vI 0), (2, vI (gi I 1 5)), (0, vR (some 3)), (1, vI x1)]) dX3_statement_38 rfl rfl (by decide) rfl ?_
      refine st_iload_n (pc' := 40) dX3_statement_39 rfl rfl (j := 0) rfl ?_
      refine st_iconst (pc' := 41) dX3_statement_40 rfl ?_
      refine st_icmp_ne (tg := 49) (pc' := 44) dX3_statement_41 (by decide) rfl (by decide) (by decide) (fun c => ?_) (fun c => ?_)
      · refine st_iload_n (pc' := 50) dX3_statement_49 rfl rfl (j := 0) rfl ?_
        refine st_if_ne (tg := 67) (pc' := 53) dX3_statement_50 (by decide) rfl (by decide) (fun c => ?_) (fun c => ?_)
        · exact absurd c (by decide)
        · refine st_aload_n (pc' := 54) dX3_statement_53 rfl rfl (j := 2) rfl ?_
          refine st_bipush (pc' := 56) dX3_statement_54 rfl (by decide) ?_
          refine st_aload_n (pc' := 57) dX3_statement_56 rfl rfl (j := 2) rfl ?_
          refine G_X3_15_3 dX3_statement_57 (pc' := 60) rfl rfl ?_
          refine G_X3_71_1 dX3_statement_60 (pc' := 63) rfl rfl ?_
          refine st_callV (pc' := 66) (kc := k - 1) (E' := LAY) (cal := m_X3_fail) (n := 2) (as := [vI 6, vI (gi I 1 3)]) (S := []) dX3_statement_63 rfl l_X3_53 k_X3_fail rfl L_3 c_X3 rfl rfl (Nat.le_of_ble_eq_true rfl) (by omega) ⟨Nat.le_refl _, Nat.le_refl _, Nat.le_refl _, Nat.le_refl _⟩ (Q1 := fun r M' => WP k LAY m_X3_statement 66 [(3, vI 0), (2, vI (gi I 1 5)), (0, vR (some 3)), (1, vI x1)] (r.toList ++ []) M' Q) (WPm.of k_X3_fail.1 (Nat.le_of_ble_eq_true rfl) (B_X3_fail_0 (by omega) ?_)) (fun r M' q => q)
          change WP _ LAY m_X3_statement 66 [(3, vI 0), (2, vI (gi I 1 5)), (0, vR (some 3)), (1, vI x1)] [vI 0] (mem (some 22, some 5, some 22) (si (si I 3 2 6) 3 3 (gi I 1 3)) J) Q
          exact st_iret (ty := .boolean) dX3_statement_66 rfl (by decide) rfl h
      · exact absurd c (by decide)
    · replace h := h.2 c
      refine st_aload_n (pc' := 30) dX3_statement_29 rfl rfl (j := 1) rfl ?_
      refine st_iload_n (pc' := 31) dX3_statement_30 rfl rfl (j := 0) rfl ?_
      refine st_callV (pc' := 34) (kc := k - 1) (E' := LAY) (cal := m_X3_roomFor) (n := 1) (as := [vI (gi I 1 5)]) (S := []) dX3_statement_31 rfl l_X3_63 k_X3_roomFor rfl L_3 c_X3 rfl rfl (Nat.le_of_ble_eq_true rfl) (by omega) ⟨Nat.le_refl _, Nat.le_refl _, Nat.le_refl _, Nat.le_refl _⟩ h (fun r M' q => ?_)
      obtain ⟨v82, I83, J84, rfl, rfl, h⟩ := q
      change WP _ LAY m_X3_statement 34 [(2, vI (gi I 1 5)), (0, vR (some 3)), (1, vI x1)] [vI v82] (mem (some 22, some 5, some 22) I83 J84) Q
      refine st_goto (pc' := 38) dX3_statement_34 (by decide) ?_
      refine st_istore_n (pc' := 39) (L' := [(3, vI v82), (2, vI (gi I 1 5)), (0, vR (some 3)), (1, vI x1)]) dX3_statement_38 rfl rfl (by decide) rfl ?_
      refine st_iload_n (pc' := 40) dX3_statement_39 rfl rfl (j := 0) rfl ?_
      refine st_iconst (pc' := 41) dX3_statement_40 rfl ?_
      obtain ⟨e85, h⟩ := h
      refine st_icmp_ne (tg := 49) (pc' := 44) dX3_statement_41 (by decide) rfl e85 (by decide) (fun c => ?_) (fun c => ?_)
      · replace h := h.1 c
        refine st_iload_n (pc' := 50) dX3_statement_49 rfl rfl (j := 0) rfl ?_
        refine st_if_ne (tg := 67) (pc' := 53) dX3_statement_50 (by decide) rfl e85 (fun c => ?_) (fun c => ?_)
        · replace h := h.1 c
          refine st_aload_n (pc' := 68) dX3_statement_67 rfl rfl (j := 2) rfl ?_
          refine G_X3_15_3 dX3_statement_68 (pc' := 71) rfl rfl ?_
          refine st_callV (pc' := 74) (kc := k - 1) (E' := LAY) (cal := m_X10_step) (n := 0) (as := []) (S := []) dX3_statement_71 rfl l_X3_74 k_X10_step rfl L_1 c_X10 rfl rfl (Nat.le_of_ble_eq_true rfl) (by omega) ⟨Nat.le_refl _, Nat.le_refl _, Nat.le_refl _, Nat.le_refl _⟩ h (fun r M' q => ?_)
          obtain ⟨I87, J88, rfl, rfl, h⟩ := q
          change WP _ LAY m_X3_statement 74 [(3, vI v82), (2, vI (gi I 1 5)), (0, vR (some 3)), (1, vI x1)] [] (mem (some 22, some 5, some 22) I87 J88) Q
          refine st_iload_n (pc' := 75) dX3_statement_74 rfl rfl (j := 1) rfl ?_
          by_cases c : (gi I 1 5) = 0
          · replace h := h.1 c
            refine st_tblIn (pc' := 144) (off := 69) dX3_statement_75 (gi_in _ _ _) (by omega) (by rw [c]; rfl) (by decide) ?_
            refine st_aload_n (pc' := 145) dX3_statement_144 rfl rfl (j := 2) rfl ?_
            refine st_iconst (pc' := 146) dX3_statement_145 rfl ?_
            refine st_callV (pc' := 149) (kc := k - 1) (E' := LAY) (cal := m_X3_give) (n := 1) (as := [vI 0]) (S := []) dX3_statement_146 rfl l_X3_77 k_X3_give rfl L_3 c_X3 rfl rfl (Nat.le_of_ble_eq_true rfl) (by omega) ⟨Nat.le_refl _, Nat.le_refl _, Nat.le_refl _, Nat.le_refl _⟩ h (fun r M' q => ?_)
            obtain ⟨v89, I90, J91, rfl, rfl, h⟩ := q
            change WP _ LAY m_X3_statement 149 [(3, vI v82), (2, vI (gi I 1 5)), (0, vR (some 3)), (1, vI x1)] [vI v89] (mem (some 22, some 5, some 22) I90 J91) Q
            refine st_istore (pc' := 151) (L' := [(4, vI v89), (3, vI v82), (2, vI (gi I 1 5)), (0, vR (some 3)), (1, vI x1)]) dX3_statement_149 rfl (by decide) rfl ?_
            refine st_goto (pc' := 295) dX3_statement_151 (by decide) ?_
            refine st_iload (pc' := 297) dX3_statement_295 rfl (j := 0) rfl ?_
            obtain ⟨e92, h⟩ := h
            refine st_if_eq (tg := 313) (pc' := 300) dX3_statement_297 (by decide) rfl e92 (fun c => ?_) (fun c => ?_)
            · replace h := h.1 c
              refine st_iconst (pc' := 314) dX3_statement_313 rfl ?_
              exact st_iret (ty := .boolean) dX3_statement_314 rfl (by decide) rfl h
            · replace h := h.2 c
              refine st_aload_n (pc' := 301) dX3_statement_300 rfl rfl (j := 3) rfl ?_
              refine st_bipush (pc' := 303) dX3_statement_301 rfl (by decide) ?_
              refine st_callV (pc' := 306) (kc := k - 1) (E' := LAY) (cal := m_X3_wantSign) (n := 1) (as := [vI 59]) (S := []) dX3_statement_303 rfl l_X3_107 k_X3_wantSign rfl L_3 c_X3 rfl rfl (Nat.le_of_ble_eq_true rfl) (by omega) ⟨Nat.le_refl _, Nat.le_refl _, Nat.le_refl _, Nat.le_refl _⟩ h (fun r M' q => ?_)
              obtain ⟨v93, I94, J95, rfl, rfl, h⟩ := q
              change WP _ LAY m_X3_statement 306 [(4, vI v89), (3, vI v82), (2, vI (gi I 1 5)), (0, vR (some 3)), (1, vI x1)] [vI v93] (mem (some 22, some 5, some 22) I94 J95) Q
              obtain ⟨e96, h⟩ := h
              refine st_if_eq (tg := 313) (pc' := 309) dX3_statement_306 (by decide) rfl e96 (fun c => ?_) (fun c => ?_)
              · replace h := h.1 c
                refine st_iconst (pc' := 314) dX3_statement_313 rfl ?_
                exact st_iret (ty := .boolean) dX3_statement_314 rfl (by decide) rfl h
              · replace h := h.2 c
                refine st_iconst (pc' := 310) dX3_statement_309 rfl ?_
                refine st_goto (pc' := 314) dX3_statement_310 (by decide) ?_
                exact st_iret (ty := .boolean) dX3_statement_314 rfl (by decide) rfl h
          replace h := h.2 c
          have c0 := c
          clear c
          by_cases c : (gi I 1 5) = 1
          · replace h := h.1 c
            refine st_tblIn (pc' := 154) (off := 79) dX3_statement_75 (gi_in _ _ _) (by omega) (by rw [c]; rfl) (by decide) ?_
            refine st_aload_n (pc' := 155) dX3_statement_154 rfl rfl (j := 2) rfl ?_
            refine st_callV (pc' := 158) (kc := k - 1) (E' := LAY) (cal := m_X3_tellPage) (n := 0) (as := []) (S := []) dX3_statement_155 rfl l_X3_80 k_X3_tellPage rfl L_3 c_X3 rfl rfl (Nat.le_of_ble_eq_true rfl) (by omega) ⟨Nat.le_refl _, Nat.le_refl _, Nat.le_refl _, Nat.le_refl _⟩ h (fun r M' q => ?_)
            obtain ⟨v97, I98, J99, rfl, rfl, h⟩ := q
            change WP _ LAY m_X3_statement 158 [(3, vI v82), (2, vI (gi I 1 5)), (0, vR (some 3)), (1, vI x1)] [vI v97] (mem (some 22, some 5, some 22) I98 J99) Q
            refine st_istore (pc' := 160) (L' := [(4, vI v97), (3, vI v82), (2, vI (gi I 1 5)), (0, vR (some 3)), (1, vI x1)]) dX3_statement_158 rfl (by decide) rfl ?_
            refine st_goto (pc' := 295) dX3_statement_160 (by decide) ?_
            refine st_iload (pc' := 297) dX3_statement_295 rfl (j := 0) rfl ?_
            obtain ⟨e100, h⟩ := h
            refine st_if_eq (tg := 313) (pc' := 300) dX3_statement_297 (by decide) rfl e100 (fun c => ?_) (fun c => ?_)
            · replace h := h.1 c
              refine st_iconst (pc' := 314) dX3_statement_313 rfl ?_
              exact st_iret (ty := .boolean) dX3_statement_314 rfl (by decide) rfl h
            · replace h := h.2 c
              refine st_aload_n (pc' := 301) dX3_statement_300 rfl rfl (j := 3) rfl ?_
              refine st_bipush (pc' := 303) dX3_statement_301 rfl (by decide) ?_
              refine st_callV (pc' := 306) (kc := k - 1) (E' := LAY) (cal := m_X3_wantSign) (n := 1) (as := [vI 59]) (S := []) dX3_statement_303 rfl l_X3_107 k_X3_wantSign rfl L_3 c_X3 rfl rfl (Nat.le_of_ble_eq_true rfl) (by omega) ⟨Nat.le_refl _, Nat.le_refl _, Nat.le_refl _, Nat.le_refl _⟩ h (fun r M' q => ?_)
              obtain ⟨v101, I102, J103, rfl, rfl, h⟩ := q
              change WP _ LAY m_X3_statement 306 [(4, vI v97), (3, vI v82), (2, vI (gi I 1 5)), (0, vR (some 3)), (1, vI x1)] [vI v101] (mem (some 22, some 5, some 22) I102 J103) Q
              obtain ⟨e104, h⟩ := h
              refine st_if_eq (tg := 313) (pc' := 309) dX3_statement_306 (by decide) rfl e104 (fun c => ?_) (fun c => ?_)
              · replace h := h.1 c
                refine st_iconst (pc' := 314) dX3_statement_313 rfl ?_
                exact st_iret (ty := .boolean) dX3_statement_314 rfl (by decide) rfl h
              · replace h := h.2 c
                refine st_iconst (pc' := 310) dX3_statement_309 rfl ?_
                refine st_goto (pc' := 314) dX3_statement_310 (by decide) ?_
                exact st_iret (ty := .boolean) dX3_statement_314 rfl (by decide) rfl h
          replace h := h.2 c
          have c1 := c
          clear c
          by_cases c : (gi I 1 5) = 5
          · replace h := h.1 c
            refine st_tblIn (pc' := 163) (off := 88) dX3_statement_75 (gi_in _ _ _) (by omega) (by rw [c]; rfl) (by decide) ?_
            refine st_aload_n (pc' := 164) dX3_statement_163 rfl rfl (j := 2) rfl ?_
            refine st_callV (pc' := 167) (kc := k - 1) (E' := LAY) (cal := m_X3_tellNeed) (n := 0) (as := []) (S := []) dX3_statement_164 rfl l_X3_83 k_X3_tellNeed rfl L_3 c_X3 rfl rfl (Nat.le_of_ble_eq_true rfl) (by omega) ⟨Nat.le_refl _, Nat.le_refl _, Nat.le_refl _, Nat.le_refl _⟩ h (fun r M' q => ?_)
            obtain ⟨v105, I106, J107, rfl, rfl, h⟩ := q
            change WP _ LAY m_X3_statement 167 [(3, vI v82), (2, vI (gi I 1 5)), (0, vR (some 3)), (1, vI x1)] [vI v105] (mem (some 22, some 5, some 22) I106 J107) Q
            refine st_istore (pc' := 169) (L' := [(4, vI v105), (3, vI v82), (2, vI (gi I 1 5)), (0, vR (some 3)), (1, vI x1)]) dX3_statement_167 rfl (by decide) rfl ?_
            refine st_goto (pc' := 295) dX3_statement_169 (by decide) ?_
            refine st_iload (pc' := 297) dX3_statement_295 rfl (j := 0) rfl ?_
            obtain ⟨e108, h⟩ := h
            refine st_if_eq (tg := 313) (pc' := 300) dX3_statement_297 (by decide) rfl e108 (fun c => ?_) (fun c => ?_)
            · replace h := h.1 c
              refine st_iconst (pc' := 314) dX3_statement_313 rfl ?_
              exact st_iret (ty := .boolean) dX3_statement_314 rfl (by decide) rfl h
            · replace h := h.2 c
              refine st_aload_n (pc' := 301) dX3_statement_300 rfl rfl (j := 3) rfl ?_
              refine st_bipush (pc' := 303) dX3_statement_301 rfl (by decide) ?_
              refine st_callV (pc' := 306) (kc := k - 1) (E' := LAY) (cal := m_X3_wantSign) (n := 1) (as := [vI 59]) (S := []) dX3_statement_303 rfl l_X3_107 k_X3_wantSign rfl L_3 c_X3 rfl rfl (Nat.le_of_ble_eq_true rfl) (by omega) ⟨Nat.le_refl _, Nat.le_refl _, Nat.le_refl _, Nat.le_refl _⟩ h (fun r M' q => ?_)
              obtain ⟨v109, I110, J111, rfl, rfl, h⟩ := q
              change WP _ LAY m_X3_statement 306 [(4, vI v105), (3, vI v82), (2, vI (gi I 1 5)), (0, vR (some 3)), (1, vI x1)] [vI v109] (mem (some 22, some 5, some 22) I110 J111) Q
              obtain ⟨e112, h⟩ := h
              refine st_if_eq (tg := 313) (pc' := 309) dX3_statement_306 (by decide) rfl e112 (fun c => ?_) (fun c => ?_)
              · replace h := h.1 c
                refine st_iconst (pc' := 314) dX3_statement_313 rfl ?_
                exact st_iret (ty := .boolean) dX3_statement_314 rfl (by decide) rfl h
              · replace h := h.2 c
                refine st_iconst (pc' := 310) dX3_statement_309 rfl ?_
                refine st_goto (pc' := 314) dX3_statement_310 (by decide) ?_
                exact st_iret (ty := .boolean) dX3_statement_314 rfl (by decide) rfl h
          replace h := h.2 c
          have c5 := c
          clear c
          by_cases c : (gi I 1 5) = 6
          · replace h := h.1 c
            refine st_tblIn (pc' := 172) (off := 97) dX3_statement_75 (gi_in _ _ _) (by omega) (by rw [c]; rfl) (by decide) ?_
            refine st_aload_n (pc' := 173) dX3_statement_172 rfl rfl (j := 2) rfl ?_
            refine st_callV (pc' := 176) (kc := k - 1) (E' := LAY) (cal := m_X3_tellReader) (n := 0) (as := []) (S := []) dX3_statement_173 rfl l_X3_86 k_X3_tellReader rfl L_3 c_X3 rfl rfl (Nat.le_of_ble_eq_true rfl) (by omega) ⟨Nat.le_refl _, Nat.le_refl _, Nat.le_refl _, Nat.le_refl _⟩ h (fun r M' q => ?_)
            obtain ⟨v113, I114, J115, rfl, rfl, h⟩ := q
            change WP _ LAY m_X3_statement 176 [(3, vI v82), (2, vI (gi I 1 5)), (0, vR (some 3)), (1, vI x1)] [vI v113] (mem (some 22, some 5, some 22) I114 J115) Q
            refine st_istore (pc' := 178) (L' := [(4, vI v113), (3, vI v82), (2, vI (gi I 1 5)), (0, vR (some 3)), (1, vI x1)]) dX3_statement_176 rfl (by decide) rfl ?_
            refine st_goto (pc' := 295) dX3_statement_178 (by decide) ?_
            refine st_iload (pc' := 297) dX3_statement_295 rfl (j := 0) rfl ?_
            obtain ⟨e116, h⟩ := h
            refine st_if_eq (tg := 313) (pc' := 300) dX3_statement_297 (by decide) rfl e116 (fun c => ?_) (fun c => ?_)
            · replace h := h.1 c
              refine st_iconst (pc' := 314) dX3_statement_313 rfl ?_
              exact st_iret (ty := .boolean) dX3_statement_314 rfl (by decide) rfl h
            · replace h := h.2 c
              refine st_aload_n (pc' := 301) dX3_statement_300 rfl rfl (j := 3) rfl ?_
              refine st_bipush (pc' := 303) dX3_statement_301 rfl (by decide) ?_
              refine st_callV (pc' := 306) (kc := k - 1) (E' := LAY) (cal := m_X3_wantSign) (n := 1) (as := [vI 59]) (S := []) dX3_statement_303 rfl l_X3_107 k_X3_wantSign rfl L_3 c_X3 rfl rfl (Nat.le_of_ble_eq_true rfl) (by omega) ⟨Nat.le_refl _, Nat.le_refl _, Nat.le_refl _, Nat.le_refl _⟩ h (fun r M' q => ?_)
              obtain ⟨v117, I118, J119, rfl, rfl, h⟩ := q
              change WP _ LAY m_X3_statement 306 [(4, vI v113), (3, vI v82), (2, vI (gi I 1 5)), (0, vR (some 3)), (1, vI x1)] [vI v117] (mem (some 22, some 5, some 22) I118 J119) Q
              obtain ⟨e120, h⟩ := h
              refine st_if_eq (tg := 313) (pc' := 309) dX3_statement_306 (by decide) rfl e120 (fun c => ?_) (fun c => ?_)
              · replace h := h.1 c
                refine st_iconst (pc' := 314) dX3_statement_313 rfl ?_
                exact st_iret (ty := .boolean) dX3_statement_314 rfl (by decide) rfl h
              · replace h := h.2 c
                refine st_iconst (pc' := 310) dX3_statement_309 rfl ?_
                refine st_goto (pc' := 314) dX3_statement_310 (by decide) ?_
                exact st_iret (ty := .boolean) dX3_statement_314 rfl (by decide) rfl h
          replace h := h.2 c
          have c6 := c
          clear c
          by_cases c : (gi I 1 5) = 9
          · replace h := h.1 c
            refine st_tblIn (pc' := 181) (off := 106) dX3_statement_75 (gi_in _ _ _) (by omega) (by rw [c]; rfl) (by decide) ?_
            refine st_aload_n (pc' := 182) dX3_statement_181 rfl rfl (j := 2) rfl ?_
            refine st_callV (pc' := 185) (kc := k - 1) (E' := LAY) (cal := m_X3_tellTable) (n := 0) (as := []) (S := []) dX3_statement_182 rfl l_X3_89 k_X3_tellTable rfl L_3 c_X3 rfl rfl (Nat.le_of_ble_eq_true rfl) (by omega) ⟨Nat.le_refl _, Nat.le_refl _, Nat.le_refl _, Nat.le_refl _⟩ h (fun r M' q => ?_)
            obtain ⟨v121, I122, J123, rfl, rfl, h⟩ := q
            change WP _ LAY m_X3_statement 185 [(3, vI v82), (2, vI (gi I 1 5)), (0, vR (some 3)), (1, vI x1)] [vI v121] (mem (some 22, some 5, some 22) I122 J123) Q
            refine st_istore (pc' := 187) (L' := [(4, vI v121), (3, vI v82), (2, vI (gi I 1 5)), (0, vR (some 3)), (1, vI x1)]) dX3_statement_185 rfl (by decide) rfl ?_
            refine st_goto (pc' := 295) dX3_statement_187 (by decide) ?_
            refine st_iload (pc' := 297) dX3_statement_295 rfl (j := 0) rfl ?_
            obtain ⟨e124, h⟩ := h
            refine st_if_eq (tg := 313) (pc' := 300) dX3_statement_297 (by decide) rfl e124 (fun c => ?_) (fun c => ?_)
            · replace h := h.1 c
              refine st_iconst (pc' := 314) dX3_statement_313 rfl ?_
              exact st_iret (ty := .boolean) dX3_statement_314 rfl (by decide) rfl h
            · replace h := h.2 c
              refine st_aload_n (pc' := 301) dX3_statement_300 rfl rfl (j := 3) rfl ?_
              refine st_bipush (pc' := 303) dX3_statement_301 rfl (by decide) ?_
              refine st_callV (pc' := 306) (kc := k - 1) (E' := LAY) (cal := m_X3_wantSign) (n := 1) (as := [vI 59]) (S := []) dX3_statement_303 rfl l_X3_107 k_X3_wantSign rfl L_3 c_X3 rfl rfl (Nat.le_of_ble_eq_true rfl) (by omega) ⟨Nat.le_refl _, Nat.le_refl _, Nat.le_refl _, Nat.le_refl _⟩ h (fun r M' q => ?_)
              obtain ⟨v125, I126, J127, rfl, rfl, h⟩ := q
              change WP _ LAY m_X3_statement 306 [(4, vI v121), (3, vI v82), (2, vI (gi I 1 5)), (0, vR (some 3)), (1, vI x1)] [vI v125] (mem (some 22, some 5, some 22) I126 J127) Q
              obtain ⟨e128, h⟩ := h
              refine st_if_eq (tg := 313) (pc' := 309) dX3_statement_306 (by decide) rfl e128 (fun c => ?_) (fun c => ?_)
              · replace h := h.1 c
                refine st_iconst (pc' := 314) dX3_statement_313 rfl ?_
                exact st_iret (ty := .boolean) dX3_statement_314 rfl (by decide) rfl h
              · replace h := h.2 c
                refine st_iconst (pc' := 310) dX3_statement_309 rfl ?_
                refine st_goto (pc' := 314) dX3_statement_310 (by decide) ?_
                exact st_iret (ty := .boolean) dX3_statement_314 rfl (by decide) rfl h
          replace h := h.2 c
          have c9 := c
          clear c
          by_cases c : (gi I 1 5) = 11
          · replace h := h.1 c
            refine st_tblIn (pc' := 190) (off := 115) dX3_statement_75 (gi_in _ _ _) (by omega) (by rw [c]; rfl) (by decide) ?_
            refine st_aload_n (pc' := 191) dX3_statement_190 rfl rfl (j := 2) rfl ?_
            refine st_callV (pc' := 194) (kc := k - 1) (E' := LAY) (cal := m_X3_tellInch) (n := 0) (as := []) (S := []) dX3_statement_191 rfl l_X3_92 k_X3_tellInch rfl L_3 c_X3 rfl rfl (Nat.le_of_ble_eq_true rfl) (by omega) ⟨Nat.le_refl _, Nat.le_refl _, Nat.le_refl _, Nat.le_refl _⟩ h (fun r M' q => ?_)
            obtain ⟨v129, I130, J131, rfl, rfl, h⟩ := q
            change WP _ LAY m_X3_statement 194 [(3, vI v82), (2, vI (gi I 1 5)), (0, vR (some 3)), (1, vI x1)] [vI v129] (mem (some 22, some 5, some 22) I130 J131) Q
            refine st_istore (pc' := 196) (L' := [(4, vI v129), (3, vI v82), (2, vI (gi I 1 5)), (0, vR (some 3)), (1, vI x1)]) dX3_statement_194 rfl (by decide) rfl ?_
            refine st_goto (pc' := 295) dX3_statement_196 (by decide) ?_
            refine st_iload (pc' := 297) dX3_statement_295 rfl (j := 0) rfl ?_
            obtain ⟨e132, h⟩ := h
            refine st_if_eq (tg := 313) (pc' := 300) dX3_statement_297 (by decide) rfl e132 (fun c => ?_) (fun c => ?_)
            · replace h := h.1 c
              refine st_iconst (pc' := 314) dX3_statement_313 rfl ?_
              exact st_iret (ty := .boolean) dX3_statement_314 rfl (by decide) rfl h
            · replace h := h.2 c
              refine st_aload_n (pc' := 301) dX3_statement_300 rfl rfl (j := 3) rfl ?_
              refine st_bipush (pc' := 303) dX3_statement_301 rfl (by decide) ?_
              refine st_callV (pc' := 306) (kc := k - 1) (E' := LAY) (cal := m_X3_wantSign) (n := 1) (as := [vI 59]) (S := []) dX3_statement_303 rfl l_X3_107 k_X3_wantSign rfl L_3 c_X3 rfl rfl (Nat.le_of_ble_eq_true rfl) (by omega) ⟨Nat.le_refl _, Nat.le_refl _, Nat.le_refl _, Nat.le_refl _⟩ h (fun r M' q => ?_)
              obtain ⟨v133, I134, J135, rfl, rfl, h⟩ := q
              change WP _ LAY m_X3_statement 306 [(4, vI v129), (3, vI v82), (2, vI (gi I 1 5)), (0, vR (some 3)), (1, vI x1)] [vI v133] (mem (some 22, some 5, some 22) I134 J135) Q
              obtain ⟨e136, h⟩ := h
              refine st_if_eq (tg := 313) (pc' := 309) dX3_statement_306 (by decide) rfl e136 (fun c => ?_) (fun c => ?_)
              · replace h := h.1 c
                refine st_iconst (pc' := 314) dX3_statement_313 rfl ?_
                exact st_iret (ty := .boolean) dX3_statement_314 rfl (by decide) rfl h
              · replace h := h.2 c
                refine st_iconst (pc' := 310) dX3_statement_309 rfl ?_
                refine st_goto (pc' := 314) dX3_statement_310 (by decide) ?_
                exact st_iret (ty := .boolean) dX3_statement_314 rfl (by decide) rfl h
          replace h := h.2 c
          have c11 := c
          clear c
          by_cases c : (gi I 1 5) = 12
          · replace h := h.1 c
            refine st_tblIn (pc' := 199) (off := 124) dX3_statement_75 (gi_in _ _ _) (by omega) (by rw [c]; rfl) (by decide) ?_
            refine st_aload_n (pc' := 200) dX3_statement_199 rfl rfl (j := 2) rfl ?_
            refine st_iconst (pc' := 201) dX3_statement_200 rfl ?_
            refine st_callV (pc' := 204) (kc := k - 1) (E' := LAY) (cal := m_X3_beginRule) (n := 1) (as := [vI 0]) (S := []) dX3_statement_201 rfl l_X3_95 k_X3_beginRule rfl L_3 c_X3 rfl rfl (Nat.le_of_ble_eq_true rfl) (by omega) ⟨Nat.le_refl _, Nat.le_refl _, Nat.le_refl _, Nat.le_refl _⟩ (Q1 := fun r M' => WP k LAY m_X3_statement 204 [(3, vI v82), (2, vI (gi I 1 5)), (0, vR (some 3)), (1, vI x1)] (r.toList ++ []) M' Q) (WPm.of k_X3_beginRule.1 (Nat.le_of_ble_eq_true rfl) (B_X3_beginRule_0 (by omega) ?_)) (fun r M' q => q)
            refine ⟨by decide, ?_⟩
            change WP _ LAY m_X3_statement 204 [(3, vI v82), (2, vI (gi I 1 5)), (0, vR (some 3)), (1, vI x1)] [vI 1] (mem (some 22, some 5, some 22) (si I87 34 0 (gi I87 22 13)) J88) Q
            refine st_if_eq (tg := 226) (pc' := 207) dX3_statement_204 (by decide) rfl (by decide) (fun c => ?_) (fun c => ?_)
            · exact absurd c (by decide)
            · refine st_aload_n (pc' := 208) dX3_statement_207 rfl rfl (j := 2) rfl ?_
              refine st_callV (pc' := 211) (kc := k - 1) (E' := LAY) (cal := m_X3_parseSum) (n := 0) (as := []) (S := []) dX3_statement_208 rfl l_X3_98 k_X3_parseSum rfl L_3 c_X3 rfl rfl (Nat.le_of_ble_eq_true rfl) (by omega) ⟨Nat.le_refl _, Nat.le_refl _, Nat.le_refl _, Nat.le_refl _⟩ h (fun r M' q => ?_)
              obtain ⟨v137, I138, J139, rfl, rfl, h⟩ := q
              change WP _ LAY m_X3_statement 211 [(3, vI v82), (2, vI (gi I 1 5)), (0, vR (some 3)), (1, vI x1)] [vI v137] (mem (some 22, some 5, some 22) I138 J139) Q
              obtain ⟨e140, h⟩ := h
              refine st_if_eq (tg := 226) (pc' := 214) dX3_statement_211 (by decide) rfl e140 (fun c => ?_) (fun c => ?_)
              · replace h := h.1 c
                refine st_iconst (pc' := 227) dX3_statement_226 rfl ?_
                refine st_istore (pc' := 229) (L' := [(4, vI 0), (3, vI v82), (2, vI (gi I 1 5)), (0, vR (some 3)), (1, vI x1)]) dX3_statement_227 rfl (by decide) rfl ?_
                refine st_goto (pc' := 295) dX3_statement_229 (by decide) ?_
                refine st_iload (pc' := 297) dX3_statement_295 rfl (j := 0) rfl ?_
                refine st_if_eq (tg := 313) (pc' := 300) dX3_statement_297 (by decide) rfl (by decide) (fun c => ?_) (fun c => ?_)
                · refine st_iconst (pc' := 314) dX3_statement_313 rfl ?_
                  exact st_iret (ty := .boolean) dX3_statement_314 rfl (by decide) rfl h
                · exact absurd c (by decide)
              · replace h := h.2 c
                refine st_aload_n (pc' := 215) dX3_statement_214 rfl rfl (j := 2) rfl ?_
                refine st_iconst (pc' := 216) dX3_statement_215 rfl ?_
                refine st_callV (pc' := 219) (kc := k - 1) (E' := LAY) (cal := m_X3_endRule) (n := 1) (as := [vI 0]) (S := []) dX3_statement_216 rfl l_X3_101 k_X3_endRule rfl L_3 c_X3 rfl rfl (Nat.le_of_ble_eq_true rfl) (by omega) ⟨Nat.le_refl _, Nat.le_refl _, Nat.le_refl _, Nat.le_refl _⟩ (Q1 := fun r M' => WP k LAY m_X3_statement 219 [(3, vI v82), (2, vI (gi I 1 5)), (0, vR (some 3)), (1, vI x1)] (r.toList ++ []) M' Q) (WPm.of k_X3_endRule.1 (Nat.le_of_ble_eq_true rfl) (B_X3_endRule_0 (by omega) ?_)) (fun r M' q => q)
                refine ⟨by decide, ?_⟩
                change WP _ LAY m_X3_statement 219 [(3, vI v82), (2, vI (gi I 1 5)), (0, vR (some 3)), (1, vI x1)] [vI 1] (mem (some 22, some 5, some 22) (si I138 35 0 (gi I138 22 13)) J139) Q
                refine st_if_eq (tg := 226) (pc' := 222) dX3_statement_219 (by decide) rfl (by decide) (fun c => ?_) (fun c => ?_)
                · exact absurd c (by decide)
                · refine st_iconst (pc' := 223) dX3_statement_222 rfl ?_
                  refine st_goto (pc' := 227) dX3_statement_223 (by decide) ?_
                  refine st_istore (pc' := 229) (L' := [(4, vI 1), (3, vI v82), (2, vI (gi I 1 5)), (0, vR (some 3)), (1, vI x1)]) dX3_statement_227 rfl (by decide) rfl ?_
                  refine st_goto (pc' := 295) dX3_statement_229 (by decide) ?_
                  refine st_iload (pc' := 297) dX3_statement_295 rfl (j := 0) rfl ?_
                  refine st_if_eq (tg := 313) (pc' := 300) dX3_statement_297 (by decide) rfl (by decide) (fun c => ?_) (fun c => ?_)
                  · exact absurd c (by decide)
                  · refine st_aload_n (pc' := 301) dX3_statement_300 rfl rfl (j := 3) rfl ?_
                    refine st_bipush (pc' := 303) dX3_statement_301 rfl (by decide) ?_
                    refine st_callV (pc' := 306) (kc := k - 1) (E' := LAY) (cal := m_X3_wantSign) (n := 1) (as := [vI 59]) (S := []) dX3_statement_303 rfl l_X3_107 k_X3_wantSign rfl L_3 c_X3 rfl rfl (Nat.le_of_ble_eq_true rfl) (by omega) ⟨Nat.le_refl _, Nat.le_refl _, Nat.le_refl _, Nat.le_refl _⟩ h (fun r M' q => ?_)
                    obtain ⟨v141, I142, J143, rfl, rfl, h⟩ := q
                    change WP _ LAY m_X3_statement 306 [(4, vI 1), (3, vI v82), (2, vI (gi I 1 5)), (0, vR (some 3)), (1, vI x1)] [vI v141] (mem (some 22, some 5, some 22) I142 J143) Q
                    obtain ⟨e144, h⟩ := h
                    refine st_if_eq (tg := 313) (pc' := 309) dX3_statement_306 (by decide) rfl e144 (fun c => ?_) (fun c => ?_)
                    · replace h := h.1 c
                      refine st_iconst (pc' := 314) dX3_statement_313 rfl ?_
                      exact st_iret (ty := .boolean) dX3_statement_314 rfl (by decide) rfl h
                    · replace h := h.2 c
                      refine st_iconst (pc' := 310) dX3_statement_309 rfl ?_
                      refine st_goto (pc' := 314) dX3_statement_310 (by decide) ?_
                      exact st_iret (ty := .boolean) dX3_statement_314 rfl (by decide) rfl h
          replace h := h.2 c
          have c12 := c
          clear c
          by_cases c : (gi I 1 5) = 13
          · replace h := h.1 c
            refine st_tblIn (pc' := 232) (off := 157) dX3_statement_75 (gi_in _ _ _) (by omega) (by rw [c]; rfl) (by decide) ?_
            refine st_aload_n (pc' := 233) dX3_statement_232 rfl rfl (j := 2) rfl ?_
            refine st_iconst (pc' := 234) dX3_statement_233 rfl ?_
            refine st_callV (pc' := 237) (kc := k - 1) (E' := LAY) (cal := m_X3_beginRule) (n := 1) (as := [vI 1]) (S := []) dX3_statement_234 rfl l_X3_95 k_X3_beginRule rfl L_3 c_X3 rfl rfl (Nat.le_of_ble_eq_true rfl) (by omega) ⟨Nat.le_refl _, Nat.le_refl _, Nat.le_refl _, Nat.le_refl _⟩ (Q1 := fun r M' => WP k LAY m_X3_statement 237 [(3, vI v82), (2, vI (gi I 1 5)), (0, vR (some 3)), (1, vI x1)] (r.toList ++ []) M' Q) (WPm.of k_X3_beginRule.1 (Nat.le_of_ble_eq_true rfl) (B_X3_beginRule_0 (by omega) ?_)) (fun r M' q => q)
            refine ⟨by decide, ?_⟩
            change WP _ LAY m_X3_statement 237 [(3, vI v82), (2, vI (gi I 1 5)), (0, vR (some 3)), (1, vI x1)] [vI 1] (mem (some 22, some 5, some 22) (si I87 34 1 (gi I87 22 13)) J88) Q
            refine st_if_eq (tg := 259) (pc' := 240) dX3_statement_237 (by decide) rfl (by decide) (fun c => ?_) (fun c => ?_)
            · exact absurd c (by decide)
            · refine st_aload_n (pc' := 241) dX3_statement_240 rfl rfl (j := 2) rfl ?_
              refine st_callV (pc' := 244) (kc := k - 1) (E' := LAY) (cal := m_X3_parseSum) (n := 0) (as := []) (S := []) dX3_statement_241 rfl l_X3_98 k_X3_parseSum rfl L_3 c_X3 rfl rfl (Nat.le_of_ble_eq_true rfl) (by omega) ⟨Nat.le_refl _, Nat.le_refl _, Nat.le_refl _, Nat.le_refl _⟩ h (fun r M' q => ?_)
              obtain ⟨v145, I146, J147, rfl, rfl, h⟩ := q
              change WP _ LAY m_X3_statement 244 [(3, vI v82), (2, vI (gi I 1 5)), (0, vR (some 3)), (1, vI x1)] [vI v145] (mem (some 22, some 5, some 22) I146 J147) Q
              obtain ⟨e148, h⟩ := h
              refine st_if_eq (tg := 259) (pc' := 247) dX3_statement_244 (by decide) rfl e148 (fun c => ?_) (fun c => ?_)
              · replace h := h.1 c
                refine st_iconst (pc' := 260) dX3_statement_259 rfl ?_
                refine st_istore (pc' := 262) (L' := [(4, vI 0), (3, vI v82), (2, vI (gi I 1 5)), (0, vR (some 3)), (1, vI x1)]) dX3_statement_260 rfl (by decide) rfl ?_
                refine st_goto (pc' := 295) dX3_statement_262 (by decide) ?_
                refine st_iload (pc' := 297) dX3_statement_295 rfl (j := 0) rfl ?_
                refine st_if_eq (tg := 313) (pc' := 300) dX3_statement_297 (by decide) rfl (by decide) (fun c => ?_) (fun c => ?_)
                · refine st_iconst (pc' := 314) dX3_statement_313 rfl ?_
                  exact st_iret (ty := .boolean) dX3_statement_314 rfl (by decide) rfl h
                · exact absurd c (by decide)
              · replace h := h.2 c
                refine st_aload_n (pc' := 248) dX3_statement_247 rfl rfl (j := 2) rfl ?_
                refine st_iconst (pc' := 249) dX3_statement_248 rfl ?_
                refine st_callV (pc' := 252) (kc := k - 1) (E' := LAY) (cal := m_X3_endRule) (n := 1) (as := [vI 1]) (S := []) dX3_statement_249 rfl l_X3_101 k_X3_endRule rfl L_3 c_X3 rfl rfl (Nat.le_of_ble_eq_true rfl) (by omega) ⟨Nat.le_refl _, Nat.le_refl _, Nat.le_refl _, Nat.le_refl _⟩ (Q1 := fun r M' => WP k LAY m_X3_statement 252 [(3, vI v82), (2, vI (gi I 1 5)), (0, vR (some 3)), (1, vI x1)] (r.toList ++ []) M' Q) (WPm.of k_X3_endRule.1 (Nat.le_of_ble_eq_true rfl) (B_X3_endRule_0 (by omega) ?_)) (fun r M' q => q)
                refine ⟨by decide, ?_⟩
                change WP _ LAY m_X3_statement 252 [(3, vI v82), (2, vI (gi I 1 5)), (0, vR (some 3)), (1, vI x1)] [vI 1] (mem (some 22, some 5, some 22) (si I146 35 1 (gi I146 22 13)) J147) Q
                refine st_if_eq (tg := 259) (pc' := 255) dX3_statement_252 (by decide) rfl (by decide) (fun c => ?_) (fun c => ?_)
                · exact absurd c (by decide)
                · refine st_iconst (pc' := 256) dX3_statement_255 rfl ?_
                  refine st_goto (pc' := 260) dX3_statement_256 (by decide) ?_
                  refine st_istore (pc' := 262) (L' := [(4, vI 1), (3, vI v82), (2, vI (gi I 1 5)), (0, vR (some 3)), (1, vI x1)]) dX3_statement_260 rfl (by decide) rfl ?_
                  refine st_goto (pc' := 295) dX3_statement_262 (by decide) ?_
                  refine st_iload (pc' := 297) dX3_statement_295 rfl (j := 0) rfl ?_
                  refine st_if_eq (tg := 313) (pc' := 300) dX3_statement_297 (by decide) rfl (by decide) (fun c => ?_) (fun c => ?_)
                  · exact absurd c (by decide)
                  · refine st_aload_n (pc' := 301) dX3_statement_300 rfl rfl (j := 3) rfl ?_
                    refine st_bipush (pc' := 303) dX3_statement_301 rfl (by decide) ?_
                    refine st_callV (pc' := 306) (kc := k - 1) (E' := LAY) (cal := m_X3_wantSign) (n := 1) (as := [vI 59]) (S := []) dX3_statement_303 rfl l_X3_107 k_X3_wantSign rfl L_3 c_X3 rfl rfl (Nat.le_of_ble_eq_true rfl) (by omega) ⟨Nat.le_refl _, Nat.le_refl _, Nat.le_refl _, Nat.le_refl _⟩ h (fun r M' q => ?_)
                    obtain ⟨v149, I150, J151, rfl, rfl, h⟩ := q
                    change WP _ LAY m_X3_statement 306 [(4, vI 1), (3, vI v82), (2, vI (gi I 1 5)), (0, vR (some 3)), (1, vI x1)] [vI v149] (mem (some 22, some 5, some 22) I150 J151) Q
                    obtain ⟨e152, h⟩ := h
                    refine st_if_eq (tg := 313) (pc' := 309) dX3_statement_306 (by decide) rfl e152 (fun c => ?_) (fun c => ?_)
                    · replace h := h.1 c
                      refine st_iconst (pc' := 314) dX3_statement_313 rfl ?_
                      exact st_iret (ty := .boolean) dX3_statement_314 rfl (by decide) rfl h
                    · replace h := h.2 c
                      refine st_iconst (pc' := 310) dX3_statement_309 rfl ?_
                      refine st_goto (pc' := 314) dX3_statement_310 (by decide) ?_
                      exact st_iret (ty := .boolean) dX3_statement_314 rfl (by decide) rfl h
          replace h := h.2 c
          have c13 := c
          clear c
          have go : WP k LAY m_X3_statement 265 [(3, vI v82), (2, vI (gi I 1 5)), (0, vR (some 3)), (1, vI x1)] [] (mem (some 22, some 5, some 22) I87 J88) Q := by
            refine st_aload_n (pc' := 266) dX3_statement_265 rfl rfl (j := 2) rfl ?_
            refine st_iconst (pc' := 267) dX3_statement_266 rfl ?_
            refine st_callV (pc' := 270) (kc := k - 1) (E' := LAY) (cal := m_X3_beginRule) (n := 1) (as := [vI 2]) (S := []) dX3_statement_267 rfl l_X3_95 k_X3_beginRule rfl L_3 c_X3 rfl rfl (Nat.le_of_ble_eq_true rfl) (by omega) ⟨Nat.le_refl _, Nat.le_refl _, Nat.le_refl _, Nat.le_refl _⟩ (Q1 := fun r M' => WP k LAY m_X3_statement 270 [(3, vI v82), (2, vI (gi I 1 5)), (0, vR (some 3)), (1, vI x1)] (r.toList ++ []) M' Q) (WPm.of k_X3_beginRule.1 (Nat.le_of_ble_eq_true rfl) (B_X3_beginRule_0 (by omega) ?_)) (fun r M' q => q)
            refine ⟨by decide, ?_⟩
            change WP _ LAY m_X3_statement 270 [(3, vI v82), (2, vI (gi I 1 5)), (0, vR (some 3)), (1, vI x1)] [vI 1] (mem (some 22, some 5, some 22) (si I87 34 2 (gi I87 22 13)) J88) Q
            refine st_if_eq (tg := 292) (pc' := 273) dX3_statement_270 (by decide) rfl (by decide) (fun c => ?_) (fun c => ?_)
            · exact absurd c (by decide)
            · refine st_aload_n (pc' := 274) dX3_statement_273 rfl rfl (j := 2) rfl ?_
              refine st_callV (pc' := 277) (kc := k - 1) (E' := LAY) (cal := m_X3_parseTest) (n := 0) (as := []) (S := []) dX3_statement_274 rfl l_X3_104 k_X3_parseTest rfl L_3 c_X3 rfl rfl (Nat.le_of_ble_eq_true rfl) (by omega) ⟨Nat.le_refl _, Nat.le_refl _, Nat.le_refl _, Nat.le_refl _⟩ h (fun r M' q => ?_)
              obtain ⟨v153, I154, J155, rfl, rfl, h⟩ := q
              change WP _ LAY m_X3_statement 277 [(3, vI v82), (2, vI (gi I 1 5)), (0, vR (some 3)), (1, vI x1)] [vI v153] (mem (some 22, some 5, some 22) I154 J155) Q
              obtain ⟨e156, h⟩ := h
              refine st_if_eq (tg := 292) (pc' := 280) dX3_statement_277 (by decide) rfl e156 (fun c => ?_) (fun c => ?_)
              · replace h := h.1 c
                refine st_iconst (pc' := 293) dX3_statement_292 rfl ?_
                refine st_istore (pc' := 295) (L' := [(4, vI 0), (3, vI v82), (2, vI (gi I 1 5)), (0, vR (some 3)), (1, vI x1)]) dX3_statement_293 rfl (by decide) rfl ?_
                refine st_iload (pc' := 297) dX3_statement_295 rfl (j := 0) rfl ?_
                refine st_if_eq (tg := 313) (pc' := 300) dX3_statement_297 (by decide) rfl (by decide) (fun c => ?_) (fun c => ?_)
                · refine st_iconst (pc' := 314) dX3_statement_313 rfl ?_
                  exact st_iret (ty := .boolean) dX3_statement_314 rfl (by decide) rfl h
                · exact absurd c (by decide)
              · replace h := h.2 c
                refine st_aload_n (pc' := 281) dX3_statement_280 rfl rfl (j := 2) rfl ?_
                refine st_iconst (pc' := 282) dX3_statement_281 rfl ?_
                refine st_callV (pc' := 285) (kc := k - 1) (E' := LAY) (cal := m_X3_endRule) (n := 1) (as := [vI 2]) (S := []) dX3_statement_282 rfl l_X3_101 k_X3_endRule rfl L_3 c_X3 rfl rfl (Nat.le_of_ble_eq_true rfl) (by omega) ⟨Nat.le_refl _, Nat.le_refl _, Nat.le_refl _, Nat.le_refl _⟩ (Q1 := fun r M' => WP k LAY m_X3_statement 285 [(3, vI v82), (2, vI (gi I 1 5)), (0, vR (some 3)), (1, vI x1)] (r.toList ++ []) M' Q) (WPm.of k_X3_endRule.1 (Nat.le_of_ble_eq_true rfl) (B_X3_endRule_0 (by omega) ?_)) (fun r M' q => q)
                refine ⟨by decide, ?_⟩
                change WP _ LAY m_X3_statement 285 [(3, vI v82), (2, vI (gi I 1 5)), (0, vR (some 3)), (1, vI x1)] [vI 1] (mem (some 22, some 5, some 22) (si I154 35 2 (gi I154 22 13)) J155) Q
                refine st_if_eq (tg := 292) (pc' := 288) dX3_statement_285 (by decide) rfl (by decide) (fun c => ?_) (fun c => ?_)
                · exact absurd c (by decide)
                · refine st_iconst (pc' := 289) dX3_statement_288 rfl ?_
                  refine st_goto (pc' := 293) dX3_statement_289 (by decide) ?_
                  refine st_istore (pc' := 295) (L' := [(4, vI 1), (3, vI v82), (2, vI (gi I 1 5)), (0, vR (some 3)), (1, vI x1)]) dX3_statement_293 rfl (by decide) rfl ?_
                  refine st_iload (pc' := 297) dX3_statement_295 rfl (j := 0) rfl ?_
                  refine st_if_eq (tg := 313) (pc' := 300) dX3_statement_297 (by decide) rfl (by decide) (fun c => ?_) (fun c => ?_)
                  · exact absurd c (by decide)
                  · refine st_aload_n (pc' := 301) dX3_statement_300 rfl rfl (j := 3) rfl ?_
                    refine st_bipush (pc' := 303) dX3_statement_301 rfl (by decide) ?_
                    refine st_callV (pc' := 306) (kc := k - 1) (E' := LAY) (cal := m_X3_wantSign) (n := 1) (as := [vI 59]) (S := []) dX3_statement_303 rfl l_X3_107 k_X3_wantSign rfl L_3 c_X3 rfl rfl (Nat.le_of_ble_eq_true rfl) (by omega) ⟨Nat.le_refl _, Nat.le_refl _, Nat.le_refl _, Nat.le_refl _⟩ h (fun r M' q => ?_)
                    obtain ⟨v157, I158, J159, rfl, rfl, h⟩ := q
                    change WP _ LAY m_X3_statement 306 [(4, vI 1), (3, vI v82), (2, vI (gi I 1 5)), (0, vR (some 3)), (1, vI x1)] [vI v157] (mem (some 22, some 5, some 22) I158 J159) Q
                    obtain ⟨e160, h⟩ := h
                    refine st_if_eq (tg := 313) (pc' := 309) dX3_statement_306 (by decide) rfl e160 (fun c => ?_) (fun c => ?_)
                    · replace h := h.1 c
                      refine st_iconst (pc' := 314) dX3_statement_313 rfl ?_
                      exact st_iret (ty := .boolean) dX3_statement_314 rfl (by decide) rfl h
                    · replace h := h.2 c
                      refine st_iconst (pc' := 310) dX3_statement_309 rfl ?_
                      refine st_goto (pc' := 314) dX3_statement_310 (by decide) ?_
                      exact st_iret (ty := .boolean) dX3_statement_314 rfl (by decide) rfl h
          by_cases c : (gi I 1 5) = 2
          · exact st_tblIn (pc' := 265) (off := 190) dX3_statement_75 (gi_in _ _ _) (by omega) (by rw [c]; rfl) (by decide) go
          have c2 := c
          clear c
          by_cases c : (gi I 1 5) = 3
          · exact st_tblIn (pc' := 265) (off := 190) dX3_statement_75 (gi_in _ _ _) (by omega) (by rw [c]; rfl) (by decide) go
          have c3 := c
          clear c
          by_cases c : (gi I 1 5) = 4
          · exact st_tblIn (pc' := 265) (off := 190) dX3_statement_75 (gi_in _ _ _) (by omega) (by rw [c]; rfl) (by decide) go
          have c4 := c
          clear c
          by_cases c : (gi I 1 5) = 7
          · exact st_tblIn (pc' := 265) (off := 190) dX3_statement_75 (gi_in _ _ _) (by omega) (by rw [c]; rfl) (by decide) go
          have c7 := c
          clear c
          by_cases c : (gi I 1 5) = 8
          · exact st_tblIn (pc' := 265) (off := 190) dX3_statement_75 (gi_in _ _ _) (by omega) (by rw [c]; rfl) (by decide) go
          have c8 := c
          clear c
          by_cases c : (gi I 1 5) = 10
          · exact st_tblIn (pc' := 265) (off := 190) dX3_statement_75 (gi_in _ _ _) (by omega) (by rw [c]; rfl) (by decide) go
          have c10 := c
          clear c
          exact st_tblOut (pc' := 265) dX3_statement_75 (gi_in _ _ _) (by omega) (by decide) go
        · replace h := h.2 c
          refine st_aload_n (pc' := 54) dX3_statement_53 rfl rfl (j := 2) rfl ?_
          refine st_bipush (pc' := 56) dX3_statement_54 rfl (by decide) ?_
          refine st_aload_n (pc' := 57) dX3_statement_56 rfl rfl (j := 2) rfl ?_
          refine G_X3_15_3 dX3_statement_57 (pc' := 60) rfl rfl ?_
          refine G_X3_71_1 dX3_statement_60 (pc' := 63) rfl rfl ?_
          refine st_callV (pc' := 66) (kc := k - 1) (E' := LAY) (cal := m_X3_fail) (n := 2) (as := [vI 6, vI (gi I83 1 3)]) (S := []) dX3_statement_63 rfl l_X3_53 k_X3_fail rfl L_3 c_X3 rfl rfl (Nat.le_of_ble_eq_true rfl) (by omega) ⟨Nat.le_refl _, Nat.le_refl _, Nat.le_refl _, Nat.le_refl _⟩ (Q1 := fun r M' => WP k LAY m_X3_statement 66 [(3, vI v82), (2, vI (gi I 1 5)), (0, vR (some 3)), (1, vI x1)] (r.toList ++ []) M' Q) (WPm.of k_X3_fail.1 (Nat.le_of_ble_eq_true rfl) (B_X3_fail_0 (by omega) ?_)) (fun r M' q => q)
          change WP _ LAY m_X3_statement 66 [(3, vI v82), (2, vI (gi I 1 5)), (0, vR (some 3)), (1, vI x1)] [vI 0] (mem (some 22, some 5, some 22) (si (si I83 3 2 6) 3 3 (gi I83 1 3)) J84) Q
          exact st_iret (ty := .boolean) dX3_statement_66 rfl (by decide) rfl h
      · replace h := h.2 c
        refine st_aload_n (pc' := 45) dX3_statement_44 rfl rfl (j := 2) rfl ?_
        refine st_callV (pc' := 48) (kc := k - 1) (E' := LAY) (cal := m_X3_refuseWord) (n := 0) (as := []) (S := []) dX3_statement_45 rfl l_X3_67 k_X3_refuseWord rfl L_3 c_X3 rfl rfl (Nat.le_of_ble_eq_true rfl) (by omega) ⟨Nat.le_refl _, Nat.le_refl _, Nat.le_refl _, Nat.le_refl _⟩ (Q1 := fun r M' => WP k LAY m_X3_statement 48 [(3, vI v82), (2, vI (gi I 1 5)), (0, vR (some 3)), (1, vI x1)] (r.toList ++ []) M' Q) (WPm.of k_X3_refuseWord.1 (Nat.le_of_ble_eq_true rfl) (B_X3_refuseWord_0 (by omega) ?_)) (fun r M' q => q)
        change WP _ LAY m_X3_statement 48 [(3, vI v82), (2, vI (gi I 1 5)), (0, vR (some 3)), (1, vI x1)] [vI 0] (mem (some 22, some 5, some 22) (si (si I83 3 2 1) 3 3 (gi I83 1 6)) J84) Q
        exact st_iret (ty := .boolean) dX3_statement_48 rfl (by decide) rfl h
set_option maxRecDepth 20000 in
set_option maxHeartbeats 4000000 in
theorem B_X3_parse_0 {k : Nat} {P : Option Nat} {I : Nat → Nat → Int32} {J : Nat → Nat → Int64}  {Q : Option AV → Mem → Prop} (hk : 1 ≤ k) (h : WPm (k - 1) LAY m_X7_clear [vR (some 22)] (mem (some 22, some 5, some 22) I J) (retV (fun I2 J3 => WPm (k - 1) LAY m_X10_rewind [vR (some 1)] (mem (some 22, some 5, some 22) (si (si (si I2 3 2 0) 3 3 (-1)) 3 4 0) J3) (retV (fun I5 J6 => WP k LAY m_X3_parse 36 [(0, vR (some 3)), (2, vI 0)] [] (mem (some 22, some 5, some 22) I5 J6) Q) (some 22, some 5, some 22))) (some 22, some 5, some 22))) : WP k LAY m_X3_parse 0 [(0, vR (some 3)), (1, vR (some 22))] [] (mem (P, some 5, some 22) I J) Q := by
  refine st_aload_n (pc' := 1) dX3_parse_0 rfl rfl (j := 0) rfl ?_
  refine st_aload_n (pc' := 2) dX3_parse_1 rfl rfl (j := 1) rfl ?_
  refine P_X3_19_3 dX3_parse_2 (pc' := 5) rfl rfl ?_
  change WP _ _ _ _ _ _ (mem (some 22, some 5, some 22) I J) _
  refine st_aload_n (pc' := 6) dX3_parse_5 rfl rfl (j := 0) rfl ?_
  refine G_X3_19_3 dX3_parse_6 (pc' := 9) rfl rfl ?_
  refine st_callV (pc' := 12) (kc := k - 1) (E' := LAY) (cal := m_X7_clear) (n := 0) (as := []) (S := []) dX3_parse_9 rfl l_X3_23 k_X7_clear rfl L_22 c_X7 rfl rfl (Nat.le_of_ble_eq_true rfl) (by omega) ⟨Nat.le_refl _, Nat.le_refl _, Nat.le_refl _, Nat.le_refl _⟩ h (fun r M' q => ?_)
  obtain ⟨I2, J3, rfl, rfl, h⟩ := q
  change WP _ LAY m_X3_parse 12 [(0, vR (some 3)), (1, vR (some 22))] [] (mem (some 22, some 5, some 22) I2 J3) Q
  refine st_aload_n (pc' := 13) dX3_parse_12 rfl rfl (j := 0) rfl ?_
  refine st_iconst (pc' := 14) dX3_parse_13 rfl ?_
  refine P_X3_28_3 dX3_parse_14 (pc' := 17) rfl rfl ?_
  refine st_aload_n (pc' := 18) dX3_parse_17 rfl rfl (j := 0) rfl ?_
  refine st_iconst (pc' := 19) dX3_parse_18 rfl ?_
  refine P_X3_9_3 dX3_parse_19 (pc' := 22) rfl rfl ?_
  refine st_aload_n (pc' := 23) dX3_parse_22 rfl rfl (j := 0) rfl ?_
  refine st_iconst (pc' := 24) dX3_parse_23 rfl ?_
  refine P_X3_31_3 dX3_parse_24 (pc' := 27) rfl rfl ?_
  refine st_aload_n (pc' := 28) dX3_parse_27 rfl rfl (j := 0) rfl ?_
  refine G_X3_15_3 dX3_parse_28 (pc' := 31) rfl rfl ?_
  refine st_callV (pc' := 34) (kc := k - 1) (E' := LAY) (cal := m_X10_rewind) (n := 0) (as := []) (S := []) dX3_parse_31 rfl l_X3_34 k_X10_rewind rfl L_1 c_X10 rfl rfl (Nat.le_of_ble_eq_true rfl) (by omega) ⟨Nat.le_refl _, Nat.le_refl _, Nat.le_refl _, Nat.le_refl _⟩ h (fun r M' q => ?_)
  obtain ⟨I5, J6, rfl, rfl, h⟩ := q
  change WP _ LAY m_X3_parse 34 [(0, vR (some 3)), (1, vR (some 22))] [] (mem (some 22, some 5, some 22) I5 J6) Q
  refine st_iconst (pc' := 35) dX3_parse_34 rfl ?_
  refine st_istore_n (pc' := 36) (L' := [(2, vI 0), (0, vR (some 3)), (1, vR (some 22))]) dX3_parse_35 rfl rfl (by decide) rfl ?_
  refine WP_sub (L' := [(0, vR (some 3)), (2, vI 0)]) [1, 0] rfl ?_
  exact h
set_option maxRecDepth 20000 in
set_option maxHeartbeats 4000000 in
theorem B_X3_parse_36 {k : Nat} {I : Nat → Nat → Int32} {J : Nat → Nat → Int64} {x2 : Int} {Q : Option AV → Mem → Prop} (hk : 1 ≤ k) (h : inR x2 ∧ ((80 < x2 → (((gi I 23 2) ≤ 0 → (WPm (k - 1) LAY m_X7_gatherNeeds [vR (some 22)] (mem (some 22, some 5, some 22) I J) (retV (fun I3 J4 => Q (some (vI x2)) (mem (some 22, some 5, some 22) I3 J4)) (some 22, some 5, some 22)))) ∧ (¬ (gi I 23 2) ≤ 0 → ((¬ (gi I 23 3) = 0 → (WPm (k - 1) LAY m_X7_gatherNeeds [vR (some 22)] (mem (some 22, some 5, some 22) I J) (retV (fun I6 J7 => Q (some (vI x2)) (mem (some 22, some 5, some 22) I6 J7)) (some 22, some 5, some 22)))) ∧ ((gi I 23 3) = 0 → (Q (some (vI (-1))) (mem (some 22, some 5, some 22) (si (si I 3 2 1) 3 3 (gi I 1 1)) J))))))) ∧ (¬ 80 < x2 → (((gi I 1 2) = 0 → (((gi I 23 2) ≤ 0 → (WPm (k - 1) LAY m_X7_gatherNeeds [vR (some 22)] (mem (some 22, some 5, some 22) I J) (retV (fun I9 J10 => Q (some (vI x2)) (mem (some 22, some 5, some 22) I9 J10)) (some 22, some 5, some 22)))) ∧ (¬ (gi I 23 2) ≤ 0 → ((¬ (gi I 23 3) = 0 → (WPm (k - 1) LAY m_X7_gatherNeeds [vR (some 22)] (mem (some 22, some 5, some 22) I J) (retV (fun I12 J13 => Q (some (vI x2)) (mem (some 22, some 5, some 22) I12 J13)) (some 22, some 5, some 22)))) ∧ ((gi I 23 3) = 0 → (Q (some (vI (-1))) (mem (some 22, some 5, some 22) (si (si I 3 2 1) 3 3 (gi I 1 1)) J))))))) ∧ (¬ (gi I 1 2) = 0 → (WPm (k - 1) LAY m_X3_statement [vR (some 3), vI x2] (mem (some 22, some 5, some 22) I J) (retI (fun v14 I15 J16 => inR v14 ∧ ((¬ v14 = 0 → (WP k LAY m_X3_parse 36 [(0, vR (some 3)), (2, vI (x2 + 1))] [] (mem (some 22, some 5, some 22) I15 J16) Q)) ∧ (v14 = 0 → (Q (some (vI (-1))) (mem (some 22, some 5, some 22) I15 J16))))) (some 22, some 5, some 22)))))))) : WP k LAY m_X3_parse 36 [(0, vR (some 3)), (2, vI x2)] [] (mem (some 22, some 5, some 22) I J) Q := by
  refine st_iload_n (pc' := 37) dX3_parse_36 rfl rfl (j := 1) rfl ?_
  refine st_bipush (pc' := 39) dX3_parse_37 rfl (by decide) ?_
  obtain ⟨e1, h⟩ := h
  refine st_icmp_gt (tg := 68) (pc' := 42) dX3_parse_39 (by decide) rfl e1 (by decide) (fun c => ?_) (fun c => ?_)
  · replace h := h.1 c
    refine st_aload_n (pc' := 69) dX3_parse_68 rfl rfl (j := 0) rfl ?_
    refine G_X3_19_3 dX3_parse_69 (pc' := 72) rfl rfl ?_
    refine G_X3_46_22 dX3_parse_72 (pc' := 75) rfl rfl ?_
    refine st_iconst (pc' := 76) dX3_parse_75 rfl ?_
    refine st_iaload (pc' := 77) (v := (gi I 23 2)) dX3_parse_76 rfl L_23 (by decide) (by decide) (show gi I 23 2 = (gi I 23 2) from rfl) ?_
    refine st_if_le (tg := 107) (pc' := 80) dX3_parse_77 (by decide) rfl (gi_in _ _ _) (fun c => ?_) (fun c => ?_)
    · replace h := h.1 c
      refine st_aload_n (pc' := 108) dX3_parse_107 rfl rfl (j := 0) rfl ?_
      refine G_X3_19_3 dX3_parse_108 (pc' := 111) rfl rfl ?_
      refine st_callV (pc' := 114) (kc := k - 1) (E' := LAY) (cal := m_X7_gatherNeeds) (n := 0) (as := []) (S := []) dX3_parse_111 rfl l_X3_57 k_X7_gatherNeeds rfl L_22 c_X7 rfl rfl (Nat.le_of_ble_eq_true rfl) (by omega) ⟨Nat.le_refl _, Nat.le_refl _, Nat.le_refl _, Nat.le_refl _⟩ h (fun r M' q => ?_)
      obtain ⟨I3, J4, rfl, rfl, h⟩ := q
      change WP _ LAY m_X3_parse 114 [(0, vR (some 3)), (2, vI x2)] [] (mem (some 22, some 5, some 22) I3 J4) Q
      refine st_iload_n (pc' := 115) dX3_parse_114 rfl rfl (j := 1) rfl ?_
      exact st_iret (ty := .int) dX3_parse_115 rfl rfl rfl h
    · replace h := h.2 c
      refine st_aload_n (pc' := 81) dX3_parse_80 rfl rfl (j := 0) rfl ?_
      refine G_X3_19_3 dX3_parse_81 (pc' := 84) rfl rfl ?_
      refine G_X3_46_22 dX3_parse_84 (pc' := 87) rfl rfl ?_
      refine st_iconst (pc' := 88) dX3_parse_87 rfl ?_
      refine st_iaload (pc' := 89) (v := (gi I 23 3)) dX3_parse_88 rfl L_23 (by decide) (by decide) (show gi I 23 3 = (gi I 23 3) from rfl) ?_
      refine st_if_ne (tg := 107) (pc' := 92) dX3_parse_89 (by decide) rfl (gi_in _ _ _) (fun c => ?_) (fun c => ?_)
      · replace h := h.1 c
        refine st_aload_n (pc' := 108) dX3_parse_107 rfl rfl (j := 0) rfl ?_
        refine G_X3_19_3 dX3_parse_108 (pc' := 111) rfl rfl ?_
        refine st_callV (pc' := 114) (kc := k - 1) (E' := LAY) (cal := m_X7_gatherNeeds) (n := 0) (as := []) (S := []) dX3_parse_111 rfl l_X3_57 k_X7_gatherNeeds rfl L_22 c_X7 rfl rfl (Nat.le_of_ble_eq_true rfl) (by omega) ⟨Nat.le_refl _, Nat.le_refl _, Nat.le_refl _, Nat.le_refl _⟩ h (fun r M' q => ?_)
        obtain ⟨I6, J7, rfl, rfl, h⟩ := q
        change WP _ LAY m_X3_parse 114 [(0, vR (some 3)), (2, vI x2)] [] (mem (some 22, some 5, some 22) I6 J7) Q
        refine st_iload_n (pc' := 115) dX3_parse_114 rfl rfl (j := 1) rfl ?_
        exact st_iret (ty := .int) dX3_parse_115 rfl rfl rfl h
      · replace h := h.2 c
        refine st_aload_n (pc' := 93) dX3_parse_92 rfl rfl (j := 0) rfl ?_
        refine st_iconst (pc' := 94) dX3_parse_93 rfl ?_
        refine st_aload_n (pc' := 95) dX3_parse_94 rfl rfl (j := 0) rfl ?_
        refine G_X3_15_3 dX3_parse_95 (pc' := 98) rfl rfl ?_
        refine G_X3_50_1 dX3_parse_98 (pc' := 101) rfl rfl ?_
        refine st_callV (pc' := 104) (kc := k - 1) (E' := LAY) (cal := m_X3_fail) (n := 2) (as := [vI 1, vI (gi I 1 1)]) (S := []) dX3_parse_101 rfl l_X3_53 k_X3_fail rfl L_3 c_X3 rfl rfl (Nat.le_of_ble_eq_true rfl) (by omega) ⟨Nat.le_refl _, Nat.le_refl _, Nat.le_refl _, Nat.le_refl _⟩ (Q1 := fun r M' => WP k LAY m_X3_parse 104 [(0, vR (some 3)), (2, vI x2)] (r.toList ++ []) M' Q) (WPm.of k_X3_fail.1 (Nat.le_of_ble_eq_true rfl) (B_X3_fail_0 (by omega) ?_)) (fun r M' q => q)
        change WP _ LAY m_X3_parse 104 [(0, vR (some 3)), (2, vI x2)] [vI 0] (mem (some 22, some 5, some 22) (si (si I 3 2 1) 3 3 (gi I 1 1)) J) Q
        refine st_pop (pc' := 105) dX3_parse_104 rfl rfl ?_
        refine st_iconst (pc' := 106) dX3_parse_105 rfl ?_
        exact st_iret (ty := .int) dX3_parse_106 rfl rfl rfl h
  · replace h := h.2 c
    refine st_aload_n (pc' := 43) dX3_parse_42 rfl rfl (j := 0) rfl ?_
    refine G_X3_15_3 dX3_parse_43 (pc' := 46) rfl rfl ?_
    refine G_X3_39_1 dX3_parse_46 (pc' := 49) rfl rfl ?_
    refine st_if_eq (tg := 68) (pc' := 52) dX3_parse_49 (by decide) rfl (gi_in _ _ _) (fun c => ?_) (fun c => ?_)
    · replace h := h.1 c
      refine st_aload_n (pc' := 69) dX3_parse_68 rfl rfl (j := 0) rfl ?_
      refine G_X3_19_3 dX3_parse_69 (pc' := 72) rfl rfl ?_
      refine G_X3_46_22 dX3_parse_72 (pc' := 75) rfl rfl ?_
      refine st_iconst (pc' := 76) dX3_parse_75 rfl ?_
      refine st_iaload (pc' := 77) (v := (gi I 23 2)) dX3_parse_76 rfl L_23 (by decide) (by decide) (show gi I 23 2 = (gi I 23 2) from rfl) ?_
      refine st_if_le (tg := 107) (pc' := 80) dX3_parse_77 (by decide) rfl (gi_in _ _ _) (fun c => ?_) (fun c => ?_)
      · replace h := h.1 c
        refine st_aload_n (pc' := 108) dX3_parse_107 rfl rfl (j := 0) rfl ?_
        refine G_X3_19_3 dX3_parse_108 (pc' := 111) rfl rfl ?_
        refine st_callV (pc' := 114) (kc := k - 1) (E' := LAY) (cal := m_X7_gatherNeeds) (n := 0) (as := []) (S := []) dX3_parse_111 rfl l_X3_57 k_X7_gatherNeeds rfl L_22 c_X7 rfl rfl (Nat.le_of_ble_eq_true rfl) (by omega) ⟨Nat.le_refl _, Nat.le_refl _, Nat.le_refl _, Nat.le_refl _⟩ h (fun r M' q => ?_)
        obtain ⟨I9, J10, rfl, rfl, h⟩ := q
        change WP _ LAY m_X3_parse 114 [(0, vR (some 3)), (2, vI x2)] [] (mem (some 22, some 5, some 22) I9 J10) Q
        refine st_iload_n (pc' := 115) dX3_parse_114 rfl rfl (j := 1) rfl ?_
        exact st_iret (ty := .int) dX3_parse_115 rfl rfl rfl h
      · replace h := h.2 c
        refine st_aload_n (pc' := 81) dX3_parse_80 rfl rfl (j := 0) rfl ?_
        refine G_X3_19_3 dX3_parse_81 (pc' := 84) rfl rfl ?_
        refine G_X3_46_22 dX3_parse_84 (pc' := 87) rfl rfl ?_
        refine st_iconst (pc' := 88) dX3_parse_87 rfl ?_
        refine st_iaload (pc' := 89) (v := (gi I 23 3)) dX3_parse_88 rfl L_23 (by decide) (by decide) (show gi I 23 3 = (gi I 23 3) from rfl) ?_
        refine st_if_ne (tg := 107) (pc' := 92) dX3_parse_89 (by decide) rfl (gi_in _ _ _) (fun c => ?_) (fun c => ?_)
        · replace h := h.1 c
          refine st_aload_n (pc' := 108) dX3_parse_107 rfl rfl (j := 0) rfl ?_
          refine G_X3_19_3 dX3_parse_108 (pc' := 111) rfl rfl ?_
          refine st_callV (pc' := 114) (kc := k - 1) (E' := LAY) (cal := m_X7_gatherNeeds) (n := 0) (as := []) (S := []) dX3_parse_111 rfl l_X3_57 k_X7_gatherNeeds rfl L_22 c_X7 rfl rfl (Nat.le_of_ble_eq_true rfl) (by omega) ⟨Nat.le_refl _, Nat.le_refl _, Nat.le_refl _, Nat.le_refl _⟩ h (fun r M' q => ?_)
          obtain ⟨I12, J13, rfl, rfl, h⟩ := q
          change WP _ LAY m_X3_parse 114 [(0, vR (some 3)), (2, vI x2)] [] (mem (some 22, some 5, some 22) I12 J13) Q
          refine st_iload_n (pc' := 115) dX3_parse_114 rfl rfl (j := 1) rfl ?_
          exact st_iret (ty := .int) dX3_parse_115 rfl rfl rfl h
        · replace h := h.2 c
          refine st_aload_n (pc' := 93) dX3_parse_92 rfl rfl (j := 0) rfl ?_
          refine st_iconst (pc' := 94) dX3_parse_93 rfl ?_
          refine st_aload_n (pc' := 95) dX3_parse_94 rfl rfl (j := 0) rfl ?_
          refine G_X3_15_3 dX3_parse_95 (pc' := 98) rfl rfl ?_
          refine G_X3_50_1 dX3_parse_98 (pc' := 101) rfl rfl ?_
          refine st_callV (pc' := 104) (kc := k - 1) (E' := LAY) (cal := m_X3_fail) (n := 2) (as := [vI 1, vI (gi I 1 1)]) (S := []) dX3_parse_101 rfl l_X3_53 k_X3_fail rfl L_3 c_X3 rfl rfl (Nat.le_of_ble_eq_true rfl) (by omega) ⟨Nat.le_refl _, Nat.le_refl _, Nat.le_refl _, Nat.le_refl _⟩ (Q1 := fun r M' => WP k LAY m_X3_parse 104 [(0, vR (some 3)), (2, vI x2)] (r.toList ++ []) M' Q) (WPm.of k_X3_fail.1 (Nat.le_of_ble_eq_true rfl) (B_X3_fail_0 (by omega) ?_)) (fun r M' q => q)
          change WP _ LAY m_X3_parse 104 [(0, vR (some 3)), (2, vI x2)] [vI 0] (mem (some 22, some 5, some 22) (si (si I 3 2 1) 3 3 (gi I 1 1)) J) Q
          refine st_pop (pc' := 105) dX3_parse_104 rfl rfl ?_
          refine st_iconst (pc' := 106) dX3_parse_105 rfl ?_
          exact st_iret (ty := .int) dX3_parse_106 rfl rfl rfl h
    · replace h := h.2 c
      refine st_aload_n (pc' := 53) dX3_parse_52 rfl rfl (j := 0) rfl ?_
      refine st_iload_n (pc' := 54) dX3_parse_53 rfl rfl (j := 1) rfl ?_
      refine st_callV (pc' := 57) (kc := k - 1) (E' := LAY) (cal := m_X3_statement) (n := 1) (as := [vI x2]) (S := []) dX3_parse_54 rfl l_X3_42 k_X3_statement rfl L_3 c_X3 rfl rfl (Nat.le_of_ble_eq_true rfl) (by omega) ⟨Nat.le_refl _, Nat.le_refl _, Nat.le_refl _, Nat.le_refl _⟩ h (fun r M' q => ?_)
      obtain ⟨v14, I15, J16, rfl, rfl, h⟩ := q
      change WP _ LAY m_X3_parse 57 [(0, vR (some 3)), (2, vI x2)] [vI v14] (mem (some 22, some 5, some 22) I15 J16) Q
      obtain ⟨e17, h⟩ := h
      refine st_if_ne (tg := 62) (pc' := 60) dX3_parse_57 (by decide) rfl e17 (fun c => ?_) (fun c => ?_)
      · replace h := h.1 c
        refine st_iinc (pc' := 65) (L' := [(2, vI (x2 + 1)), (0, vR (some 3))]) (j := 1) dX3_parse_62 rfl (by decide) rfl rfl ?_
        refine st_goto (pc' := 36) dX3_parse_65 (by decide) ?_
        refine WP_sub (L' := [(0, vR (some 3)), (2, vI (x2 + 1))]) [1, 0] rfl ?_
        exact h
      · replace h := h.2 c
        refine st_iconst (pc' := 61) dX3_parse_60 rfl ?_
        exact st_iret (ty := .int) dX3_parse_61 rfl rfl rfl h
end WX3

section WM1
set_option maxRecDepth 20000 in
set_option maxHeartbeats 4000000 in
theorem B_X12_asked_0 {k : Nat} {P : Option Nat} {I : Nat → Nat → Int32} {J : Nat → Nat → Int64} {x1 : Int} {Q : Option AV → Mem → Prop} (hk : 1 ≤ k) (h : WPm (k - 1) LAY m_X12_looked [vR (some 74), vI x1] (mem (P, some 5, some 22) I J) (retI (fun v1 I2 J3 => (¬ (gi I2 74 8) = 0 → (((gi I2 74 8) ≤ 0 → (Q (some (vI v1)) (mem (P, some 5, some 22) I2 J3))) ∧ (¬ (gi I2 74 8) ≤ 0 → (Q (some (vI 0)) (mem (P, some 5, some 22) I2 J3))))) ∧ ((gi I2 74 8) = 0 → (WPm (k - 1) LAY m_X12_ahead [vR (some 74)] (mem (P, some 5, some 22) I2 J3) (retV (fun I5 J6 => ((gi I5 74 8) ≤ 0 → (Q (some (vI v1)) (mem (P, some 5, some 22) I5 J6))) ∧ (¬ (gi I5 74 8) ≤ 0 → (Q (some (vI 0)) (mem (P, some 5, some 22) I5 J6)))) (P, some 5, some 22))))) (P, some 5, some 22))) : WP k LAY m_X12_asked 0 [(0, vR (some 74)), (1, vI x1)] [] (mem (P, some 5, some 22) I J) Q := by
  refine st_aload_n (pc' := 1) dX12_asked_0 rfl rfl (j := 0) rfl ?_
  refine st_iload_n (pc' := 2) dX12_asked_1 rfl rfl (j := 1) rfl ?_
  refine st_callV (pc' := 5) (kc := k - 1) (E' := LAY) (cal := m_X12_looked) (n := 1) (as := [vI x1]) (S := []) dX12_asked_2 rfl l_X12_407 k_X12_looked rfl L_74 c_X12 rfl rfl (Nat.le_of_ble_eq_true rfl) (by omega) ⟨Nat.le_refl _, Nat.le_refl _, Nat.le_refl _, Nat.le_refl _⟩ h (fun r M' q => ?_)
  obtain ⟨v1, I2, J3, rfl, rfl, h⟩ := q
  change WP _ LAY m_X12_asked 5 [(0, vR (some 74)), (1, vI x1)] [vI v1] (mem (P, some 5, some 22) I2 J3) Q
  refine st_istore_n (pc' := 6) (L' := [(2, vI v1), (0, vR (some 74)), (1, vI x1)]) dX12_asked_5 rfl rfl (by decide) rfl ?_
  refine st_aload_n (pc' := 7) dX12_asked_6 rfl rfl (j := 1) rfl ?_
  refine G_X12_36_74 dX12_asked_7 (pc' := 10) rfl rfl ?_
  refine st_if_ne (tg := 17) (pc' := 13) dX12_asked_10 (by decide) rfl (gi_in _ _ _) (fun c => ?_) (fun c => ?_)
  · replace h := h.1 c
    refine st_aload_n (pc' := 18) dX12_asked_17 rfl rfl (j := 1) rfl ?_
    refine G_X12_36_74 dX12_asked_18 (pc' := 21) rfl rfl ?_
    refine st_if_le (tg := 28) (pc' := 24) dX12_asked_21 (by decide) rfl (gi_in _ _ _) (fun c => ?_) (fun c => ?_)
    · replace h := h.1 c
      refine st_iload_n (pc' := 29) dX12_asked_28 rfl rfl (j := 0) rfl ?_
      exact st_iret (ty := .int) dX12_asked_29 rfl rfl rfl h
    · replace h := h.2 c
      refine st_iconst (pc' := 25) dX12_asked_24 rfl ?_
      refine st_goto (pc' := 29) dX12_asked_25 (by decide) ?_
      exact st_iret (ty := .int) dX12_asked_29 rfl rfl rfl h
  · replace h := h.2 c
    refine st_aload_n (pc' := 14) dX12_asked_13 rfl rfl (j := 1) rfl ?_
    refine st_callV (pc' := 17) (kc := k - 1) (E' := LAY) (cal := m_X12_ahead) (n := 0) (as := []) (S := []) dX12_asked_14 rfl l_X12_308 k_X12_ahead rfl L_74 c_X12 rfl rfl (Nat.le_of_ble_eq_true rfl) (by omega) ⟨Nat.le_refl _, Nat.le_refl _, Nat.le_refl _, Nat.le_refl _⟩ h (fun r M' q => ?_)
    obtain ⟨I5, J6, rfl, rfl, h⟩ := q
    change WP _ LAY m_X12_asked 17 [(2, vI v1), (0, vR (some 74)), (1, vI x1)] [] (mem (P, some 5, some 22) I5 J6) Q
    refine st_aload_n (pc' := 18) dX12_asked_17 rfl rfl (j := 1) rfl ?_
    refine G_X12_36_74 dX12_asked_18 (pc' := 21) rfl rfl ?_
    refine st_if_le (tg := 28) (pc' := 24) dX12_asked_21 (by decide) rfl (gi_in _ _ _) (fun c => ?_) (fun c => ?_)
    · replace h := h.1 c
      refine st_iload_n (pc' := 29) dX12_asked_28 rfl rfl (j := 0) rfl ?_
      exact st_iret (ty := .int) dX12_asked_29 rfl rfl rfl h
    · replace h := h.2 c
      refine st_iconst (pc' := 25) dX12_asked_24 rfl ?_
      refine st_goto (pc' := 29) dX12_asked_25 (by decide) ?_
      exact st_iret (ty := .int) dX12_asked_29 rfl rfl rfl h
set_option maxRecDepth 20000 in
set_option maxHeartbeats 4000000 in
theorem B_X12_begin_0 {k : Nat} {P : Option Nat} {I : Nat → Nat → Int32} {J : Nat → Nat → Int64}  {Q : Option AV → Mem → Prop} (hk : 0 ≤ k) (h : WP k LAY m_X12_begin 28 [(0, vR (some 74)), (1, vI 0)] [] (mem (P, some 5, some 22) (si (si (si (si I 108 0 0) 109 0 0) 117 0 0) 74 66 0) J) Q) : WP k LAY m_X12_begin 0 [(0, vR (some 74))] [] (mem (P, some 5, some 22) I J) Q := by
  refine st_aload_n (pc' := 1) dX12_begin_0 rfl rfl (j := 0) rfl ?_
  refine G_X12_171_74 dX12_begin_1 (pc' := 4) rfl rfl ?_
  refine st_iconst (pc' := 5) dX12_begin_4 rfl ?_
  refine st_iconst (pc' := 6) dX12_begin_5 rfl ?_
  refine st_iastore (pc' := 7) (M' := (mem (P, some 5, some 22) (si I 108 0 0) J)) dX12_begin_6 rfl L_108 (by decide) (by decide) rfl ?_
  refine st_aload_n (pc' := 8) dX12_begin_7 rfl rfl (j := 0) rfl ?_
  refine G_X12_174_74 dX12_begin_8 (pc' := 11) rfl rfl ?_
  refine st_iconst (pc' := 12) dX12_begin_11 rfl ?_
  refine st_iconst (pc' := 13) dX12_begin_12 rfl ?_
  refine st_iastore (pc' := 14) (M' := (mem (P, some 5, some 22) (si (si I 108 0 0) 109 0 0) J)) dX12_begin_13 rfl L_109 (by decide) (by decide) rfl ?_
  refine st_aload_n (pc' := 15) dX12_begin_14 rfl rfl (j := 0) rfl ?_
  refine G_X12_198_74 dX12_begin_15 (pc' := 18) rfl rfl ?_
  refine st_iconst (pc' := 19) dX12_begin_18 rfl ?_
  refine st_iconst (pc' := 20) dX12_begin_19 rfl ?_
  refine st_iastore (pc' := 21) (M' := (mem (P, some 5, some 22) (si (si (si I 108 0 0) 109 0 0) 117 0 0) J)) dX12_begin_20 rfl L_117 (by decide) (by decide) rfl ?_
  refine st_aload_n (pc' := 22) dX12_begin_21 rfl rfl (j := 0) rfl ?_
  refine st_iconst (pc' := 23) dX12_begin_22 rfl ?_
  refine P_X12_213_74 dX12_begin_23 (pc' := 26) rfl rfl ?_
  refine st_iconst (pc' := 27) dX12_begin_26 rfl ?_
  refine st_istore_n (pc' := 28) (L' := [(1, vI 0), (0, vR (some 74))]) dX12_begin_27 rfl rfl (by decide) rfl ?_
  refine WP_sub (L' := [(0, vR (some 74)), (1, vI 0)]) [1, 0] rfl ?_
  exact h
set_option maxRecDepth 20000 in
set_option maxHeartbeats 4000000 in
theorem B_X12_begin_28 {k : Nat} {P : Option Nat} {I : Nat → Nat → Int32} {J : Nat → Nat → Int64} {x1 : Int} {Q : Option AV → Mem → Prop} (hk : 0 ≤ k) (h : inR x1 ∧ ((6 ≤ x1 → (Q none (mem (P, some 5, some 22) I J))) ∧ (¬ 6 ≤ x1 → ((0 ≤ x1 ∧ x1 < 132) ∧ (WP k LAY m_X12_begin 28 [(0, vR (some 74)), (1, vI (x1 + 1))] [] (mem (P, some 5, some 22) (si (si (si (si (si (si I 110 (x1).toNat 0) 111 (x1).toNat 0) 112 (x1).toNat 0) 113 (x1).toNat (-1)) 114 (x1).toNat 0) 115 (x1).toNat 0) J) Q))))) : WP k LAY m_X12_begin 28 [(0, vR (some 74)), (1, vI x1)] [] (mem (P, some 5, some 22) I J) Q := by
  refine st_iload_n (pc' := 29) dX12_begin_28 rfl rfl (j := 1) rfl ?_
  refine st_bipush (pc' := 31) dX12_begin_29 rfl (by decide) ?_
  obtain ⟨e1, h⟩ := h
  refine st_icmp_ge (tg := 82) (pc' := 34) dX12_begin_31 (by decide) rfl e1 (by decide) (fun c => ?_) (fun c => ?_)
  · replace h := h.1 c
    exact st_vret dX12_begin_82 rfl rfl h
  · replace h := h.2 c
    refine st_aload_n (pc' := 35) dX12_begin_34 rfl rfl (j := 0) rfl ?_
    refine G_X12_177_74 dX12_begin_35 (pc' := 38) rfl rfl ?_
    refine st_iload_n (pc' := 39) dX12_begin_38 rfl rfl (j := 1) rfl ?_
    refine st_iconst (pc' := 40) dX12_begin_39 rfl ?_
    obtain ⟨e2, h⟩ := h
    refine st_iastore (pc' := 41) (M' := (mem (P, some 5, some 22) (si I 110 (x1).toNat 0) J)) dX12_begin_40 rfl L_110 (by decide) e2 rfl ?_
    refine st_aload_n (pc' := 42) dX12_begin_41 rfl rfl (j := 0) rfl ?_
    refine G_X12_180_74 dX12_begin_42 (pc' := 45) rfl rfl ?_
    refine st_iload_n (pc' := 46) dX12_begin_45 rfl rfl (j := 1) rfl ?_
    refine st_iconst (pc' := 47) dX12_begin_46 rfl ?_
    refine st_iastore (pc' := 48) (M' := (mem (P, some 5, some 22) (si (si I 110 (x1).toNat 0) 111 (x1).toNat 0) J)) dX12_begin_47 rfl L_111 (by decide) e2 rfl ?_
    refine st_aload_n (pc' := 49) dX12_begin_48 rfl rfl (j := 0) rfl ?_
    refine G_X12_183_74 dX12_begin_49 (pc' := 52) rfl rfl ?_
    refine st_iload_n (pc' := 53) dX12_begin_52 rfl rfl (j := 1) rfl ?_
    refine st_iconst (pc' := 54) dX12_begin_53 rfl ?_
    refine st_iastore (pc' := 55) (M' := (mem (P, some 5, some 22) (si (si (si I 110 (x1).toNat 0) 111 (x1).toNat 0) 112 (x1).toNat 0) J)) dX12_begin_54 rfl L_112 (by decide) e2 rfl ?_
    refine st_aload_n (pc' := 56) dX12_begin_55 rfl rfl (j := 0) rfl ?_
    refine G_X12_186_74 dX12_begin_56 (pc' := 59) rfl rfl ?_
    refine st_iload_n (pc' := 60) dX12_begin_59 rfl rfl (j := 1) rfl ?_
    refine st_iconst (pc' := 61) dX12_begin_60 rfl ?_
    refine st_iastore (pc' := 62) (M' := (mem (P, some 5, some 22) (si (si (si (si I 110 (x1).toNat 0) 111 (x1).toNat 0) 112 (x1).toNat 0) 113 (x1).toNat (-1)) J)) dX12_begin_61 rfl L_113 (by decide) e2 rfl ?_
    refine st_aload_n (pc' := 63) dX12_begin_62 rfl rfl (j := 0) rfl ?_
    refine G_X12_189_74 dX12_begin_63 (pc' := 66) rfl rfl ?_
    refine st_iload_n (pc' := 67) dX12_begin_66 rfl rfl (j := 1) rfl ?_
    refine st_iconst (pc' := 68) dX12_begin_67 rfl ?_
    refine st_iastore (pc' := 69) (M' := (mem (P, some 5, some 22) (si (si (si (si (si I 110 (x1).toNat 0) 111 (x1).toNat 0) 112 (x1).toNat 0) 113 (x1).toNat (-1)) 114 (x1).toNat 0) J)) dX12_begin_68 rfl L_114 (by decide) e2 rfl ?_
    refine st_aload_n (pc' := 70) dX12_begin_69 rfl rfl (j := 0) rfl ?_
    refine G_X12_192_74 dX12_begin_70 (pc' := 73) rfl rfl ?_
    refine st_iload_n (pc' := 74) dX12_begin_73 rfl rfl (j := 1) rfl ?_
    refine st_iconst (pc' := 75) dX12_begin_74 rfl ?_
    refine st_iastore (pc' := 76) (M' := (mem (P, some 5, some 22) (si (si (si (si (si (si I 110 (x1).toNat 0) 111 (x1).toNat 0) 112 (x1).toNat 0) 113 (x1).toNat (-1)) 114 (x1).toNat 0) 115 (x1).toNat 0) J)) dX12_begin_75 rfl L_115 (by decide) e2 rfl ?_
    refine st_iinc (pc' := 79) (L' := [(1, vI (x1 + 1)), (0, vR (some 74))]) (j := 1) dX12_begin_76 rfl (by decide) rfl rfl ?_
    refine st_goto (pc' := 28) dX12_begin_79 (by decide) ?_
    refine WP_sub (L' := [(0, vR (some 74)), (1, vI (x1 + 1))]) [1, 0] rfl ?_
    exact h
set_option maxRecDepth 20000 in
set_option maxHeartbeats 4000000 in
theorem B_X12_counts_0 {k : Nat} {P : Option Nat} {I : Nat → Nat → Int32} {J : Nat → Nat → Int64} {x1 : Int} {Q : Option AV → Mem → Prop} (hk : 1 ≤ k) (h : (¬ (gi I 74 8) = 0 → ((¬ (gi I 74 8) = 0 → ((¬ (gi I 74 8) = 0 → (Q (some (vI 0)) (mem (P, some 5, some 22) I J))) ∧ ((gi I 74 8) = 0 → (Q (some (vI 1)) (mem (P, some 5, some 22) I J))))) ∧ ((gi I 74 8) = 0 → (WPm (k - 1) LAY m_X12_ahead [vR (some 74)] (mem (P, some 5, some 22) I J) (retV (fun I2 J3 => (¬ (gi I2 74 8) = 0 → (Q (some (vI 0)) (mem (P, some 5, some 22) I2 J3))) ∧ ((gi I2 74 8) = 0 → (Q (some (vI 1)) (mem (P, some 5, some 22) I2 J3)))) (P, some 5, some 22)))))) ∧ ((gi I 74 8) = 0 → (inR x1 ∧ ((x1 = 0 → ((¬ (gi I 74 8) = 0 → ((¬ (gi I 74 8) = 0 → (Q (some (vI 0)) (mem (P, some 5, some 22) I J))) ∧ ((gi I 74 8) = 0 → (Q (some (vI 1)) (mem (P, some 5, some 22) I J))))) ∧ ((gi I 74 8) = 0 → (WPm (k - 1) LAY m_X12_ahead [vR (some 74)] (mem (P, some 5, some 22) I J) (retV (fun I6 J7 => (¬ (gi I6 74 8) = 0 → (Q (some (vI 0)) (mem (P, some 5, some 22) I6 J7))) ∧ ((gi I6 74 8) = 0 → (Q (some (vI 1)) (mem (P, some 5, some 22) I6 J7)))) (P, some 5, some 22)))))) ∧ (¬ x1 = 0 → (((gi I 74 8) ≤ 0 → (Q (some (vI 0)) (mem (P, some 5, some 22) (si (si I 74 8 6) 74 9 (gi I 74 4)) J))) ∧ (¬ (gi I 74 8) ≤ 0 → ((¬ (gi I 74 8) = 0 → ((¬ (gi I 74 8) = 0 → (Q (some (vI 0)) (mem (P, some 5, some 22) I J))) ∧ ((gi I 74 8) = 0 → (Q (some (vI 1)) (mem (P, some 5, some 22) I J))))) ∧ ((gi I 74 8) = 0 → (WPm (k - 1) LAY m_X12_ahead [vR (some 74)] (mem (P, some 5, some 22) I J) (retV (fun I9 J10 => (¬ (gi I9 74 8) = 0 → (Q (some (vI 0)) (mem (P, some 5, some 22) I9 J10))) ∧ ((gi I9 74 8) = 0 → (Q (some (vI 1)) (mem (P, some 5, some 22) I9 J10)))) (P, some 5, some 22)))))))))))) : WP k LAY m_X12_counts 0 [(0, vR (some 74)), (1, vI x1)] [] (mem (P, some 5, some 22) I J) Q := by
  refine st_aload_n (pc' := 1) dX12_counts_0 rfl rfl (j := 0) rfl ?_
  refine G_X12_36_74 dX12_counts_1 (pc' := 4) rfl rfl ?_
  refine st_if_ne (tg := 21) (pc' := 7) dX12_counts_4 (by decide) rfl (gi_in _ _ _) (fun c => ?_) (fun c => ?_)
  · replace h := h.1 c
    refine st_aload_n (pc' := 22) dX12_counts_21 rfl rfl (j := 0) rfl ?_
    refine G_X12_36_74 dX12_counts_22 (pc' := 25) rfl rfl ?_
    refine st_if_ne (tg := 32) (pc' := 28) dX12_counts_25 (by decide) rfl (gi_in _ _ _) (fun c => ?_) (fun c => ?_)
    · replace h := h.1 c
      refine st_aload_n (pc' := 33) dX12_counts_32 rfl rfl (j := 0) rfl ?_
      refine G_X12_36_74 dX12_counts_33 (pc' := 36) rfl rfl ?_
      refine st_if_ne (tg := 43) (pc' := 39) dX12_counts_36 (by decide) rfl (gi_in _ _ _) (fun c => ?_) (fun c => ?_)
      · replace h := h.1 c
        refine st_iconst (pc' := 44) dX12_counts_43 rfl ?_
        exact st_iret (ty := .boolean) dX12_counts_44 rfl (by decide) rfl h
      · replace h := h.2 c
        refine st_iconst (pc' := 40) dX12_counts_39 rfl ?_
        refine st_goto (pc' := 44) dX12_counts_40 (by decide) ?_
        exact st_iret (ty := .boolean) dX12_counts_44 rfl (by decide) rfl h
    · replace h := h.2 c
      refine st_aload_n (pc' := 29) dX12_counts_28 rfl rfl (j := 0) rfl ?_
      refine st_callV (pc' := 32) (kc := k - 1) (E' := LAY) (cal := m_X12_ahead) (n := 0) (as := []) (S := []) dX12_counts_29 rfl l_X12_308 k_X12_ahead rfl L_74 c_X12 rfl rfl (Nat.le_of_ble_eq_true rfl) (by omega) ⟨Nat.le_refl _, Nat.le_refl _, Nat.le_refl _, Nat.le_refl _⟩ h (fun r M' q => ?_)
      obtain ⟨I2, J3, rfl, rfl, h⟩ := q
      change WP _ LAY m_X12_counts 32 [(0, vR (some 74)), (1, vI x1)] [] (mem (P, some 5, some 22) I2 J3) Q
      refine st_aload_n (pc' := 33) dX12_counts_32 rfl rfl (j := 0) rfl ?_
      refine G_X12_36_74 dX12_counts_33 (pc' := 36) rfl rfl ?_
      refine st_if_ne (tg := 43) (pc' := 39) dX12_counts_36 (by decide) rfl (gi_in _ _ _) (fun c => ?_) (fun c => ?_)
      · replace h := h.1 c
        refine st_iconst (pc' := 44) dX12_counts_43 rfl ?_
        exact st_iret (ty := .boolean) dX12_counts_44 rfl (by decide) rfl h
      · replace h := h.2 c
        refine st_iconst (pc' := 40) dX12_counts_39 rfl ?_
        refine st_goto (pc' := 44) dX12_counts_40 (by decide) ?_
        exact st_iret (ty := .boolean) dX12_counts_44 rfl (by decide) rfl h
  · replace h := h.2 c
    refine st_iload_n (pc' := 8) dX12_counts_7 rfl rfl (j := 1) rfl ?_
    obtain ⟨e4, h⟩ := h
    refine st_if_eq (tg := 21) (pc' := 11) dX12_counts_8 (by decide) rfl e4 (fun c => ?_) (fun c => ?_)
    · replace h := h.1 c
      refine st_aload_n (pc' := 22) dX12_counts_21 rfl rfl (j := 0) rfl ?_
      refine G_X12_36_74 dX12_counts_22 (pc' := 25) rfl rfl ?_
      refine st_if_ne (tg := 32) (pc' := 28) dX12_counts_25 (by decide) rfl (gi_in _ _ _) (fun c => ?_) (fun c => ?_)
      · replace h := h.1 c
        refine st_aload_n (pc' := 33) dX12_counts_32 rfl rfl (j := 0) rfl ?_
        refine G_X12_36_74 dX12_counts_33 (pc' := 36) rfl rfl ?_
        refine st_if_ne (tg := 43) (pc' := 39) dX12_counts_36 (by decide) rfl (gi_in _ _ _) (fun c => ?_) (fun c => ?_)
        · replace h := h.1 c
          refine st_iconst (pc' := 44) dX12_counts_43 rfl ?_
          exact st_iret (ty := .boolean) dX12_counts_44 rfl (by decide) rfl h
        · replace h := h.2 c
          refine st_iconst (pc' := 40) dX12_counts_39 rfl ?_
          refine st_goto (pc' := 44) dX12_counts_40 (by decide) ?_
          exact st_iret (ty := .boolean) dX12_counts_44 rfl (by decide) rfl h
      · replace h := h.2 c
        refine st_aload_n (pc' := 29) dX12_counts_28 rfl rfl (j := 0) rfl ?_
        refine st_callV (pc' := 32) (kc := k - 1) (E' := LAY) (cal := m_X12_ahead) (n := 0) (as := []) (S := []) dX12_counts_29 rfl l_X12_308 k_X12_ahead rfl L_74 c_X12 rfl rfl (Nat.le_of_ble_eq_true rfl) (by omega) ⟨Nat.le_refl _, Nat.le_refl _, Nat.le_refl _, Nat.le_refl _⟩ h (fun r M' q => ?_)
        obtain ⟨I6, J7, rfl, rfl, h⟩ := q
        change WP _ LAY m_X12_counts 32 [(0, vR (some 74)), (1, vI x1)] [] (mem (P, some 5, some 22) I6 J7) Q
        refine st_aload_n (pc' := 33) dX12_counts_32 rfl rfl (j := 0) rfl ?_
        refine G_X12_36_74 dX12_counts_33 (pc' := 36) rfl rfl ?_
        refine st_if_ne (tg := 43) (pc' := 39) dX12_counts_36 (by decide) rfl (gi_in _ _ _) (fun c => ?_) (fun c => ?_)
        · replace h := h.1 c
          refine st_iconst (pc' := 44) dX12_counts_43 rfl ?_
          exact st_iret (ty := .boolean) dX12_counts_44 rfl (by decide) rfl h
        · replace h := h.2 c
          refine st_iconst (pc' := 40) dX12_counts_39 rfl ?_
          refine st_goto (pc' := 44) dX12_counts_40 (by decide) ?_
          exact st_iret (ty := .boolean) dX12_counts_44 rfl (by decide) rfl h
    · replace h := h.2 c
      refine st_aload_n (pc' := 12) dX12_counts_11 rfl rfl (j := 0) rfl ?_
      refine st_bipush (pc' := 14) dX12_counts_12 rfl (by decide) ?_
      refine st_aload_n (pc' := 15) dX12_counts_14 rfl rfl (j := 0) rfl ?_
      refine G_X12_23_74 dX12_counts_15 (pc' := 18) rfl rfl ?_
      refine st_callV (pc' := 21) (kc := k - 1) (E' := LAY) (cal := m_X12_blame) (n := 2) (as := [vI 6, vI (gi I 74 4)]) (S := []) dX12_counts_18 rfl l_X12_287 k_X12_blame rfl L_74 c_X12 rfl rfl (Nat.le_of_ble_eq_true rfl) (by omega) ⟨Nat.le_refl _, Nat.le_refl _, Nat.le_refl _, Nat.le_refl _⟩ (Q1 := fun r M' => WP k LAY m_X12_counts 21 [(0, vR (some 74)), (1, vI x1)] (r.toList ++ []) M' Q) (WPm.of k_X12_blame.1 (Nat.le_of_ble_eq_true rfl) (B_X12_blame_0 (by omega) ?_)) (fun r M' q => q)
      refine ⟨fun c => ?_, fun c => ?_⟩
      · replace h := h.1 c
        change WP _ LAY m_X12_counts 21 [(0, vR (some 74)), (1, vI x1)] [] (mem (P, some 5, some 22) (si (si I 74 8 6) 74 9 (gi I 74 4)) J) Q
        refine st_aload_n (pc' := 22) dX12_counts_21 rfl rfl (j := 0) rfl ?_
        refine G_X12_36_74 dX12_counts_22 (pc' := 25) rfl rfl ?_
        rw [show gi (si (si I 74 8 6) 74 9 (gi I 74 4)) 74 8 = 6 from ((gi_idx _ _ _ (by decide)).trans (gi_same _ _ _ (by decide)))]
        refine st_if_ne (tg := 32) (pc' := 28) dX12_counts_25 (by decide) rfl (by decide) (fun c => ?_) (fun c => ?_)
        · refine st_aload_n (pc' := 33) dX12_counts_32 rfl rfl (j := 0) rfl ?_
          refine G_X12_36_74 dX12_counts_33 (pc' := 36) rfl rfl ?_
          rw [show gi (si (si I 74 8 6) 74 9 (gi I 74 4)) 74 8 = 6 from ((gi_idx _ _ _ (by decide)).trans (gi_same _ _ _ (by decide)))]
          refine st_if_ne (tg := 43) (pc' := 39) dX12_counts_36 (by decide) rfl (by decide) (fun c => ?_) (fun c => ?_)
          · refine st_iconst (pc' := 44) dX12_counts_43 rfl ?_
            exact st_iret (ty := .boolean) dX12_counts_44 rfl (by decide) rfl h
          · exact absurd c (by decide)
        · exact absurd c (by decide)
      · replace h := h.2 c
        change WP _ LAY m_X12_counts 21 [(0, vR (some 74)), (1, vI x1)] [] (mem (P, some 5, some 22) I J) Q
        refine st_aload_n (pc' := 22) dX12_counts_21 rfl rfl (j := 0) rfl ?_
        refine G_X12_36_74 dX12_counts_22 (pc' := 25) rfl rfl ?_
        refine st_if_ne (tg := 32) (pc' := 28) dX12_counts_25 (by decide) rfl (gi_in _ _ _) (fun c => ?_) (fun c => ?_)
        · replace h := h.1 c
          refine st_aload_n (pc' := 33) dX12_counts_32 rfl rfl (j := 0) rfl ?_
          refine G_X12_36_74 dX12_counts_33 (pc' := 36) rfl rfl ?_
          refine st_if_ne (tg := 43) (pc' := 39) dX12_counts_36 (by decide) rfl (gi_in _ _ _) (fun c => ?_) (fun c => ?_)
          · replace h := h.1 c
            refine st_iconst (pc' := 44) dX12_counts_43 rfl ?_
            exact st_iret (ty := .boolean) dX12_counts_44 rfl (by decide) rfl h
          · replace h := h.2 c
            refine st_iconst (pc' := 40) dX12_counts_39 rfl ?_
            refine st_goto (pc' := 44) dX12_counts_40 (by decide) ?_
            exact st_iret (ty := .boolean) dX12_counts_44 rfl (by decide) rfl h
        · replace h := h.2 c
          refine st_aload_n (pc' := 29) dX12_counts_28 rfl rfl (j := 0) rfl ?_
          refine st_callV (pc' := 32) (kc := k - 1) (E' := LAY) (cal := m_X12_ahead) (n := 0) (as := []) (S := []) dX12_counts_29 rfl l_X12_308 k_X12_ahead rfl L_74 c_X12 rfl rfl (Nat.le_of_ble_eq_true rfl) (by omega) ⟨Nat.le_refl _, Nat.le_refl _, Nat.le_refl _, Nat.le_refl _⟩ h (fun r M' q => ?_)
          obtain ⟨I9, J10, rfl, rfl, h⟩ := q
          change WP _ LAY m_X12_counts 32 [(0, vR (some 74)), (1, vI x1)] [] (mem (P, some 5, some 22) I9 J10) Q
          refine st_aload_n (pc' := 33) dX12_counts_32 rfl rfl (j := 0) rfl ?_
          refine G_X12_36_74 dX12_counts_33 (pc' := 36) rfl rfl ?_
          refine st_if_ne (tg := 43) (pc' := 39) dX12_counts_36 (by decide) rfl (gi_in _ _ _) (fun c => ?_) (fun c => ?_)
          · replace h := h.1 c
            refine st_iconst (pc' := 44) dX12_counts_43 rfl ?_
            exact st_iret (ty := .boolean) dX12_counts_44 rfl (by decide) rfl h
          · replace h := h.2 c
            refine st_iconst (pc' := 40) dX12_counts_39 rfl ?_
            refine st_goto (pc' := 44) dX12_counts_40 (by decide) ?_
            exact st_iret (ty := .boolean) dX12_counts_44 rfl (by decide) rfl h
set_option maxRecDepth 20000 in
set_option maxHeartbeats 4000000 in
theorem B_X12_fresh_0 {k : Nat} {P : Option Nat} {I : Nat → Nat → Int32} {J : Nat → Nat → Int64}  {Q : Option AV → Mem → Prop} (hk : 2 ≤ k) (h : ((gi I 74 12) = (-1) → (((gi I 74 8) ≤ 0 → ((¬ (gi I 74 3) = 1 → (((gi I 74 8) ≤ 0 → (WP k LAY m_X12_fresh 43 [(0, vR (some 74)), (1, vI 0)] [] (mem (P, some 5, some 22) (si (si I 74 8 1) 74 9 (gi I 74 4)) J) Q)) ∧ (¬ (gi I 74 8) ≤ 0 → (WP k LAY m_X12_fresh 43 [(0, vR (some 74)), (1, vI 0)] [] (mem (P, some 5, some 22) I J) Q)))) ∧ ((gi I 74 3) = 1 → (WPm (k - 1) LAY m_X12_isOwn [vR (some 74), vL (gl J 74 7)] (mem (P, some 5, some 22) I J) (retI (fun v1 I2 J3 => inR v1 ∧ ((v1 = 0 → (WP k LAY m_X12_fresh 43 [(0, vR (some 74)), (1, vI 0)] [] (mem (P, some 5, some 22) I2 J3) Q)) ∧ (¬ v1 = 0 → (((gi I2 74 8) ≤ 0 → (WP k LAY m_X12_fresh 43 [(0, vR (some 74)), (1, vI 0)] [] (mem (P, some 5, some 22) (si (si I2 74 8 1) 74 9 (gi I2 74 4)) J3) Q)) ∧ (¬ (gi I2 74 8) ≤ 0 → (WP k LAY m_X12_fresh 43 [(0, vR (some 74)), (1, vI 0)] [] (mem (P, some 5, some 22) I2 J3) Q)))))) (P, some 5, some 22)))))) ∧ (¬ (gi I 74 8) ≤ 0 → (Q (some (vL 0)) (mem (P, some 5, some 22) I J))))) ∧ (¬ (gi I 74 12) = (-1) → (((gi I 74 8) ≤ 0 → (Q (some (vL 0)) (mem (P, some 5, some 22) (si (si I 74 8 1) 74 9 (gi I 74 12)) J))) ∧ (¬ (gi I 74 8) ≤ 0 → (((gi I 74 8) ≤ 0 → ((¬ (gi I 74 3) = 1 → (((gi I 74 8) ≤ 0 → (WP k LAY m_X12_fresh 43 [(0, vR (some 74)), (1, vI 0)] [] (mem (P, some 5, some 22) (si (si I 74 8 1) 74 9 (gi I 74 4)) J) Q)) ∧ (¬ (gi I 74 8) ≤ 0 → (WP k LAY m_X12_fresh 43 [(0, vR (some 74)), (1, vI 0)] [] (mem (P, some 5, some 22) I J) Q)))) ∧ ((gi I 74 3) = 1 → (WPm (k - 1) LAY m_X12_isOwn [vR (some 74), vL (gl J 74 7)] (mem (P, some 5, some 22) I J) (retI (fun v5 I6 J7 => inR v5 ∧ ((v5 = 0 → (WP k LAY m_X12_fresh 43 [(0, vR (some 74)), (1, vI 0)] [] (mem (P, some 5, some 22) I6 J7) Q)) ∧ (¬ v5 = 0 → (((gi I6 74 8) ≤ 0 → (WP k LAY m_X12_fresh 43 [(0, vR (some 74)), (1, vI 0)] [] (mem (P, some 5, some 22) (si (si I6 74 8 1) 74 9 (gi I6 74 4)) J7) Q)) ∧ (¬ (gi I6 74 8) ≤ 0 → (WP k LAY m_X12_fresh 43 [(0, vR (some 74)), (1, vI 0)] [] (mem (P, some 5, some 22) I6 J7) Q)))))) (P, some 5, some 22)))))) ∧ (¬ (gi I 74 8) ≤ 0 → (Q (some (vL 0)) (mem (P, some 5, some 22) I J)))))))) : WP k LAY m_X12_fresh 0 [(0, vR (some 74))] [] (mem (P, some 5, some 22) I J) Q := by
  refine st_aload_n (pc' := 1) dX12_fresh_0 rfl rfl (j := 0) rfl ?_
  refine st_callV (pc' := 4) (kc := k - 1) (E' := LAY) (cal := m_X12_lex) (n := 0) (as := []) (S := []) dX12_fresh_1 rfl l_X12_302 k_X12_lex rfl L_74 c_X12 rfl rfl (Nat.le_of_ble_eq_true rfl) (by omega) ⟨Nat.le_refl _, Nat.le_refl _, Nat.le_refl _, Nat.le_refl _⟩ (Q1 := fun r M' => WP k LAY m_X12_fresh 4 [(0, vR (some 74))] (r.toList ++ []) M' Q) (WPm.of k_X12_lex.1 (Nat.le_of_ble_eq_true rfl) (B_X12_lex_0 (by omega) ?_)) (fun r M' q => q)
  refine ⟨fun c => ?_, fun c => ?_⟩
  · replace h := h.1 c
    change WP _ LAY m_X12_fresh 4 [(0, vR (some 74))] [] (mem (P, some 5, some 22) I J) Q
    refine st_aload_n (pc' := 5) dX12_fresh_4 rfl rfl (j := 0) rfl ?_
    refine G_X12_36_74 dX12_fresh_5 (pc' := 8) rfl rfl ?_
    refine st_if_le (tg := 13) (pc' := 11) dX12_fresh_8 (by decide) rfl (gi_in _ _ _) (fun c => ?_) (fun c => ?_)
    · replace h := h.1 c
      refine st_aload_n (pc' := 14) dX12_fresh_13 rfl rfl (j := 0) rfl ?_
      refine G_X12_20_74 dX12_fresh_14 (pc' := 17) rfl rfl ?_
      refine st_iconst (pc' := 18) dX12_fresh_17 rfl ?_
      refine st_icmp_ne (tg := 32) (pc' := 21) dX12_fresh_18 (by decide) rfl (gi_in _ _ _) (by decide) (fun c => ?_) (fun c => ?_)
      · replace h := h.1 c
        refine st_aload_n (pc' := 33) dX12_fresh_32 rfl rfl (j := 0) rfl ?_
        refine st_iconst (pc' := 34) dX12_fresh_33 rfl ?_
        refine st_aload_n (pc' := 35) dX12_fresh_34 rfl rfl (j := 0) rfl ?_
        refine G_X12_23_74 dX12_fresh_35 (pc' := 38) rfl rfl ?_
        refine st_callV (pc' := 41) (kc := k - 1) (E' := LAY) (cal := m_X12_blame) (n := 2) (as := [vI 1, vI (gi I 74 4)]) (S := []) dX12_fresh_38 rfl l_X12_287 k_X12_blame rfl L_74 c_X12 rfl rfl (Nat.le_of_ble_eq_true rfl) (by omega) ⟨Nat.le_refl _, Nat.le_refl _, Nat.le_refl _, Nat.le_refl _⟩ (Q1 := fun r M' => WP k LAY m_X12_fresh 41 [(0, vR (some 74))] (r.toList ++ []) M' Q) (WPm.of k_X12_blame.1 (Nat.le_of_ble_eq_true rfl) (B_X12_blame_0 (by omega) ?_)) (fun r M' q => q)
        refine ⟨fun c => ?_, fun c => ?_⟩
        · replace h := h.1 c
          change WP _ LAY m_X12_fresh 41 [(0, vR (some 74))] [] (mem (P, some 5, some 22) (si (si I 74 8 1) 74 9 (gi I 74 4)) J) Q
          refine st_iconst (pc' := 42) dX12_fresh_41 rfl ?_
          refine st_istore_n (pc' := 43) (L' := [(1, vI 0), (0, vR (some 74))]) dX12_fresh_42 rfl rfl (by decide) rfl ?_
          refine WP_sub (L' := [(0, vR (some 74)), (1, vI 0)]) [1, 0] rfl ?_
          exact h
        · replace h := h.2 c
          change WP _ LAY m_X12_fresh 41 [(0, vR (some 74))] [] (mem (P, some 5, some 22) I J) Q
          refine st_iconst (pc' := 42) dX12_fresh_41 rfl ?_
          refine st_istore_n (pc' := 43) (L' := [(1, vI 0), (0, vR (some 74))]) dX12_fresh_42 rfl rfl (by decide) rfl ?_
          refine WP_sub (L' := [(0, vR (some 74)), (1, vI 0)]) [1, 0] rfl ?_
          exact h
      · replace h := h.2 c
        refine st_aload_n (pc' := 22) dX12_fresh_21 rfl rfl (j := 0) rfl ?_
        refine st_aload_n (pc' := 23) dX12_fresh_22 rfl rfl (j := 0) rfl ?_
        refine G_X12_32_74 dX12_fresh_23 (pc' := 26) rfl rfl ?_
        refine st_callV (pc' := 29) (kc := k - 1) (E' := LAY) (cal := m_X12_isOwn) (n := 1) (as := [vL (gl J 74 7)]) (S := []) dX12_fresh_26 rfl l_X12_298 k_X12_isOwn rfl L_74 c_X12 rfl rfl (Nat.le_of_ble_eq_true rfl) (by omega) ⟨Nat.le_refl _, Nat.le_refl _, Nat.le_refl _, Nat.le_refl _⟩ h (fun r M' q => ?_)
        obtain ⟨v1, I2, J3, rfl, rfl, h⟩ := q
        change WP _ LAY m_X12_fresh 29 [(0, vR (some 74))] [vI v1] (mem (P, some 5, some 22) I2 J3) Q
        obtain ⟨e4, h⟩ := h
        refine st_if_eq (tg := 41) (pc' := 32) dX12_fresh_29 (by decide) rfl e4 (fun c => ?_) (fun c => ?_)
        · replace h := h.1 c
          refine st_iconst (pc' := 42) dX12_fresh_41 rfl ?_
          refine st_istore_n (pc' := 43) (L' := [(1, vI 0), (0, vR (some 74))]) dX12_fresh_42 rfl rfl (by decide) rfl ?_
          refine WP_sub (L' := [(0, vR (some 74)), (1, vI 0)]) [1, 0] rfl ?_
          exact h
        · replace h := h.2 c
          refine st_aload_n (pc' := 33) dX12_fresh_32 rfl rfl (j := 0) rfl ?_
          refine st_iconst (pc' := 34) dX12_fresh_33 rfl ?_
          refine st_aload_n (pc' := 35) dX12_fresh_34 rfl rfl (j := 0) rfl ?_
          refine G_X12_23_74 dX12_fresh_35 (pc' := 38) rfl rfl ?_
          refine st_callV (pc' := 41) (kc := k - 1) (E' := LAY) (cal := m_X12_blame) (n := 2) (as := [vI 1, vI (gi I2 74 4)]) (S := []) dX12_fresh_38 rfl l_X12_287 k_X12_blame rfl L_74 c_X12 rfl rfl (Nat.le_of_ble_eq_true rfl) (by omega) ⟨Nat.le_refl _, Nat.le_refl _, Nat.le_refl _, Nat.le_refl _⟩ (Q1 := fun r M' => WP k LAY m_X12_fresh 41 [(0, vR (some 74))] (r.toList ++ []) M' Q) (WPm.of k_X12_blame.1 (Nat.le_of_ble_eq_true rfl) (B_X12_blame_0 (by omega) ?_)) (fun r M' q => q)
          refine ⟨fun c => ?_, fun c => ?_⟩
          · replace h := h.1 c
            change WP _ LAY m_X12_fresh 41 [(0, vR (some 74))] [] (mem (P, some 5, some 22) (si (si I2 74 8 1) 74 9 (gi I2 74 4)) J3) Q
            refine st_iconst (pc' := 42) dX12_fresh_41 rfl ?_
            refine st_istore_n (pc' := 43) (L' := [(1, vI 0), (0, vR (some 74))]) dX12_fresh_42 rfl rfl (by decide) rfl ?_
            refine WP_sub (L' := [(0, vR (some 74)), (1, vI 0)]) [1, 0] rfl ?_
            exact h
          · replace h := h.2 c
            change WP _ LAY m_X12_fresh 41 [(0, vR (some 74))] [] (mem (P, some 5, some 22) I2 J3) Q
            refine st_iconst (pc' := 42) dX12_fresh_41 rfl ?_
            refine st_istore_n (pc' := 43) (L' := [(1, vI 0), (0, vR (some 74))]) dX12_fresh_42 rfl rfl (by decide) rfl ?_
            refine WP_sub (L' := [(0, vR (some 74)), (1, vI 0)]) [1, 0] rfl ?_
            exact h
    · replace h := h.2 c
      refine st_lconst (pc' := 12) (z := 0) dX12_fresh_11 rfl (by decide) ?_
      exact st_lret dX12_fresh_12 rfl rfl h
  · replace h := h.2 c
    refine ⟨fun c => ?_, fun c => ?_⟩
    · replace h := h.1 c
      change WP _ LAY m_X12_fresh 4 [(0, vR (some 74))] [] (mem (P, some 5, some 22) (si (si I 74 8 1) 74 9 (gi I 74 12)) J) Q
      refine st_aload_n (pc' := 5) dX12_fresh_4 rfl rfl (j := 0) rfl ?_
      refine G_X12_36_74 dX12_fresh_5 (pc' := 8) rfl rfl ?_
      rw [show gi (si (si I 74 8 1) 74 9 (gi I 74 12)) 74 8 = 1 from ((gi_idx _ _ _ (by decide)).trans (gi_same _ _ _ (by decide)))]
      refine st_if_le (tg := 13) (pc' := 11) dX12_fresh_8 (by decide) rfl (by decide) (fun c => ?_) (fun c => ?_)
      · exact absurd c (by decide)
      · refine st_lconst (pc' := 12) (z := 0) dX12_fresh_11 rfl (by decide) ?_
        exact st_lret dX12_fresh_12 rfl rfl h
    · replace h := h.2 c
      change WP _ LAY m_X12_fresh 4 [(0, vR (some 74))] [] (mem (P, some 5, some 22) I J) Q
      refine st_aload_n (pc' := 5) dX12_fresh_4 rfl rfl (j := 0) rfl ?_
      refine G_X12_36_74 dX12_fresh_5 (pc' := 8) rfl rfl ?_
      refine st_if_le (tg := 13) (pc' := 11) dX12_fresh_8 (by decide) rfl (gi_in _ _ _) (fun c => ?_) (fun c => ?_)
      · replace h := h.1 c
        refine st_aload_n (pc' := 14) dX12_fresh_13 rfl rfl (j := 0) rfl ?_
        refine G_X12_20_74 dX12_fresh_14 (pc' := 17) rfl rfl ?_
        refine st_iconst (pc' := 18) dX12_fresh_17 rfl ?_
        refine st_icmp_ne (tg := 32) (pc' := 21) dX12_fresh_18 (by decide) rfl (gi_in _ _ _) (by decide) (fun c => ?_) (fun c => ?_)
        · replace h := h.1 c
          refine st_aload_n (pc' := 33) dX12_fresh_32 rfl rfl (j := 0) rfl ?_
          refine st_iconst (pc' := 34) dX12_fresh_33 rfl ?_
          refine st_aload_n (pc' := 35) dX12_fresh_34 rfl rfl (j := 0) rfl ?_
          refine G_X12_23_74 dX12_fresh_35 (pc' := 38) rfl rfl ?_
          refine st_callV (pc' := 41) (kc := k - 1) (E' := LAY) (cal := m_X12_blame) (n := 2) (as := [vI 1, vI (gi I 74 4)]) (S := []) dX12_fresh_38 rfl l_X12_287 k_X12_blame rfl L_74 c_X12 rfl rfl (Nat.le_of_ble_eq_true rfl) (by omega) ⟨Nat.le_refl _, Nat.le_refl _, Nat.le_refl _, Nat.le_refl _⟩ (Q1 := fun r M' => WP k LAY m_X12_fresh 41 [(0, vR (some 74))] (r.toList ++ []) M' Q) (WPm.of k_X12_blame.1 (Nat.le_of_ble_eq_true rfl) (B_X12_blame_0 (by omega) ?_)) (fun r M' q => q)
          refine ⟨fun c => ?_, fun c => ?_⟩
          · replace h := h.1 c
            change WP _ LAY m_X12_fresh 41 [(0, vR (some 74))] [] (mem (P, some 5, some 22) (si (si I 74 8 1) 74 9 (gi I 74 4)) J) Q
            refine st_iconst (pc' := 42) dX12_fresh_41 rfl ?_
            refine st_istore_n (pc' := 43) (L' := [(1, vI 0), (0, vR (some 74))]) dX12_fresh_42 rfl rfl (by decide) rfl ?_
            refine WP_sub (L' := [(0, vR (some 74)), (1, vI 0)]) [1, 0] rfl ?_
            exact h
          · replace h := h.2 c
            change WP _ LAY m_X12_fresh 41 [(0, vR (some 74))] [] (mem (P, some 5, some 22) I J) Q
            refine st_iconst (pc' := 42) dX12_fresh_41 rfl ?_
            refine st_istore_n (pc' := 43) (L' := [(1, vI 0), (0, vR (some 74))]) dX12_fresh_42 rfl rfl (by decide) rfl ?_
            refine WP_sub (L' := [(0, vR (some 74)), (1, vI 0)]) [1, 0] rfl ?_
            exact h
        · replace h := h.2 c
          refine st_aload_n (pc' := 22) dX12_fresh_21 rfl rfl (j := 0) rfl ?_
          refine st_aload_n (pc' := 23) dX12_fresh_22 rfl rfl (j := 0) rfl ?_
          refine G_X12_32_74 dX12_fresh_23 (pc' := 26) rfl rfl ?_
          refine st_callV (pc' := 29) (kc := k - 1) (E' := LAY) (cal := m_X12_isOwn) (n := 1) (as := [vL (gl J 74 7)]) (S := []) dX12_fresh_26 rfl l_X12_298 k_X12_isOwn rfl L_74 c_X12 rfl rfl (Nat.le_of_ble_eq_true rfl) (by omega) ⟨Nat.le_refl _, Nat.le_refl _, Nat.le_refl _, Nat.le_refl _⟩ h (fun r M' q => ?_)
          obtain ⟨v5, I6, J7, rfl, rfl, h⟩ := q
          change WP _ LAY m_X12_fresh 29 [(0, vR (some 74))] [vI v5] (mem (P, some 5, some 22) I6 J7) Q
          obtain ⟨e8, h⟩ := h
          refine st_if_eq (tg := 41) (pc' := 32) dX12_fresh_29 (by decide) rfl e8 (fun c => ?_) (fun c => ?_)
          · replace h := h.1 c
            refine st_iconst (pc' := 42) dX12_fresh_41 rfl ?_
            refine st_istore_n (pc' := 43) (L' := [(1, vI 0), (0, vR (some 74))]) dX12_fresh_42 rfl rfl (by decide) rfl ?_
            refine WP_sub (L' := [(0, vR (some 74)), (1, vI 0)]) [1, 0] rfl ?_
            exact h
          · replace h := h.2 c
            refine st_aload_n (pc' := 33) dX12_fresh_32 rfl rfl (j := 0) rfl ?_
            refine st_iconst (pc' := 34) dX12_fresh_33 rfl ?_
            refine st_aload_n (pc' := 35) dX12_fresh_34 rfl rfl (j := 0) rfl ?_
            refine G_X12_23_74 dX12_fresh_35 (pc' := 38) rfl rfl ?_
            refine st_callV (pc' := 41) (kc := k - 1) (E' := LAY) (cal := m_X12_blame) (n := 2) (as := [vI 1, vI (gi I6 74 4)]) (S := []) dX12_fresh_38 rfl l_X12_287 k_X12_blame rfl L_74 c_X12 rfl rfl (Nat.le_of_ble_eq_true rfl) (by omega) ⟨Nat.le_refl _, Nat.le_refl _, Nat.le_refl _, Nat.le_refl _⟩ (Q1 := fun r M' => WP k LAY m_X12_fresh 41 [(0, vR (some 74))] (r.toList ++ []) M' Q) (WPm.of k_X12_blame.1 (Nat.le_of_ble_eq_true rfl) (B_X12_blame_0 (by omega) ?_)) (fun r M' q => q)
            refine ⟨fun c => ?_, fun c => ?_⟩
            · replace h := h.1 c
              change WP _ LAY m_X12_fresh 41 [(0, vR (some 74))] [] (mem (P, some 5, some 22) (si (si I6 74 8 1) 74 9 (gi I6 74 4)) J7) Q
              refine st_iconst (pc' := 42) dX12_fresh_41 rfl ?_
              refine st_istore_n (pc' := 43) (L' := [(1, vI 0), (0, vR (some 74))]) dX12_fresh_42 rfl rfl (by decide) rfl ?_
              refine WP_sub (L' := [(0, vR (some 74)), (1, vI 0)]) [1, 0] rfl ?_
              exact h
            · replace h := h.2 c
              change WP _ LAY m_X12_fresh 41 [(0, vR (some 74))] [] (mem (P, some 5, some 22) I6 J7) Q
              refine st_iconst (pc' := 42) dX12_fresh_41 rfl ?_
              refine st_istore_n (pc' := 43) (L' := [(1, vI 0), (0, vR (some 74))]) dX12_fresh_42 rfl rfl (by decide) rfl ?_
              refine WP_sub (L' := [(0, vR (some 74)), (1, vI 0)]) [1, 0] rfl ?_
              exact h
      · replace h := h.2 c
        refine st_lconst (pc' := 12) (z := 0) dX12_fresh_11 rfl (by decide) ?_
        exact st_lret dX12_fresh_12 rfl rfl h
set_option maxRecDepth 20000 in
set_option maxHeartbeats 4000000 in
theorem B_X12_fresh_43 {k : Nat} {P : Option Nat} {I : Nat → Nat → Int32} {J : Nat → Nat → Int64} {x1 : Int} {Q : Option AV → Mem → Prop} (hk : 1 ≤ k) (h : inR x1 ∧ ((3 < x1 → ((¬ (gi I 74 8) = 0 → (Q (some (vL (gl J 74 7))) (mem (P, some 5, some 22) I J))) ∧ ((gi I 74 8) = 0 → (WPm (k - 1) LAY m_X12_ahead [vR (some 74)] (mem (P, some 5, some 22) I J) (retV (fun I3 J4 => Q (some (vL (gl J 74 7))) (mem (P, some 5, some 22) I3 J4)) (P, some 5, some 22)))))) ∧ (¬ 3 < x1 → ((¬ (gi I 74 8) = 0 → ((¬ (gi I 74 8) = 0 → (Q (some (vL (gl J 74 7))) (mem (P, some 5, some 22) I J))) ∧ ((gi I 74 8) = 0 → (WPm (k - 1) LAY m_X12_ahead [vR (some 74)] (mem (P, some 5, some 22) I J) (retV (fun I6 J7 => Q (some (vL (gl J 74 7))) (mem (P, some 5, some 22) I6 J7)) (P, some 5, some 22)))))) ∧ ((gi I 74 8) = 0 → (WPm (k - 1) LAY m_X12_named [vR (some 74), vI x1, vL (gl J 74 7)] (mem (P, some 5, some 22) I J) (retI (fun v8 I9 J10 => inR v8 ∧ ((v8 = (-1) → (WP k LAY m_X12_fresh 43 [(0, vR (some 74)), (1, vI (x1 + 1))] [] (mem (P, some 5, some 22) I9 J10) Q)) ∧ (¬ v8 = (-1) → (((gi I9 74 8) ≤ 0 → (WP k LAY m_X12_fresh 43 [(0, vR (some 74)), (1, vI (x1 + 1))] [] (mem (P, some 5, some 22) (si (si I9 74 8 2) 74 9 (gi I9 74 4)) J10) Q)) ∧ (¬ (gi I9 74 8) ≤ 0 → (WP k LAY m_X12_fresh 43 [(0, vR (some 74)), (1, vI (x1 + 1))] [] (mem (P, some 5, some 22) I9 J10) Q)))))) (P, some 5, some 22)))))))) : WP k LAY m_X12_fresh 43 [(0, vR (some 74)), (1, vI x1)] [] (mem (P, some 5, some 22) I J) Q := by
  refine st_iload_n (pc' := 44) dX12_fresh_43 rfl rfl (j := 1) rfl ?_
  refine st_iconst (pc' := 45) dX12_fresh_44 rfl ?_
  obtain ⟨e1, h⟩ := h
  refine st_icmp_gt (tg := 83) (pc' := 48) dX12_fresh_45 (by decide) rfl e1 (by decide) (fun c => ?_) (fun c => ?_)
  · replace h := h.1 c
    refine st_aload_n (pc' := 84) dX12_fresh_83 rfl rfl (j := 0) rfl ?_
    refine G_X12_32_74 dX12_fresh_84 (pc' := 87) rfl rfl ?_
    refine st_lstore_n (pc' := 88) (L' := [(1, vL (gl J 74 7)), (0, vR (some 74))]) dX12_fresh_87 rfl rfl (by decide) rfl ?_
    refine st_aload_n (pc' := 89) dX12_fresh_88 rfl rfl (j := 1) rfl ?_
    refine G_X12_36_74 dX12_fresh_89 (pc' := 92) rfl rfl ?_
    refine st_if_ne (tg := 99) (pc' := 95) dX12_fresh_92 (by decide) rfl (gi_in _ _ _) (fun c => ?_) (fun c => ?_)
    · replace h := h.1 c
      refine st_lload_n (pc' := 100) dX12_fresh_99 rfl rfl (j := 0) rfl ?_
      exact st_lret dX12_fresh_100 rfl rfl h
    · replace h := h.2 c
      refine st_aload_n (pc' := 96) dX12_fresh_95 rfl rfl (j := 1) rfl ?_
      refine st_callV (pc' := 99) (kc := k - 1) (E' := LAY) (cal := m_X12_ahead) (n := 0) (as := []) (S := []) dX12_fresh_96 rfl l_X12_308 k_X12_ahead rfl L_74 c_X12 rfl rfl (Nat.le_of_ble_eq_true rfl) (by omega) ⟨Nat.le_refl _, Nat.le_refl _, Nat.le_refl _, Nat.le_refl _⟩ h (fun r M' q => ?_)
      obtain ⟨I3, J4, rfl, rfl, h⟩ := q
      change WP _ LAY m_X12_fresh 99 [(1, vL (gl J 74 7)), (0, vR (some 74))] [] (mem (P, some 5, some 22) I3 J4) Q
      refine st_lload_n (pc' := 100) dX12_fresh_99 rfl rfl (j := 0) rfl ?_
      exact st_lret dX12_fresh_100 rfl rfl h
  · replace h := h.2 c
    refine st_aload_n (pc' := 49) dX12_fresh_48 rfl rfl (j := 0) rfl ?_
    refine G_X12_36_74 dX12_fresh_49 (pc' := 52) rfl rfl ?_
    refine st_if_ne (tg := 83) (pc' := 55) dX12_fresh_52 (by decide) rfl (gi_in _ _ _) (fun c => ?_) (fun c => ?_)
    · replace h := h.1 c
      refine st_aload_n (pc' := 84) dX12_fresh_83 rfl rfl (j := 0) rfl ?_
      refine G_X12_32_74 dX12_fresh_84 (pc' := 87) rfl rfl ?_
      refine st_lstore_n (pc' := 88) (L' := [(1, vL (gl J 74 7)), (0, vR (some 74))]) dX12_fresh_87 rfl rfl (by decide) rfl ?_
      refine st_aload_n (pc' := 89) dX12_fresh_88 rfl rfl (j := 1) rfl ?_
      refine G_X12_36_74 dX12_fresh_89 (pc' := 92) rfl rfl ?_
      refine st_if_ne (tg := 99) (pc' := 95) dX12_fresh_92 (by decide) rfl (gi_in _ _ _) (fun c => ?_) (fun c => ?_)
      · replace h := h.1 c
        refine st_lload_n (pc' := 100) dX12_fresh_99 rfl rfl (j := 0) rfl ?_
        exact st_lret dX12_fresh_100 rfl rfl h
      · replace h := h.2 c
        refine st_aload_n (pc' := 96) dX12_fresh_95 rfl rfl (j := 1) rfl ?_
        refine st_callV (pc' := 99) (kc := k - 1) (E' := LAY) (cal := m_X12_ahead) (n := 0) (as := []) (S := []) dX12_fresh_96 rfl l_X12_308 k_X12_ahead rfl L_74 c_X12 rfl rfl (Nat.le_of_ble_eq_true rfl) (by omega) ⟨Nat.le_refl _, Nat.le_refl _, Nat.le_refl _, Nat.le_refl _⟩ h (fun r M' q => ?_)
        obtain ⟨I6, J7, rfl, rfl, h⟩ := q
        change WP _ LAY m_X12_fresh 99 [(1, vL (gl J 74 7)), (0, vR (some 74))] [] (mem (P, some 5, some 22) I6 J7) Q
        refine st_lload_n (pc' := 100) dX12_fresh_99 rfl rfl (j := 0) rfl ?_
        exact st_lret dX12_fresh_100 rfl rfl h
    · replace h := h.2 c
      refine st_aload_n (pc' := 56) dX12_fresh_55 rfl rfl (j := 0) rfl ?_
      refine st_iload_n (pc' := 57) dX12_fresh_56 rfl rfl (j := 1) rfl ?_
      refine st_aload_n (pc' := 58) dX12_fresh_57 rfl rfl (j := 0) rfl ?_
      refine G_X12_32_74 dX12_fresh_58 (pc' := 61) rfl rfl ?_
      refine st_callV (pc' := 64) (kc := k - 1) (E' := LAY) (cal := m_X12_named) (n := 2) (as := [vI x1, vL (gl J 74 7)]) (S := []) dX12_fresh_61 rfl l_X12_403 k_X12_named rfl L_74 c_X12 rfl rfl (Nat.le_of_ble_eq_true rfl) (by omega) ⟨Nat.le_refl _, Nat.le_refl _, Nat.le_refl _, Nat.le_refl _⟩ h (fun r M' q => ?_)
      obtain ⟨v8, I9, J10, rfl, rfl, h⟩ := q
      change WP _ LAY m_X12_fresh 64 [(0, vR (some 74)), (1, vI x1)] [vI v8] (mem (P, some 5, some 22) I9 J10) Q
      refine st_iconst (pc' := 65) dX12_fresh_64 rfl ?_
      obtain ⟨e11, h⟩ := h
      refine st_icmp_eq (tg := 77) (pc' := 68) dX12_fresh_65 (by decide) rfl e11 (by decide) (fun c => ?_) (fun c => ?_)
      · replace h := h.1 c
        refine st_iinc (pc' := 80) (L' := [(1, vI (x1 + 1)), (0, vR (some 74))]) (j := 1) dX12_fresh_77 rfl (by decide) rfl rfl ?_
        refine st_goto (pc' := 43) dX12_fresh_80 (by decide) ?_
        refine WP_sub (L' := [(0, vR (some 74)), (1, vI (x1 + 1))]) [1, 0] rfl ?_
        exact h
      · replace h := h.2 c
        refine st_aload_n (pc' := 69) dX12_fresh_68 rfl rfl (j := 0) rfl ?_
        refine st_iconst (pc' := 70) dX12_fresh_69 rfl ?_
        refine st_aload_n (pc' := 71) dX12_fresh_70 rfl rfl (j := 0) rfl ?_
        refine G_X12_23_74 dX12_fresh_71 (pc' := 74) rfl rfl ?_
        refine st_callV (pc' := 77) (kc := k - 1) (E' := LAY) (cal := m_X12_blame) (n := 2) (as := [vI 2, vI (gi I9 74 4)]) (S := []) dX12_fresh_74 rfl l_X12_287 k_X12_blame rfl L_74 c_X12 rfl rfl (Nat.le_of_ble_eq_true rfl) (by omega) ⟨Nat.le_refl _, Nat.le_refl _, Nat.le_refl _, Nat.le_refl _⟩ (Q1 := fun r M' => WP k LAY m_X12_fresh 77 [(0, vR (some 74)), (1, vI x1)] (r.toList ++ []) M' Q) (WPm.of k_X12_blame.1 (Nat.le_of_ble_eq_true rfl) (B_X12_blame_0 (by omega) ?_)) (fun r M' q => q)
        refine ⟨fun c => ?_, fun c => ?_⟩
        · replace h := h.1 c
          change WP _ LAY m_X12_fresh 77 [(0, vR (some 74)), (1, vI x1)] [] (mem (P, some 5, some 22) (si (si I9 74 8 2) 74 9 (gi I9 74 4)) J10) Q
          refine st_iinc (pc' := 80) (L' := [(1, vI (x1 + 1)), (0, vR (some 74))]) (j := 1) dX12_fresh_77 rfl (by decide) rfl rfl ?_
          refine st_goto (pc' := 43) dX12_fresh_80 (by decide) ?_
          refine WP_sub (L' := [(0, vR (some 74)), (1, vI (x1 + 1))]) [1, 0] rfl ?_
          exact h
        · replace h := h.2 c
          change WP _ LAY m_X12_fresh 77 [(0, vR (some 74)), (1, vI x1)] [] (mem (P, some 5, some 22) I9 J10) Q
          refine st_iinc (pc' := 80) (L' := [(1, vI (x1 + 1)), (0, vR (some 74))]) (j := 1) dX12_fresh_77 rfl (by decide) rfl rfl ?_
          refine st_goto (pc' := 43) dX12_fresh_80 (by decide) ?_
          refine WP_sub (L' := [(0, vR (some 74)), (1, vI (x1 + 1))]) [1, 0] rfl ?_
          exact h
set_option maxRecDepth 20000 in
set_option maxHeartbeats 4000000 in
theorem B_X12_booking_0 {k : Nat} {P : Option Nat} {I : Nat → Nat → Int32} {J : Nat → Nat → Int64}  {Q : Option AV → Mem → Prop} (hk : 1 ≤ k) (h : (0 ≤ (gi I 74 40) ∧ (gi I 74 40) < 2) ∧ ((¬ (gi I 76 (gi I 74 40).toNat) = 5 → (WPm (k - 1) LAY m_X12_counts [vR (some 74), vI 0] (mem (P, some 5, some 22) I J) (retI (fun v2 I3 J4 => inR v2 ∧ ((¬ v2 = 0 → ((0 ≤ (gi I3 74 40) ∧ (gi I3 74 40) < 2) ∧ (WPm (k - 1) LAY m_X12_fresh [vR (some 74)] (mem (P, some 5, some 22) I3 J4) (retL (fun v7 I8 J9 => (0 ≤ ((5 * (gi I3 74 40)) + (gi I3 76 (gi I3 74 40).toNat)) ∧ ((5 * (gi I3 74 40)) + (gi I3 76 (gi I3 74 40).toNat)) < 10) ∧ ((¬ (gi I8 74 8) = 0 → (Q none (mem (P, some 5, some 22) I8 (sl J9 97 ((5 * (gi I3 74 40)) + (gi I3 76 (gi I3 74 40).toNat)).toNat v7)))) ∧ ((gi I8 74 8) = 0 → ((0 ≤ (gi I8 74 40) ∧ (gi I8 74 40) < 2) ∧ (Q none (mem (P, some 5, some 22) (si I8 76 (gi I8 74 40).toNat ((gi I8 76 (gi I8 74 40).toNat) + 1)) (sl J9 97 ((5 * (gi I3 74 40)) + (gi I3 76 (gi I3 74 40).toNat)).toNat v7))))))) (P, some 5, some 22))))) ∧ (v2 = 0 → (Q none (mem (P, some 5, some 22) I3 J4))))) (P, some 5, some 22)))) ∧ ((gi I 76 (gi I 74 40).toNat) = 5 → (WPm (k - 1) LAY m_X12_counts [vR (some 74), vI 1] (mem (P, some 5, some 22) I J) (retI (fun v12 I13 J14 => inR v12 ∧ ((¬ v12 = 0 → ((0 ≤ (gi I13 74 40) ∧ (gi I13 74 40) < 2) ∧ (WPm (k - 1) LAY m_X12_fresh [vR (some 74)] (mem (P, some 5, some 22) I13 J14) (retL (fun v17 I18 J19 => (0 ≤ ((5 * (gi I13 74 40)) + (gi I13 76 (gi I13 74 40).toNat)) ∧ ((5 * (gi I13 74 40)) + (gi I13 76 (gi I13 74 40).toNat)) < 10) ∧ ((¬ (gi I18 74 8) = 0 → (Q none (mem (P, some 5, some 22) I18 (sl J19 97 ((5 * (gi I13 74 40)) + (gi I13 76 (gi I13 74 40).toNat)).toNat v17)))) ∧ ((gi I18 74 8) = 0 → ((0 ≤ (gi I18 74 40) ∧ (gi I18 74 40) < 2) ∧ (Q none (mem (P, some 5, some 22) (si I18 76 (gi I18 74 40).toNat ((gi I18 76 (gi I18 74 40).toNat) + 1)) (sl J19 97 ((5 * (gi I13 74 40)) + (gi I13 76 (gi I13 74 40).toNat)).toNat v17))))))) (P, some 5, some 22))))) ∧ (v12 = 0 → (Q none (mem (P, some 5, some 22) I13 J14))))) (P, some 5, some 22)))))) : WP k LAY m_X12_booking 0 [(0, vR (some 74))] [] (mem (P, some 5, some 22) I J) Q := by
  refine st_aload_n (pc' := 1) dX12_booking_0 rfl rfl (j := 0) rfl ?_
  refine st_aload_n (pc' := 2) dX12_booking_1 rfl rfl (j := 0) rfl ?_
  refine G_X12_54_74 dX12_booking_2 (pc' := 5) rfl rfl ?_
  refine st_aload_n (pc' := 6) dX12_booking_5 rfl rfl (j := 0) rfl ?_
  refine G_X12_133_74 dX12_booking_6 (pc' := 9) rfl rfl ?_
  obtain ⟨e1, h⟩ := h
  refine st_iaload (pc' := 10) (v := (gi I 76 (gi I 74 40).toNat)) dX12_booking_9 rfl L_76 (by decide) e1 (show gi I 76 (gi I 74 40).toNat = (gi I 76 (gi I 74 40).toNat) from rfl) ?_
  refine st_iconst (pc' := 11) dX12_booking_10 rfl ?_
  refine st_icmp_ne (tg := 18) (pc' := 14) dX12_booking_11 (by decide) rfl (gi_in _ _ _) (by decide) (fun c => ?_) (fun c => ?_)
  · replace h := h.1 c
    refine st_iconst (pc' := 19) dX12_booking_18 rfl ?_
    refine st_callV (pc' := 22) (kc := k - 1) (E' := LAY) (cal := m_X12_counts) (n := 1) (as := [vI 0]) (S := []) dX12_booking_19 rfl l_X12_410 k_X12_counts rfl L_74 c_X12 rfl rfl (Nat.le_of_ble_eq_true rfl) (by omega) ⟨Nat.le_refl _, Nat.le_refl _, Nat.le_refl _, Nat.le_refl _⟩ h (fun r M' q => ?_)
    obtain ⟨v2, I3, J4, rfl, rfl, h⟩ := q
    change WP _ LAY m_X12_booking 22 [(0, vR (some 74))] [vI v2] (mem (P, some 5, some 22) I3 J4) Q
    obtain ⟨e5, h⟩ := h
    refine st_if_ne (tg := 26) (pc' := 25) dX12_booking_22 (by decide) rfl e5 (fun c => ?_) (fun c => ?_)
    · replace h := h.1 c
      refine st_aload_n (pc' := 27) dX12_booking_26 rfl rfl (j := 0) rfl ?_
      refine G_X12_117_74 dX12_booking_27 (pc' := 30) rfl rfl ?_
      refine st_iconst (pc' := 31) dX12_booking_30 rfl ?_
      refine st_aload_n (pc' := 32) dX12_booking_31 rfl rfl (j := 0) rfl ?_
      refine G_X12_133_74 dX12_booking_32 (pc' := 35) rfl rfl ?_
      refine st_imul (pc' := 36) dX12_booking_35 rfl ?_
      refine st_aload_n (pc' := 37) dX12_booking_36 rfl rfl (j := 0) rfl ?_
      refine G_X12_54_74 dX12_booking_37 (pc' := 40) rfl rfl ?_
      refine st_aload_n (pc' := 41) dX12_booking_40 rfl rfl (j := 0) rfl ?_
      refine G_X12_133_74 dX12_booking_41 (pc' := 44) rfl rfl ?_
      obtain ⟨e6, h⟩ := h
      refine st_iaload (pc' := 45) (v := (gi I3 76 (gi I3 74 40).toNat)) dX12_booking_44 rfl L_76 (by decide) e6 (show gi I3 76 (gi I3 74 40).toNat = (gi I3 76 (gi I3 74 40).toNat) from rfl) ?_
      refine st_iadd (pc' := 46) dX12_booking_45 rfl ?_
      refine st_aload_n (pc' := 47) dX12_booking_46 rfl rfl (j := 0) rfl ?_
      refine st_callV (pc' := 50) (kc := k - 1) (E' := LAY) (cal := m_X12_fresh) (n := 0) (as := []) (S := [vI ((5 * (gi I3 74 40)) + (gi I3 76 (gi I3 74 40).toNat)), vR (some 97)]) dX12_booking_47 rfl l_X12_414 k_X12_fresh rfl L_74 c_X12 rfl rfl (Nat.le_of_ble_eq_true rfl) (by omega) ⟨Nat.le_refl _, Nat.le_refl _, Nat.le_refl _, Nat.le_refl _⟩ h (fun r M' q => ?_)
      obtain ⟨v7, I8, J9, rfl, rfl, h⟩ := q
      change WP _ LAY m_X12_booking 50 [(0, vR (some 74))] [vL v7, vI ((5 * (gi I3 74 40)) + (gi I3 76 (gi I3 74 40).toNat)), vR (some 97)] (mem (P, some 5, some 22) I8 J9) Q
      obtain ⟨e10, h⟩ := h
      refine st_lastore (pc' := 51) (M' := (mem (P, some 5, some 22) I8 (sl J9 97 ((5 * (gi I3 74 40)) + (gi I3 76 (gi I3 74 40).toNat)).toNat v7))) dX12_booking_50 rfl L_97 (by decide) e10 rfl ?_
      refine st_aload_n (pc' := 52) dX12_booking_51 rfl rfl (j := 0) rfl ?_
      refine G_X12_36_74 dX12_booking_52 (pc' := 55) rfl rfl ?_
      refine st_if_ne (tg := 71) (pc' := 58) dX12_booking_55 (by decide) rfl (gi_in _ _ _) (fun c => ?_) (fun c => ?_)
      · replace h := h.1 c
        exact st_vret dX12_booking_71 rfl rfl h
      · replace h := h.2 c
        refine st_aload_n (pc' := 59) dX12_booking_58 rfl rfl (j := 0) rfl ?_
        refine G_X12_54_74 dX12_booking_59 (pc' := 62) rfl rfl ?_
        refine st_aload_n (pc' := 63) dX12_booking_62 rfl rfl (j := 0) rfl ?_
        refine G_X12_133_74 dX12_booking_63 (pc' := 66) rfl rfl ?_
        refine st_dup2 (pc' := 67) dX12_booking_66 rfl rfl rfl ?_
        obtain ⟨e11, h⟩ := h
        refine st_iaload (pc' := 68) (v := (gi I8 76 (gi I8 74 40).toNat)) dX12_booking_67 rfl L_76 (by decide) e11 (show gi I8 76 (gi I8 74 40).toNat = (gi I8 76 (gi I8 74 40).toNat) from rfl) ?_
        refine st_iconst (pc' := 69) dX12_booking_68 rfl ?_
        refine st_iadd (pc' := 70) dX12_booking_69 rfl ?_
        refine st_iastore (pc' := 71) (M' := (mem (P, some 5, some 22) (si I8 76 (gi I8 74 40).toNat ((gi I8 76 (gi I8 74 40).toNat) + 1)) (sl J9 97 ((5 * (gi I3 74 40)) + (gi I3 76 (gi I3 74 40).toNat)).toNat v7))) dX12_booking_70 rfl L_76 (by decide) e11 rfl ?_
        exact st_vret dX12_booking_71 rfl rfl h
    · replace h := h.2 c
      exact st_vret dX12_booking_25 rfl rfl h
  · replace h := h.2 c
    refine st_iconst (pc' := 15) dX12_booking_14 rfl ?_
    refine st_goto (pc' := 19) dX12_booking_15 (by decide) ?_
    refine st_callV (pc' := 22) (kc := k - 1) (E' := LAY) (cal := m_X12_counts) (n := 1) (as := [vI 1]) (S := []) dX12_booking_19 rfl l_X12_410 k_X12_counts rfl L_74 c_X12 rfl rfl (Nat.le_of_ble_eq_true rfl) (by omega) ⟨Nat.le_refl _, Nat.le_refl _, Nat.le_refl _, Nat.le_refl _⟩ h (fun r M' q => ?_)
    obtain ⟨v12, I13, J14, rfl, rfl, h⟩ := q
    change WP _ LAY m_X12_booking 22 [(0, vR (some 74))] [vI v12] (mem (P, some 5, some 22) I13 J14) Q
    obtain ⟨e15, h⟩ := h
    refine st_if_ne (tg := 26) (pc' := 25) dX12_booking_22 (by decide) rfl e15 (fun c => ?_) (fun c => ?_)
    · replace h := h.1 c
      refine st_aload_n (pc' := 27) dX12_booking_26 rfl rfl (j := 0) rfl ?_
      refine G_X12_117_74 dX12_booking_27 (pc' := 30) rfl rfl ?_
      refine st_iconst (pc' := 31) dX12_booking_30 rfl ?_
      refine st_aload_n (pc' := 32) dX12_booking_31 rfl rfl (j := 0) rfl ?_
      refine G_X12_133_74 dX12_booking_32 (pc' := 35) rfl rfl ?_
      refine st_imul (pc' := 36) dX12_booking_35 rfl ?_
      refine st_aload_n (pc' := 37) dX12_booking_36 rfl rfl (j := 0) rfl ?_
      refine G_X12_54_74 dX12_booking_37 (pc' := 40) rfl rfl ?_
      refine st_aload_n (pc' := 41) dX12_booking_40 rfl rfl (j := 0) rfl ?_
      refine G_X12_133_74 dX12_booking_41 (pc' := 44) rfl rfl ?_
      obtain ⟨e16, h⟩ := h
      refine st_iaload (pc' := 45) (v := (gi I13 76 (gi I13 74 40).toNat)) dX12_booking_44 rfl L_76 (by decide) e16 (show gi I13 76 (gi I13 74 40).toNat = (gi I13 76 (gi I13 74 40).toNat) from rfl) ?_
      refine st_iadd (pc' := 46) dX12_booking_45 rfl ?_
      refine st_aload_n (pc' := 47) dX12_booking_46 rfl rfl (j := 0) rfl ?_
      refine st_callV (pc' := 50) (kc := k - 1) (E' := LAY) (cal := m_X12_fresh) (n := 0) (as := []) (S := [vI ((5 * (gi I13 74 40)) + (gi I13 76 (gi I13 74 40).toNat)), vR (some 97)]) dX12_booking_47 rfl l_X12_414 k_X12_fresh rfl L_74 c_X12 rfl rfl (Nat.le_of_ble_eq_true rfl) (by omega) ⟨Nat.le_refl _, Nat.le_refl _, Nat.le_refl _, Nat.le_refl _⟩ h (fun r M' q => ?_)
      obtain ⟨v17, I18, J19, rfl, rfl, h⟩ := q
      change WP _ LAY m_X12_booking 50 [(0, vR (some 74))] [vL v17, vI ((5 * (gi I13 74 40)) + (gi I13 76 (gi I13 74 40).toNat)), vR (some 97)] (mem (P, some 5, some 22) I18 J19) Q
      obtain ⟨e20, h⟩ := h
      refine st_lastore (pc' := 51) (M' := (mem (P, some 5, some 22) I18 (sl J19 97 ((5 * (gi I13 74 40)) + (gi I13 76 (gi I13 74 40).toNat)).toNat v17))) dX12_booking_50 rfl L_97 (by decide) e20 rfl ?_
      refine st_aload_n (pc' := 52) dX12_booking_51 rfl rfl (j := 0) rfl ?_
      refine G_X12_36_74 dX12_booking_52 (pc' := 55) rfl rfl ?_
      refine st_if_ne (tg := 71) (pc' := 58) dX12_booking_55 (by decide) rfl (gi_in _ _ _) (fun c => ?_) (fun c => ?_)
      · replace h := h.1 c
        exact st_vret dX12_booking_71 rfl rfl h
      · replace h := h.2 c
        refine st_aload_n (pc' := 59) dX12_booking_58 rfl rfl (j := 0) rfl ?_
        refine G_X12_54_74 dX12_booking_59 (pc' := 62) rfl rfl ?_
        refine st_aload_n (pc' := 63) dX12_booking_62 rfl rfl (j := 0) rfl ?_
        refine G_X12_133_74 dX12_booking_63 (pc' := 66) rfl rfl ?_
        refine st_dup2 (pc' := 67) dX12_booking_66 rfl rfl rfl ?_
        obtain ⟨e21, h⟩ := h
        refine st_iaload (pc' := 68) (v := (gi I18 76 (gi I18 74 40).toNat)) dX12_booking_67 rfl L_76 (by decide) e21 (show gi I18 76 (gi I18 74 40).toNat = (gi I18 76 (gi I18 74 40).toNat) from rfl) ?_
        refine st_iconst (pc' := 69) dX12_booking_68 rfl ?_
        refine st_iadd (pc' := 70) dX12_booking_69 rfl ?_
        refine st_iastore (pc' := 71) (M' := (mem (P, some 5, some 22) (si I18 76 (gi I18 74 40).toNat ((gi I18 76 (gi I18 74 40).toNat) + 1)) (sl J19 97 ((5 * (gi I13 74 40)) + (gi I13 76 (gi I13 74 40).toNat)).toNat v17))) dX12_booking_70 rfl L_76 (by decide) e21 rfl ?_
        exact st_vret dX12_booking_71 rfl rfl h
    · replace h := h.2 c
      exact st_vret dX12_booking_25 rfl rfl h
set_option maxRecDepth 20000 in
set_option maxHeartbeats 4000000 in
theorem B_X12_pushes_0 {k : Nat} {P : Option Nat} {I : Nat → Nat → Int32} {J : Nat → Nat → Int64} {x1 : Int} {Q : Option AV → Mem → Prop} (hk : 0 ≤ k) (h : (0 ≤ (gi I 74 46) ∧ (gi I 74 46) < 20) ∧ (Q none (mem (P, some 5, some 22) (si (si (si (si (si I 101 (gi I 74 46).toNat x1) 102 (gi I 74 46).toNat 0) 103 (gi I 74 46).toNat 1) 105 (gi I 74 46).toNat (gi I 74 49)) 74 46 ((gi I 74 46) + 1)) J))) : WP k LAY m_X12_pushes 0 [(0, vR (some 74)), (1, vI x1)] [] (mem (P, some 5, some 22) I J) Q := by
  refine st_aload_n (pc' := 1) dX12_pushes_0 rfl rfl (j := 0) rfl ?_
  refine G_X12_136_74 dX12_pushes_1 (pc' := 4) rfl rfl ?_
  refine st_aload_n (pc' := 5) dX12_pushes_4 rfl rfl (j := 0) rfl ?_
  refine G_X12_152_74 dX12_pushes_5 (pc' := 8) rfl rfl ?_
  refine st_iload_n (pc' := 9) dX12_pushes_8 rfl rfl (j := 1) rfl ?_
  obtain ⟨e1, h⟩ := h
  refine st_iastore (pc' := 10) (M' := (mem (P, some 5, some 22) (si I 101 (gi I 74 46).toNat x1) J)) dX12_pushes_9 rfl L_101 (by decide) e1 rfl ?_
  refine st_aload_n (pc' := 11) dX12_pushes_10 rfl rfl (j := 0) rfl ?_
  refine G_X12_139_74 dX12_pushes_11 (pc' := 14) rfl rfl ?_
  refine st_aload_n (pc' := 15) dX12_pushes_14 rfl rfl (j := 0) rfl ?_
  refine G_X12_152_74 dX12_pushes_15 (pc' := 18) rfl rfl ?_
  rw [show gi (si I 101 (gi I 74 46).toNat x1) 74 46 = (gi I 74 46) from (gi_cell _ _ _ _ (by decide))]
  refine st_iconst (pc' := 19) dX12_pushes_18 rfl ?_
  refine st_iastore (pc' := 20) (M' := (mem (P, some 5, some 22) (si (si I 101 (gi I 74 46).toNat x1) 102 (gi I 74 46).toNat 0) J)) dX12_pushes_19 rfl L_102 (by decide) e1 rfl ?_
  refine st_aload_n (pc' := 21) dX12_pushes_20 rfl rfl (j := 0) rfl ?_
  refine G_X12_142_74 dX12_pushes_21 (pc' := 24) rfl rfl ?_
  refine st_aload_n (pc' := 25) dX12_pushes_24 rfl rfl (j := 0) rfl ?_
  refine G_X12_152_74 dX12_pushes_25 (pc' := 28) rfl rfl ?_
  rw [show gi (si (si I 101 (gi I 74 46).toNat x1) 102 (gi I 74 46).toNat 0) 74 46 = (gi I 74 46) from ((gi_cell _ _ _ _ (by decide)).trans (gi_cell _ _ _ _ (by decide)))]
  refine st_iconst (pc' := 29) dX12_pushes_28 rfl ?_
  refine st_zastore (pc' := 30) (M' := (mem (P, some 5, some 22) (si (si (si I 101 (gi I 74 46).toNat x1) 102 (gi I 74 46).toNat 0) 103 (gi I 74 46).toNat 1) J)) dX12_pushes_29 rfl L_103 (by decide) e1 (by decide) rfl ?_
  refine st_aload_n (pc' := 31) dX12_pushes_30 rfl rfl (j := 0) rfl ?_
  refine G_X12_149_74 dX12_pushes_31 (pc' := 34) rfl rfl ?_
  refine st_aload_n (pc' := 35) dX12_pushes_34 rfl rfl (j := 0) rfl ?_
  refine G_X12_152_74 dX12_pushes_35 (pc' := 38) rfl rfl ?_
  rw [show gi (si (si (si I 101 (gi I 74 46).toNat x1) 102 (gi I 74 46).toNat 0) 103 (gi I 74 46).toNat 1) 74 46 = (gi I 74 46) from ((gi_cell _ _ _ _ (by decide)).trans ((gi_cell _ _ _ _ (by decide)).trans (gi_cell _ _ _ _ (by decide))))]
  refine st_aload_n (pc' := 39) dX12_pushes_38 rfl rfl (j := 0) rfl ?_
  refine G_X12_161_74 dX12_pushes_39 (pc' := 42) rfl rfl ?_
  rw [show gi (si (si (si I 101 (gi I 74 46).toNat x1) 102 (gi I 74 46).toNat 0) 103 (gi I 74 46).toNat 1) 74 49 = (gi I 74 49) from ((gi_cell _ _ _ _ (by decide)).trans ((gi_cell _ _ _ _ (by decide)).trans (gi_cell _ _ _ _ (by decide))))]
  refine st_iastore (pc' := 43) (M' := (mem (P, some 5, some 22) (si (si (si (si I 101 (gi I 74 46).toNat x1) 102 (gi I 74 46).toNat 0) 103 (gi I 74 46).toNat 1) 105 (gi I 74 46).toNat (gi I 74 49)) J)) dX12_pushes_42 rfl L_105 (by decide) e1 rfl ?_
  refine st_aload_n (pc' := 44) dX12_pushes_43 rfl rfl (j := 0) rfl ?_
  refine st_dup (pc' := 45) dX12_pushes_44 rfl rfl ?_
  refine G_X12_152_74 dX12_pushes_45 (pc' := 48) rfl rfl ?_
  rw [show gi (si (si (si (si I 101 (gi I 74 46).toNat x1) 102 (gi I 74 46).toNat 0) 103 (gi I 74 46).toNat 1) 105 (gi I 74 46).toNat (gi I 74 49)) 74 46 = (gi I 74 46) from ((gi_cell _ _ _ _ (by decide)).trans ((gi_cell _ _ _ _ (by decide)).trans ((gi_cell _ _ _ _ (by decide)).trans (gi_cell _ _ _ _ (by decide)))))]
  refine st_iconst (pc' := 49) dX12_pushes_48 rfl ?_
  refine st_iadd (pc' := 50) dX12_pushes_49 rfl ?_
  refine P_X12_152_74 dX12_pushes_50 (pc' := 53) rfl rfl ?_
  exact st_vret dX12_pushes_53 rfl rfl h
set_option maxRecDepth 20000 in
set_option maxHeartbeats 4000000 in
theorem B_X12_holdsBack_0 {k : Nat} {P : Option Nat} {I : Nat → Nat → Int32} {J : Nat → Nat → Int64} {x1 : Int} {Q : Option AV → Mem → Prop} (hk : 0 ≤ k) (h : (0 ≤ (gi I 74 49) ∧ (gi I 74 49) < 500) ∧ (Q none (mem (P, some 5, some 22) (si (si I 106 (gi I 74 49).toNat x1) 74 49 ((gi I 74 49) + 1)) J))) : WP k LAY m_X12_holdsBack 0 [(0, vR (some 74)), (1, vI x1)] [] (mem (P, some 5, some 22) I J) Q := by
  refine st_aload_n (pc' := 1) dX12_holdsBack_0 rfl rfl (j := 0) rfl ?_
  refine G_X12_158_74 dX12_holdsBack_1 (pc' := 4) rfl rfl ?_
  refine st_aload_n (pc' := 5) dX12_holdsBack_4 rfl rfl (j := 0) rfl ?_
  refine G_X12_161_74 dX12_holdsBack_5 (pc' := 8) rfl rfl ?_
  refine st_iload_n (pc' := 9) dX12_holdsBack_8 rfl rfl (j := 1) rfl ?_
  obtain ⟨e1, h⟩ := h
  refine st_iastore (pc' := 10) (M' := (mem (P, some 5, some 22) (si I 106 (gi I 74 49).toNat x1) J)) dX12_holdsBack_9 rfl L_106 (by decide) e1 rfl ?_
  refine st_aload_n (pc' := 11) dX12_holdsBack_10 rfl rfl (j := 0) rfl ?_
  refine st_dup (pc' := 12) dX12_holdsBack_11 rfl rfl ?_
  refine G_X12_161_74 dX12_holdsBack_12 (pc' := 15) rfl rfl ?_
  rw [show gi (si I 106 (gi I 74 49).toNat x1) 74 49 = (gi I 74 49) from (gi_cell _ _ _ _ (by decide))]
  refine st_iconst (pc' := 16) dX12_holdsBack_15 rfl ?_
  refine st_iadd (pc' := 17) dX12_holdsBack_16 rfl ?_
  refine P_X12_161_74 dX12_holdsBack_17 (pc' := 20) rfl rfl ?_
  exact st_vret dX12_holdsBack_20 rfl rfl h
set_option maxRecDepth 20000 in
set_option maxHeartbeats 4000000 in
theorem B_X12_opens_0 {k : Nat} {P : Option Nat} {I : Nat → Nat → Int32} {J : Nat → Nat → Int64} {x1 : Int} {Q : Option AV → Mem → Prop} (hk : 1 ≤ k) (h : (¬ (gi I 74 47) = 7 → (((gi I 74 8) ≤ 0 → (WPm (k - 1) LAY m_X12_ahead [vR (some 74)] (mem (P, some 5, some 22) (si I 74 47 ((gi I 74 47) + 1)) J) (retV (fun I2 J3 => (0 ≤ (gi I2 74 46) ∧ (gi I2 74 46) < 20) ∧ (Q none (mem (P, some 5, some 22) (si (si (si (si (si I2 101 (gi I2 74 46).toNat x1) 102 (gi I2 74 46).toNat 0) 103 (gi I2 74 46).toNat 1) 105 (gi I2 74 46).toNat (gi I2 74 49)) 74 46 ((gi I2 74 46) + 1)) J3))) (P, some 5, some 22)))) ∧ (¬ (gi I 74 8) ≤ 0 → (Q none (mem (P, some 5, some 22) I J))))) ∧ ((gi I 74 47) = 7 → (((gi I 74 8) ≤ 0 → (Q none (mem (P, some 5, some 22) (si (si I 74 8 5) 74 9 (gi I 74 4)) J))) ∧ (¬ (gi I 74 8) ≤ 0 → (((gi I 74 8) ≤ 0 → (WPm (k - 1) LAY m_X12_ahead [vR (some 74)] (mem (P, some 5, some 22) (si I 74 47 ((gi I 74 47) + 1)) J) (retV (fun I6 J7 => (0 ≤ (gi I6 74 46) ∧ (gi I6 74 46) < 20) ∧ (Q none (mem (P, some 5, some 22) (si (si (si (si (si I6 101 (gi I6 74 46).toNat x1) 102 (gi I6 74 46).toNat 0) 103 (gi I6 74 46).toNat 1) 105 (gi I6 74 46).toNat (gi I6 74 49)) 74 46 ((gi I6 74 46) + 1)) J7))) (P, some 5, some 22)))) ∧ (¬ (gi I 74 8) ≤ 0 → (Q none (mem (P, some 5, some 22) I J)))))))) : WP k LAY m_X12_opens 0 [(0, vR (some 74)), (1, vI x1)] [] (mem (P, some 5, some 22) I J) Q := by
  refine st_aload_n (pc' := 1) dX12_opens_0 rfl rfl (j := 0) rfl ?_
  refine G_X12_155_74 dX12_opens_1 (pc' := 4) rfl rfl ?_
  refine st_bipush (pc' := 6) dX12_opens_4 rfl (by decide) ?_
  refine st_icmp_ne (tg := 18) (pc' := 9) dX12_opens_6 (by decide) rfl (gi_in _ _ _) (by decide) (fun c => ?_) (fun c => ?_)
  · replace h := h.1 c
    refine st_aload_n (pc' := 19) dX12_opens_18 rfl rfl (j := 0) rfl ?_
    refine G_X12_36_74 dX12_opens_19 (pc' := 22) rfl rfl ?_
    refine st_if_le (tg := 26) (pc' := 25) dX12_opens_22 (by decide) rfl (gi_in _ _ _) (fun c => ?_) (fun c => ?_)
    · replace h := h.1 c
      refine st_aload_n (pc' := 27) dX12_opens_26 rfl rfl (j := 0) rfl ?_
      refine st_dup (pc' := 28) dX12_opens_27 rfl rfl ?_
      refine G_X12_155_74 dX12_opens_28 (pc' := 31) rfl rfl ?_
      refine st_iconst (pc' := 32) dX12_opens_31 rfl ?_
      refine st_iadd (pc' := 33) dX12_opens_32 rfl ?_
      refine P_X12_155_74 dX12_opens_33 (pc' := 36) rfl rfl ?_
      refine st_aload_n (pc' := 37) dX12_opens_36 rfl rfl (j := 0) rfl ?_
      refine st_callV (pc' := 40) (kc := k - 1) (E' := LAY) (cal := m_X12_ahead) (n := 0) (as := []) (S := []) dX12_opens_37 rfl l_X12_308 k_X12_ahead rfl L_74 c_X12 rfl rfl (Nat.le_of_ble_eq_true rfl) (by omega) ⟨Nat.le_refl _, Nat.le_refl _, Nat.le_refl _, Nat.le_refl _⟩ h (fun r M' q => ?_)
      obtain ⟨I2, J3, rfl, rfl, h⟩ := q
      change WP _ LAY m_X12_opens 40 [(0, vR (some 74)), (1, vI x1)] [] (mem (P, some 5, some 22) I2 J3) Q
      refine st_aload_n (pc' := 41) dX12_opens_40 rfl rfl (j := 0) rfl ?_
      refine st_iload_n (pc' := 42) dX12_opens_41 rfl rfl (j := 1) rfl ?_
      refine st_callV (pc' := 45) (kc := k - 1) (E' := LAY) (cal := m_X12_pushes) (n := 1) (as := [vI x1]) (S := []) dX12_opens_42 rfl l_X12_379 k_X12_pushes rfl L_74 c_X12 rfl rfl (Nat.le_of_ble_eq_true rfl) (by omega) ⟨Nat.le_refl _, Nat.le_refl _, Nat.le_refl _, Nat.le_refl _⟩ (Q1 := fun r M' => WP k LAY m_X12_opens 45 [(0, vR (some 74)), (1, vI x1)] (r.toList ++ []) M' Q) (WPm.of k_X12_pushes.1 (Nat.le_of_ble_eq_true rfl) (B_X12_pushes_0 (by omega) ?_)) (fun r M' q => q)
      obtain ⟨e4, h⟩ := h
      refine ⟨e4, ?_⟩
      change WP _ LAY m_X12_opens 45 [(0, vR (some 74)), (1, vI x1)] [] (mem (P, some 5, some 22) (si (si (si (si (si I2 101 (gi I2 74 46).toNat x1) 102 (gi I2 74 46).toNat 0) 103 (gi I2 74 46).toNat 1) 105 (gi I2 74 46).toNat (gi I2 74 49)) 74 46 ((gi I2 74 46) + 1)) J3) Q
      exact st_vret dX12_opens_45 rfl rfl h
    · replace h := h.2 c
      exact st_vret dX12_opens_25 rfl rfl h
  · replace h := h.2 c
    refine st_aload_n (pc' := 10) dX12_opens_9 rfl rfl (j := 0) rfl ?_
    refine st_iconst (pc' := 11) dX12_opens_10 rfl ?_
    refine st_aload_n (pc' := 12) dX12_opens_11 rfl rfl (j := 0) rfl ?_
    refine G_X12_23_74 dX12_opens_12 (pc' := 15) rfl rfl ?_
    refine st_callV (pc' := 18) (kc := k - 1) (E' := LAY) (cal := m_X12_blame) (n := 2) (as := [vI 5, vI (gi I 74 4)]) (S := []) dX12_opens_15 rfl l_X12_287 k_X12_blame rfl L_74 c_X12 rfl rfl (Nat.le_of_ble_eq_true rfl) (by omega) ⟨Nat.le_refl _, Nat.le_refl _, Nat.le_refl _, Nat.le_refl _⟩ (Q1 := fun r M' => WP k LAY m_X12_opens 18 [(0, vR (some 74)), (1, vI x1)] (r.toList ++ []) M' Q) (WPm.of k_X12_blame.1 (Nat.le_of_ble_eq_true rfl) (B_X12_blame_0 (by omega) ?_)) (fun r M' q => q)
    refine ⟨fun c => ?_, fun c => ?_⟩
    · replace h := h.1 c
      change WP _ LAY m_X12_opens 18 [(0, vR (some 74)), (1, vI x1)] [] (mem (P, some 5, some 22) (si (si I 74 8 5) 74 9 (gi I 74 4)) J) Q
      refine st_aload_n (pc' := 19) dX12_opens_18 rfl rfl (j := 0) rfl ?_
      refine G_X12_36_74 dX12_opens_19 (pc' := 22) rfl rfl ?_
      rw [show gi (si (si I 74 8 5) 74 9 (gi I 74 4)) 74 8 = 5 from ((gi_idx _ _ _ (by decide)).trans (gi_same _ _ _ (by decide)))]
      refine st_if_le (tg := 26) (pc' := 25) dX12_opens_22 (by decide) rfl (by decide) (fun c => ?_) (fun c => ?_)
      · exact absurd c (by decide)
      · exact st_vret dX12_opens_25 rfl rfl h
    · replace h := h.2 c
      change WP _ LAY m_X12_opens 18 [(0, vR (some 74)), (1, vI x1)] [] (mem (P, some 5, some 22) I J) Q
      refine st_aload_n (pc' := 19) dX12_opens_18 rfl rfl (j := 0) rfl ?_
      refine G_X12_36_74 dX12_opens_19 (pc' := 22) rfl rfl ?_
      refine st_if_le (tg := 26) (pc' := 25) dX12_opens_22 (by decide) rfl (gi_in _ _ _) (fun c => ?_) (fun c => ?_)
      · replace h := h.1 c
        refine st_aload_n (pc' := 27) dX12_opens_26 rfl rfl (j := 0) rfl ?_
        refine st_dup (pc' := 28) dX12_opens_27 rfl rfl ?_
        refine G_X12_155_74 dX12_opens_28 (pc' := 31) rfl rfl ?_
        refine st_iconst (pc' := 32) dX12_opens_31 rfl ?_
        refine st_iadd (pc' := 33) dX12_opens_32 rfl ?_
        refine P_X12_155_74 dX12_opens_33 (pc' := 36) rfl rfl ?_
        refine st_aload_n (pc' := 37) dX12_opens_36 rfl rfl (j := 0) rfl ?_
        refine st_callV (pc' := 40) (kc := k - 1) (E' := LAY) (cal := m_X12_ahead) (n := 0) (as := []) (S := []) dX12_opens_37 rfl l_X12_308 k_X12_ahead rfl L_74 c_X12 rfl rfl (Nat.le_of_ble_eq_true rfl) (by omega) ⟨Nat.le_refl _, Nat.le_refl _, Nat.le_refl _, Nat.le_refl _⟩ h (fun r M' q => ?_)
        obtain ⟨I6, J7, rfl, rfl, h⟩ := q
        change WP _ LAY m_X12_opens 40 [(0, vR (some 74)), (1, vI x1)] [] (mem (P, some 5, some 22) I6 J7) Q
        refine st_aload_n (pc' := 41) dX12_opens_40 rfl rfl (j := 0) rfl ?_
        refine st_iload_n (pc' := 42) dX12_opens_41 rfl rfl (j := 1) rfl ?_
        refine st_callV (pc' := 45) (kc := k - 1) (E' := LAY) (cal := m_X12_pushes) (n := 1) (as := [vI x1]) (S := []) dX12_opens_42 rfl l_X12_379 k_X12_pushes rfl L_74 c_X12 rfl rfl (Nat.le_of_ble_eq_true rfl) (by omega) ⟨Nat.le_refl _, Nat.le_refl _, Nat.le_refl _, Nat.le_refl _⟩ (Q1 := fun r M' => WP k LAY m_X12_opens 45 [(0, vR (some 74)), (1, vI x1)] (r.toList ++ []) M' Q) (WPm.of k_X12_pushes.1 (Nat.le_of_ble_eq_true rfl) (B_X12_pushes_0 (by omega) ?_)) (fun r M' q => q)
        obtain ⟨e8, h⟩ := h
        refine ⟨e8, ?_⟩
        change WP _ LAY m_X12_opens 45 [(0, vR (some 74)), (1, vI x1)] [] (mem (P, some 5, some 22) (si (si (si (si (si I6 101 (gi I6 74 46).toNat x1) 102 (gi I6 74 46).toNat 0) 103 (gi I6 74 46).toNat 1) 105 (gi I6 74 46).toNat (gi I6 74 49)) 74 46 ((gi I6 74 46) + 1)) J7) Q
        exact st_vret dX12_opens_45 rfl rfl h
      · replace h := h.2 c
        exact st_vret dX12_opens_25 rfl rfl h
set_option maxRecDepth 20000 in
set_option maxHeartbeats 4000000 in
theorem B_X12_operand_0 {k : Nat} {P : Option Nat} {I : Nat → Nat → Int32} {J : Nat → Nat → Int64}  {Q : Option AV → Mem → Prop} (hk : 2 ≤ k) (h : ((gi I 74 12) = (-1) → (((gi I 74 8) ≤ 0 → ((0 ≤ ((gi I 74 46) - 1) ∧ ((gi I 74 46) - 1) < 20) ∧ ((¬ ((gi I 101 ((gi I 74 46) - 1).toNat) = 1 ∨ (gi I 101 ((gi I 74 46) - 1).toNat) = 5) → (WP k LAY m_X12_operand 46 [(0, vR (some 74)), (1, vI ((gi I 74 46) - 1))] [vI 0] (mem (P, some 5, some 22) I J) Q)) ∧ (((gi I 101 ((gi I 74 46) - 1).toNat) = 1 ∨ (gi I 101 ((gi I 74 46) - 1).toNat) = 5) → (((gi I 103 ((gi I 74 46) - 1).toNat) = 0 → (WP k LAY m_X12_operand 46 [(0, vR (some 74)), (1, vI ((gi I 74 46) - 1))] [vI 0] (mem (P, some 5, some 22) I J) Q)) ∧ (¬ (gi I 103 ((gi I 74 46) - 1).toNat) = 0 → (WP k LAY m_X12_operand 46 [(0, vR (some 74)), (1, vI ((gi I 74 46) - 1))] [vI 1] (mem (P, some 5, some 22) I J) Q))))))) ∧ (¬ (gi I 74 8) ≤ 0 → (Q (some (vI 1)) (mem (P, some 5, some 22) I J))))) ∧ (¬ (gi I 74 12) = (-1) → (((gi I 74 8) ≤ 0 → (Q (some (vI 1)) (mem (P, some 5, some 22) (si (si I 74 8 1) 74 9 (gi I 74 12)) J))) ∧ (¬ (gi I 74 8) ≤ 0 → (((gi I 74 8) ≤ 0 → ((0 ≤ ((gi I 74 46) - 1) ∧ ((gi I 74 46) - 1) < 20) ∧ ((¬ ((gi I 101 ((gi I 74 46) - 1).toNat) = 1 ∨ (gi I 101 ((gi I 74 46) - 1).toNat) = 5) → (WP k LAY m_X12_operand 46 [(0, vR (some 74)), (1, vI ((gi I 74 46) - 1))] [vI 0] (mem (P, some 5, some 22) I J) Q)) ∧ (((gi I 101 ((gi I 74 46) - 1).toNat) = 1 ∨ (gi I 101 ((gi I 74 46) - 1).toNat) = 5) → (((gi I 103 ((gi I 74 46) - 1).toNat) = 0 → (WP k LAY m_X12_operand 46 [(0, vR (some 74)), (1, vI ((gi I 74 46) - 1))] [vI 0] (mem (P, some 5, some 22) I J) Q)) ∧ (¬ (gi I 103 ((gi I 74 46) - 1).toNat) = 0 → (WP k LAY m_X12_operand 46 [(0, vR (some 74)), (1, vI ((gi I 74 46) - 1))] [vI 1] (mem (P, some 5, some 22) I J) Q))))))) ∧ (¬ (gi I 74 8) ≤ 0 → (Q (some (vI 1)) (mem (P, some 5, some 22) I J)))))))) : WP k LAY m_X12_operand 0 [(0, vR (some 74))] [] (mem (P, some 5, some 22) I J) Q := by
  refine st_aload_n (pc' := 1) dX12_operand_0 rfl rfl (j := 0) rfl ?_
  refine st_callV (pc' := 4) (kc := k - 1) (E' := LAY) (cal := m_X12_lex) (n := 0) (as := []) (S := []) dX12_operand_1 rfl l_X12_302 k_X12_lex rfl L_74 c_X12 rfl rfl (Nat.le_of_ble_eq_true rfl) (by omega) ⟨Nat.le_refl _, Nat.le_refl _, Nat.le_refl _, Nat.le_refl _⟩ (Q1 := fun r M' => WP k LAY m_X12_operand 4 [(0, vR (some 74))] (r.toList ++ []) M' Q) (WPm.of k_X12_lex.1 (Nat.le_of_ble_eq_true rfl) (B_X12_lex_0 (by omega) ?_)) (fun r M' q => q)
  refine ⟨fun c => ?_, fun c => ?_⟩
  · replace h := h.1 c
    change WP _ LAY m_X12_operand 4 [(0, vR (some 74))] [] (mem (P, some 5, some 22) I J) Q
    refine st_aload_n (pc' := 5) dX12_operand_4 rfl rfl (j := 0) rfl ?_
    refine G_X12_36_74 dX12_operand_5 (pc' := 8) rfl rfl ?_
    refine st_if_le (tg := 13) (pc' := 11) dX12_operand_8 (by decide) rfl (gi_in _ _ _) (fun c => ?_) (fun c => ?_)
    · replace h := h.1 c
      refine st_aload_n (pc' := 14) dX12_operand_13 rfl rfl (j := 0) rfl ?_
      refine G_X12_152_74 dX12_operand_14 (pc' := 17) rfl rfl ?_
      refine st_iconst (pc' := 18) dX12_operand_17 rfl ?_
      refine st_isub (pc' := 19) dX12_operand_18 rfl ?_
      refine st_istore_n (pc' := 20) (L' := [(1, vI ((gi I 74 46) - 1)), (0, vR (some 74))]) dX12_operand_19 rfl rfl (by decide) rfl ?_
      refine st_aload_n (pc' := 21) dX12_operand_20 rfl rfl (j := 1) rfl ?_
      refine G_X12_136_74 dX12_operand_21 (pc' := 24) rfl rfl ?_
      refine st_iload_n (pc' := 25) dX12_operand_24 rfl rfl (j := 0) rfl ?_
      obtain ⟨e1, h⟩ := h
      refine st_iaload (pc' := 26) (v := (gi I 101 ((gi I 74 46) - 1).toNat)) dX12_operand_25 rfl L_101 (by decide) e1 (show gi I 101 ((gi I 74 46) - 1).toNat = (gi I 101 ((gi I 74 46) - 1).toNat) from rfl) ?_
      refine st_callS (pc' := 29) (kc := k - 1) (E' := LAY) (cal := m_X12_isTest) (n := 1) (as := [vI (gi I 101 ((gi I 74 46) - 1).toNat)]) (S := []) dX12_operand_26 rfl l_X12_382 k_X12_isTest rfl rfl (Nat.le_of_ble_eq_true rfl) (by omega) ⟨Nat.le_refl _, Nat.le_refl _, Nat.le_refl _, Nat.le_refl _⟩ (Q1 := fun r M' => WP k LAY m_X12_operand 29 [(1, vI ((gi I 74 46) - 1)), (0, vR (some 74))] (r.toList ++ []) M' Q) (S_X12_isTest (by omega) (gi_in _ _ _) ?_) (fun r M' q => q)
      change WP _ LAY m_X12_operand 29 [(1, vI ((gi I 74 46) - 1)), (0, vR (some 74))] [vI (b2i ((gi I 101 ((gi I 74 46) - 1).toNat) = 1 ∨ (gi I 101 ((gi I 74 46) - 1).toNat) = 5))] (mem (P, some 5, some 22) I J) Q
      refine st_if_eq (tg := 45) (pc' := 32) dX12_operand_29 (by decide) rfl (b2i_in _) (fun c => ?_) (fun c => ?_)
      · replace h := h.1 (b2i_f.mp c)
        refine st_iconst (pc' := 46) dX12_operand_45 rfl ?_
        refine WP_sub (L' := [(0, vR (some 74)), (1, vI ((gi I 74 46) - 1))]) [1, 0] rfl ?_
        exact h
      · replace h := h.2 (b2i_t.mp c)
        refine st_aload_n (pc' := 33) dX12_operand_32 rfl rfl (j := 1) rfl ?_
        refine G_X12_142_74 dX12_operand_33 (pc' := 36) rfl rfl ?_
        refine st_iload_n (pc' := 37) dX12_operand_36 rfl rfl (j := 0) rfl ?_
        refine st_zaload (pc' := 38) (v := (gi I 103 ((gi I 74 46) - 1).toNat)) dX12_operand_37 rfl L_103 (by decide) e1 (show gi I 103 ((gi I 74 46) - 1).toNat = (gi I 103 ((gi I 74 46) - 1).toNat) from rfl) ?_
        refine st_if_eq (tg := 45) (pc' := 41) dX12_operand_38 (by decide) rfl (gi_in _ _ _) (fun c => ?_) (fun c => ?_)
        · replace h := h.1 c
          refine st_iconst (pc' := 46) dX12_operand_45 rfl ?_
          refine WP_sub (L' := [(0, vR (some 74)), (1, vI ((gi I 74 46) - 1))]) [1, 0] rfl ?_
          exact h
        · replace h := h.2 c
          refine st_iconst (pc' := 42) dX12_operand_41 rfl ?_
          refine st_goto (pc' := 46) dX12_operand_42 (by decide) ?_
          refine WP_sub (L' := [(0, vR (some 74)), (1, vI ((gi I 74 46) - 1))]) [1, 0] rfl ?_
          exact h
    · replace h := h.2 c
      refine st_iconst (pc' := 12) dX12_operand_11 rfl ?_
      exact st_iret (ty := .boolean) dX12_operand_12 rfl (by decide) rfl h
  · replace h := h.2 c
    refine ⟨fun c => ?_, fun c => ?_⟩
    · replace h := h.1 c
      change WP _ LAY m_X12_operand 4 [(0, vR (some 74))] [] (mem (P, some 5, some 22) (si (si I 74 8 1) 74 9 (gi I 74 12)) J) Q
      refine st_aload_n (pc' := 5) dX12_operand_4 rfl rfl (j := 0) rfl ?_
      refine G_X12_36_74 dX12_operand_5 (pc' := 8) rfl rfl ?_
      rw [show gi (si (si I 74 8 1) 74 9 (gi I 74 12)) 74 8 = 1 from ((gi_idx _ _ _ (by decide)).trans (gi_same _ _ _ (by decide)))]
      refine st_if_le (tg := 13) (pc' := 11) dX12_operand_8 (by decide) rfl (by decide) (fun c => ?_) (fun c => ?_)
      · exact absurd c (by decide)
      · refine st_iconst (pc' := 12) dX12_operand_11 rfl ?_
        exact st_iret (ty := .boolean) dX12_operand_12 rfl (by decide) rfl h
    · replace h := h.2 c
      change WP _ LAY m_X12_operand 4 [(0, vR (some 74))] [] (mem (P, some 5, some 22) I J) Q
      refine st_aload_n (pc' := 5) dX12_operand_4 rfl rfl (j := 0) rfl ?_
      refine G_X12_36_74 dX12_operand_5 (pc' := 8) rfl rfl ?_
      refine st_if_le (tg := 13) (pc' := 11) dX12_operand_8 (by decide) rfl (gi_in _ _ _) (fun c => ?_) (fun c => ?_)
      · replace h := h.1 c
        refine st_aload_n (pc' := 14) dX12_operand_13 rfl rfl (j := 0) rfl ?_
        refine G_X12_152_74 dX12_operand_14 (pc' := 17) rfl rfl ?_
        refine st_iconst (pc' := 18) dX12_operand_17 rfl ?_
        refine st_isub (pc' := 19) dX12_operand_18 rfl ?_
        refine st_istore_n (pc' := 20) (L' := [(1, vI ((gi I 74 46) - 1)), (0, vR (some 74))]) dX12_operand_19 rfl rfl (by decide) rfl ?_
        refine st_aload_n (pc' := 21) dX12_operand_20 rfl rfl (j := 1) rfl ?_
        refine G_X12_136_74 dX12_operand_21 (pc' := 24) rfl rfl ?_
        refine st_iload_n (pc' := 25) dX12_operand_24 rfl rfl (j := 0) rfl ?_
        obtain ⟨e2, h⟩ := h
        refine st_iaload (pc' := 26) (v := (gi I 101 ((gi I 74 46) - 1).toNat)) dX12_operand_25 rfl L_101 (by decide) e2 (show gi I 101 ((gi I 74 46) - 1).toNat = (gi I 101 ((gi I 74 46) - 1).toNat) from rfl) ?_
        refine st_callS (pc' := 29) (kc := k - 1) (E' := LAY) (cal := m_X12_isTest) (n := 1) (as := [vI (gi I 101 ((gi I 74 46) - 1).toNat)]) (S := []) dX12_operand_26 rfl l_X12_382 k_X12_isTest rfl rfl (Nat.le_of_ble_eq_true rfl) (by omega) ⟨Nat.le_refl _, Nat.le_refl _, Nat.le_refl _, Nat.le_refl _⟩ (Q1 := fun r M' => WP k LAY m_X12_operand 29 [(1, vI ((gi I 74 46) - 1)), (0, vR (some 74))] (r.toList ++ []) M' Q) (S_X12_isTest (by omega) (gi_in _ _ _) ?_) (fun r M' q => q)
        change WP _ LAY m_X12_operand 29 [(1, vI ((gi I 74 46) - 1)), (0, vR (some 74))] [vI (b2i ((gi I 101 ((gi I 74 46) - 1).toNat) = 1 ∨ (gi I 101 ((gi I 74 46) - 1).toNat) = 5))] (mem (P, some 5, some 22) I J) Q
        refine st_if_eq (tg := 45) (pc' := 32) dX12_operand_29 (by decide) rfl (b2i_in _) (fun c => ?_) (fun c => ?_)
        · replace h := h.1 (b2i_f.mp c)
          refine st_iconst (pc' := 46) dX12_operand_45 rfl ?_
          refine WP_sub (L' := [(0, vR (some 74)), (1, vI ((gi I 74 46) - 1))]) [1, 0] rfl ?_
          exact h
        · replace h := h.2 (b2i_t.mp c)
          refine st_aload_n (pc' := 33) dX12_operand_32 rfl rfl (j := 1) rfl ?_
          refine G_X12_142_74 dX12_operand_33 (pc' := 36) rfl rfl ?_
          refine st_iload_n (pc' := 37) dX12_operand_36 rfl rfl (j := 0) rfl ?_
          refine st_zaload (pc' := 38) (v := (gi I 103 ((gi I 74 46) - 1).toNat)) dX12_operand_37 rfl L_103 (by decide) e2 (show gi I 103 ((gi I 74 46) - 1).toNat = (gi I 103 ((gi I 74 46) - 1).toNat) from rfl) ?_
          refine st_if_eq (tg := 45) (pc' := 41) dX12_operand_38 (by decide) rfl (gi_in _ _ _) (fun c => ?_) (fun c => ?_)
          · replace h := h.1 c
            refine st_iconst (pc' := 46) dX12_operand_45 rfl ?_
            refine WP_sub (L' := [(0, vR (some 74)), (1, vI ((gi I 74 46) - 1))]) [1, 0] rfl ?_
            exact h
          · replace h := h.2 c
            refine st_iconst (pc' := 42) dX12_operand_41 rfl ?_
            refine st_goto (pc' := 46) dX12_operand_42 (by decide) ?_
            refine WP_sub (L' := [(0, vR (some 74)), (1, vI ((gi I 74 46) - 1))]) [1, 0] rfl ?_
            exact h
      · replace h := h.2 c
        refine st_iconst (pc' := 12) dX12_operand_11 rfl ?_
        exact st_iret (ty := .boolean) dX12_operand_12 rfl (by decide) rfl h
set_option maxRecDepth 20000 in
set_option maxHeartbeats 4000000 in
theorem B_X12_operand_46 {k : Nat} {P : Option Nat} {I : Nat → Nat → Int32} {J : Nat → Nat → Int64} {x1 : Int} {s0 : Int} {Q : Option AV → Mem → Prop} (hk : 1 ≤ k) (h : inR s0 ∧ ((s0 = 0 → (WP k LAY m_X12_operand 110 [(0, vR (some 74)), (1, vI x1), (2, vI s0)] [] (mem (P, some 5, some 22) I J) Q)) ∧ (¬ s0 = 0 → ((¬ (gi I 74 3 = 1 ∧ gl J 74 7 = 7237492) → (WP k LAY m_X12_operand 110 [(0, vR (some 74)), (1, vI x1), (2, vI s0)] [] (mem (P, some 5, some 22) I J) Q)) ∧ ((gi I 74 3 = 1 ∧ gl J 74 7 = 7237492) → ((¬ (gi I 74 47) = 7 → (((gi I 74 8) ≤ 0 → ((0 ≤ (gi (si I 74 47 ((gi I 74 47) + 1)) 74 49) ∧ (gi (si I 74 47 ((gi I 74 47) + 1)) 74 49) < 500) ∧ (WPm (k - 1) LAY m_X12_ahead [vR (some 74)] (mem (P, some 5, some 22) (si (si (si I 74 47 ((gi I 74 47) + 1)) 106 (gi (si I 74 47 ((gi I 74 47) + 1)) 74 49).toNat 22) 74 49 ((gi (si I 74 47 ((gi I 74 47) + 1)) 74 49) + 1)) J) (retV (fun I4 J5 => Q (some (vI 0)) (mem (P, some 5, some 22) I4 J5)) (P, some 5, some 22))))) ∧ (¬ (gi I 74 8) ≤ 0 → (Q (some (vI 1)) (mem (P, some 5, some 22) I J))))) ∧ ((gi I 74 47) = 7 → (((gi I 74 8) ≤ 0 → (Q (some (vI 1)) (mem (P, some 5, some 22) (si (si I 74 8 5) 74 9 (gi I 74 4)) J))) ∧ (¬ (gi I 74 8) ≤ 0 → (((gi I 74 8) ≤ 0 → ((0 ≤ (gi (si I 74 47 ((gi I 74 47) + 1)) 74 49) ∧ (gi (si I 74 47 ((gi I 74 47) + 1)) 74 49) < 500) ∧ (WPm (k - 1) LAY m_X12_ahead [vR (some 74)] (mem (P, some 5, some 22) (si (si (si I 74 47 ((gi I 74 47) + 1)) 106 (gi (si I 74 47 ((gi I 74 47) + 1)) 74 49).toNat 22) 74 49 ((gi (si I 74 47 ((gi I 74 47) + 1)) 74 49) + 1)) J) (retV (fun I8 J9 => Q (some (vI 0)) (mem (P, some 5, some 22) I8 J9)) (P, some 5, some 22))))) ∧ (¬ (gi I 74 8) ≤ 0 → (Q (some (vI 1)) (mem (P, some 5, some 22) I J))))))))))))) : WP k LAY m_X12_operand 46 [(0, vR (some 74)), (1, vI x1)] [vI s0] (mem (P, some 5, some 22) I J) Q := by
  refine st_istore_n (pc' := 47) (L' := [(2, vI s0), (0, vR (some 74)), (1, vI x1)]) dX12_operand_46 rfl rfl (by decide) rfl ?_
  refine st_iload_n (pc' := 48) dX12_operand_47 rfl rfl (j := 0) rfl ?_
  obtain ⟨e1, h⟩ := h
  refine st_if_eq (tg := 110) (pc' := 51) dX12_operand_48 (by decide) rfl e1 (fun c => ?_) (fun c => ?_)
  · replace h := h.1 c
    refine WP_sub (L' := [(0, vR (some 74)), (1, vI x1), (2, vI s0)]) [1, 2, 0] rfl ?_
    exact h
  · replace h := h.2 c
    refine st_aload_n (pc' := 52) dX12_operand_51 rfl rfl (j := 1) rfl ?_
    refine st_ldc2 (pc' := 55) (z := 7237492) dX12_operand_52 rfl q_X12_353 (by decide) ?_
    refine st_callV (pc' := 58) (kc := k - 1) (E' := LAY) (cal := m_X12_isWord) (n := 1) (as := [vL 7237492]) (S := []) dX12_operand_55 rfl l_X12_385 k_X12_isWord rfl L_74 c_X12 rfl rfl (Nat.le_of_ble_eq_true rfl) (by omega) ⟨Nat.le_refl _, Nat.le_refl _, Nat.le_refl _, Nat.le_refl _⟩ (Q1 := fun r M' => WP k LAY m_X12_operand 58 [(2, vI s0), (0, vR (some 74)), (1, vI x1)] (r.toList ++ []) M' Q) (S_X12_isWord (by omega) (by decide) ?_) (fun r M' q => q)
    change WP _ LAY m_X12_operand 58 [(2, vI s0), (0, vR (some 74)), (1, vI x1)] [vI (b2i (gi I 74 3 = 1 ∧ gl J 74 7 = 7237492))] (mem (P, some 5, some 22) I J) Q
    refine st_if_eq (tg := 110) (pc' := 61) dX12_operand_58 (by decide) rfl (b2i_in _) (fun c => ?_) (fun c => ?_)
    · replace h := h.1 (b2i_f.mp c)
      refine WP_sub (L' := [(0, vR (some 74)), (1, vI x1), (2, vI s0)]) [1, 2, 0] rfl ?_
      exact h
    · replace h := h.2 (b2i_t.mp c)
      refine st_aload_n (pc' := 62) dX12_operand_61 rfl rfl (j := 1) rfl ?_
      refine G_X12_155_74 dX12_operand_62 (pc' := 65) rfl rfl ?_
      refine st_bipush (pc' := 67) dX12_operand_65 rfl (by decide) ?_
      refine st_icmp_ne (tg := 79) (pc' := 70) dX12_operand_67 (by decide) rfl (gi_in _ _ _) (by decide) (fun c => ?_) (fun c => ?_)
      · replace h := h.1 c
        refine st_aload_n (pc' := 80) dX12_operand_79 rfl rfl (j := 1) rfl ?_
        refine G_X12_36_74 dX12_operand_80 (pc' := 83) rfl rfl ?_
        refine st_if_le (tg := 88) (pc' := 86) dX12_operand_83 (by decide) rfl (gi_in _ _ _) (fun c => ?_) (fun c => ?_)
        · replace h := h.1 c
          refine st_aload_n (pc' := 89) dX12_operand_88 rfl rfl (j := 1) rfl ?_
          refine st_dup (pc' := 90) dX12_operand_89 rfl rfl ?_
          refine G_X12_155_74 dX12_operand_90 (pc' := 93) rfl rfl ?_
          refine st_iconst (pc' := 94) dX12_operand_93 rfl ?_
          refine st_iadd (pc' := 95) dX12_operand_94 rfl ?_
          refine P_X12_155_74 dX12_operand_95 (pc' := 98) rfl rfl ?_
          refine st_aload_n (pc' := 99) dX12_operand_98 rfl rfl (j := 1) rfl ?_
          refine st_bipush (pc' := 101) dX12_operand_99 rfl (by decide) ?_
          refine st_callV (pc' := 104) (kc := k - 1) (E' := LAY) (cal := m_X12_holdsBack) (n := 1) (as := [vI 22]) (S := []) dX12_operand_101 rfl l_X12_388 k_X12_holdsBack rfl L_74 c_X12 rfl rfl (Nat.le_of_ble_eq_true rfl) (by omega) ⟨Nat.le_refl _, Nat.le_refl _, Nat.le_refl _, Nat.le_refl _⟩ (Q1 := fun r M' => WP k LAY m_X12_operand 104 [(2, vI s0), (0, vR (some 74)), (1, vI x1)] (r.toList ++ []) M' Q) (WPm.of k_X12_holdsBack.1 (Nat.le_of_ble_eq_true rfl) (B_X12_holdsBack_0 (by omega) ?_)) (fun r M' q => q)
          obtain ⟨e2, h⟩ := h
          refine ⟨e2, ?_⟩
          change WP _ LAY m_X12_operand 104 [(2, vI s0), (0, vR (some 74)), (1, vI x1)] [] (mem (P, some 5, some 22) (si (si (si I 74 47 ((gi I 74 47) + 1)) 106 (gi (si I 74 47 ((gi I 74 47) + 1)) 74 49).toNat 22) 74 49 ((gi (si I 74 47 ((gi I 74 47) + 1)) 74 49) + 1)) J) Q
          refine st_aload_n (pc' := 105) dX12_operand_104 rfl rfl (j := 1) rfl ?_
          refine st_callV (pc' := 108) (kc := k - 1) (E' := LAY) (cal := m_X12_ahead) (n := 0) (as := []) (S := []) dX12_operand_105 rfl l_X12_308 k_X12_ahead rfl L_74 c_X12 rfl rfl (Nat.le_of_ble_eq_true rfl) (by omega) ⟨Nat.le_refl _, Nat.le_refl _, Nat.le_refl _, Nat.le_refl _⟩ h (fun r M' q => ?_)
          obtain ⟨I4, J5, rfl, rfl, h⟩ := q
          change WP _ LAY m_X12_operand 108 [(2, vI s0), (0, vR (some 74)), (1, vI x1)] [] (mem (P, some 5, some 22) I4 J5) Q
          refine st_iconst (pc' := 109) dX12_operand_108 rfl ?_
          exact st_iret (ty := .boolean) dX12_operand_109 rfl (by decide) rfl h
        · replace h := h.2 c
          refine st_iconst (pc' := 87) dX12_operand_86 rfl ?_
          exact st_iret (ty := .boolean) dX12_operand_87 rfl (by decide) rfl h
      · replace h := h.2 c
        refine st_aload_n (pc' := 71) dX12_operand_70 rfl rfl (j := 1) rfl ?_
        refine st_iconst (pc' := 72) dX12_operand_71 rfl ?_
        refine st_aload_n (pc' := 73) dX12_operand_72 rfl rfl (j := 1) rfl ?_
        refine G_X12_23_74 dX12_operand_73 (pc' := 76) rfl rfl ?_
        refine st_callV (pc' := 79) (kc := k - 1) (E' := LAY) (cal := m_X12_blame) (n := 2) (as := [vI 5, vI (gi I 74 4)]) (S := []) dX12_operand_76 rfl l_X12_287 k_X12_blame rfl L_74 c_X12 rfl rfl (Nat.le_of_ble_eq_true rfl) (by omega) ⟨Nat.le_refl _, Nat.le_refl _, Nat.le_refl _, Nat.le_refl _⟩ (Q1 := fun r M' => WP k LAY m_X12_operand 79 [(2, vI s0), (0, vR (some 74)), (1, vI x1)] (r.toList ++ []) M' Q) (WPm.of k_X12_blame.1 (Nat.le_of_ble_eq_true rfl) (B_X12_blame_0 (by omega) ?_)) (fun r M' q => q)
        refine ⟨fun c => ?_, fun c => ?_⟩
        · replace h := h.1 c
          change WP _ LAY m_X12_operand 79 [(2, vI s0), (0, vR (some 74)), (1, vI x1)] [] (mem (P, some 5, some 22) (si (si I 74 8 5) 74 9 (gi I 74 4)) J) Q
          refine st_aload_n (pc' := 80) dX12_operand_79 rfl rfl (j := 1) rfl ?_
          refine G_X12_36_74 dX12_operand_80 (pc' := 83) rfl rfl ?_
          rw [show gi (si (si I 74 8 5) 74 9 (gi I 74 4)) 74 8 = 5 from ((gi_idx _ _ _ (by decide)).trans (gi_same _ _ _ (by decide)))]
          refine st_if_le (tg := 88) (pc' := 86) dX12_operand_83 (by decide) rfl (by decide) (fun c => ?_) (fun c => ?_)
          · exact absurd c (by decide)
          · refine st_iconst (pc' := 87) dX12_operand_86 rfl ?_
            exact st_iret (ty := .boolean) dX12_operand_87 rfl (by decide) rfl h
        · replace h := h.2 c
          change WP _ LAY m_X12_operand 79 [(2, vI s0), (0, vR (some 74)), (1, vI x1)] [] (mem (P, some 5, some 22) I J) Q
          refine st_aload_n (pc' := 80) dX12_operand_79 rfl rfl (j := 1) rfl ?_
          refine G_X12_36_74 dX12_operand_80 (pc' := 83) rfl rfl ?_
          refine st_if_le (tg := 88) (pc' := 86) dX12_operand_83 (by decide) rfl (gi_in _ _ _) (fun c => ?_) (fun c => ?_)
          · replace h := h.1 c
            refine st_aload_n (pc' := 89) dX12_operand_88 rfl rfl (j := 1) rfl ?_
            refine st_dup (pc' := 90) dX12_operand_89 rfl rfl ?_
            refine G_X12_155_74 dX12_operand_90 (pc' := 93) rfl rfl ?_
            refine st_iconst (pc' := 94) dX12_operand_93 rfl ?_
            refine st_iadd (pc' := 95) dX12_operand_94 rfl ?_
            refine P_X12_155_74 dX12_operand_95 (pc' := 98) rfl rfl ?_
            refine st_aload_n (pc' := 99) dX12_operand_98 rfl rfl (j := 1) rfl ?_
            refine st_bipush (pc' := 101) dX12_operand_99 rfl (by decide) ?_
            refine st_callV (pc' := 104) (kc := k - 1) (E' := LAY) (cal := m_X12_holdsBack) (n := 1) (as := [vI 22]) (S := []) dX12_operand_101 rfl l_X12_388 k_X12_holdsBack rfl L_74 c_X12 rfl rfl (Nat.le_of_ble_eq_true rfl) (by omega) ⟨Nat.le_refl _, Nat.le_refl _, Nat.le_refl _, Nat.le_refl _⟩ (Q1 := fun r M' => WP k LAY m_X12_operand 104 [(2, vI s0), (0, vR (some 74)), (1, vI x1)] (r.toList ++ []) M' Q) (WPm.of k_X12_holdsBack.1 (Nat.le_of_ble_eq_true rfl) (B_X12_holdsBack_0 (by omega) ?_)) (fun r M' q => q)
            obtain ⟨e6, h⟩ := h
            refine ⟨e6, ?_⟩
            change WP _ LAY m_X12_operand 104 [(2, vI s0), (0, vR (some 74)), (1, vI x1)] [] (mem (P, some 5, some 22) (si (si (si I 74 47 ((gi I 74 47) + 1)) 106 (gi (si I 74 47 ((gi I 74 47) + 1)) 74 49).toNat 22) 74 49 ((gi (si I 74 47 ((gi I 74 47) + 1)) 74 49) + 1)) J) Q
            refine st_aload_n (pc' := 105) dX12_operand_104 rfl rfl (j := 1) rfl ?_
            refine st_callV (pc' := 108) (kc := k - 1) (E' := LAY) (cal := m_X12_ahead) (n := 0) (as := []) (S := []) dX12_operand_105 rfl l_X12_308 k_X12_ahead rfl L_74 c_X12 rfl rfl (Nat.le_of_ble_eq_true rfl) (by omega) ⟨Nat.le_refl _, Nat.le_refl _, Nat.le_refl _, Nat.le_refl _⟩ h (fun r M' q => ?_)
            obtain ⟨I8, J9, rfl, rfl, h⟩ := q
            change WP _ LAY m_X12_operand 108 [(2, vI s0), (0, vR (some 74)), (1, vI x1)] [] (mem (P, some 5, some 22) I8 J9) Q
            refine st_iconst (pc' := 109) dX12_operand_108 rfl ?_
            exact st_iret (ty := .boolean) dX12_operand_109 rfl (by decide) rfl h
          · replace h := h.2 c
            refine st_iconst (pc' := 87) dX12_operand_86 rfl ?_
            exact st_iret (ty := .boolean) dX12_operand_87 rfl (by decide) rfl h
set_option maxRecDepth 20000 in
set_option maxHeartbeats 4000000 in
theorem B_X12_operand_110 {k : Nat} {P : Option Nat} {I : Nat → Nat → Int32} {J : Nat → Nat → Int64} {x1 : Int} {x2 : Int} {Q : Option AV → Mem → Prop} (hk : 1 ≤ k) (h : (0 ≤ x1 ∧ x1 < 20) ∧ (inR x2 ∧ ((x2 = 0 → (WP k LAY m_X12_operand 137 [(0, vR (some 74)), (1, vI x1), (2, vI x2)] [] (mem (P, some 5, some 22) (si I 103 (x1).toNat 0) J) Q)) ∧ (¬ x2 = 0 → ((¬ (gi (si I 103 (x1).toNat 0) 74 3 = 3 ∧ gi (si I 103 (x1).toNat 0) 74 6 = 91) → (WP k LAY m_X12_operand 137 [(0, vR (some 74)), (1, vI x1), (2, vI x2)] [] (mem (P, some 5, some 22) (si I 103 (x1).toNat 0) J) Q)) ∧ ((gi (si I 103 (x1).toNat 0) 74 3 = 3 ∧ gi (si I 103 (x1).toNat 0) 74 6 = 91) → (WPm (k - 1) LAY m_X12_opens [vR (some 74), vI 5] (mem (P, some 5, some 22) (si I 103 (x1).toNat 0) J) (retV (fun I4 J5 => Q (some (vI 0)) (mem (P, some 5, some 22) I4 J5)) (P, some 5, some 22))))))))) : WP k LAY m_X12_operand 110 [(0, vR (some 74)), (1, vI x1), (2, vI x2)] [] (mem (P, some 5, some 22) I J) Q := by
  refine st_aload_n (pc' := 111) dX12_operand_110 rfl rfl (j := 0) rfl ?_
  refine G_X12_142_74 dX12_operand_111 (pc' := 114) rfl rfl ?_
  refine st_iload_n (pc' := 115) dX12_operand_114 rfl rfl (j := 1) rfl ?_
  refine st_iconst (pc' := 116) dX12_operand_115 rfl ?_
  obtain ⟨e1, h⟩ := h
  refine st_zastore (pc' := 117) (M' := (mem (P, some 5, some 22) (si I 103 (x1).toNat 0) J)) dX12_operand_116 rfl L_103 (by decide) e1 (by decide) rfl ?_
  refine st_iload_n (pc' := 118) dX12_operand_117 rfl rfl (j := 2) rfl ?_
  obtain ⟨e2, h⟩ := h
  refine st_if_eq (tg := 137) (pc' := 121) dX12_operand_118 (by decide) rfl e2 (fun c => ?_) (fun c => ?_)
  · replace h := h.1 c
    exact h
  · replace h := h.2 c
    refine st_aload_n (pc' := 122) dX12_operand_121 rfl rfl (j := 0) rfl ?_
    refine st_bipush (pc' := 124) dX12_operand_122 rfl (by decide) ?_
    refine st_callV (pc' := 127) (kc := k - 1) (E' := LAY) (cal := m_X12_isSign) (n := 1) (as := [vI 91]) (S := []) dX12_operand_124 rfl l_X12_305 k_X12_isSign rfl L_74 c_X12 rfl rfl (Nat.le_of_ble_eq_true rfl) (by omega) ⟨Nat.le_refl _, Nat.le_refl _, Nat.le_refl _, Nat.le_refl _⟩ (Q1 := fun r M' => WP k LAY m_X12_operand 127 [(0, vR (some 74)), (1, vI x1), (2, vI x2)] (r.toList ++ []) M' Q) (S_X12_isSign (by omega) (by decide) ?_) (fun r M' q => q)
    change WP _ LAY m_X12_operand 127 [(0, vR (some 74)), (1, vI x1), (2, vI x2)] [vI (b2i (gi (si I 103 (x1).toNat 0) 74 3 = 3 ∧ gi (si I 103 (x1).toNat 0) 74 6 = 91))] (mem (P, some 5, some 22) (si I 103 (x1).toNat 0) J) Q
    refine st_if_eq (tg := 137) (pc' := 130) dX12_operand_127 (by decide) rfl (b2i_in _) (fun c => ?_) (fun c => ?_)
    · replace h := h.1 (b2i_f.mp c)
      exact h
    · replace h := h.2 (b2i_t.mp c)
      refine st_aload_n (pc' := 131) dX12_operand_130 rfl rfl (j := 0) rfl ?_
      refine st_iconst (pc' := 132) dX12_operand_131 rfl ?_
      refine st_callV (pc' := 135) (kc := k - 1) (E' := LAY) (cal := m_X12_opens) (n := 1) (as := [vI 5]) (S := []) dX12_operand_132 rfl l_X12_391 k_X12_opens rfl L_74 c_X12 rfl rfl (Nat.le_of_ble_eq_true rfl) (by omega) ⟨Nat.le_refl _, Nat.le_refl _, Nat.le_refl _, Nat.le_refl _⟩ h (fun r M' q => ?_)
      obtain ⟨I4, J5, rfl, rfl, h⟩ := q
      change WP _ LAY m_X12_operand 135 [(0, vR (some 74)), (1, vI x1), (2, vI x2)] [] (mem (P, some 5, some 22) I4 J5) Q
      refine st_iconst (pc' := 136) dX12_operand_135 rfl ?_
      exact st_iret (ty := .boolean) dX12_operand_136 rfl (by decide) rfl h
set_option maxRecDepth 20000 in
set_option maxHeartbeats 4000000 in
theorem B_X12_operand_137 {k : Nat} {P : Option Nat} {I : Nat → Nat → Int32} {J : Nat → Nat → Int64} {x1 : Int} {x2 : Int} {Q : Option AV → Mem → Prop} (hk : 1 ≤ k) (h : inR x2 ∧ ((x2 = 0 → (WP k LAY m_X12_operand 171 [(0, vR (some 74))] [] (mem (P, some 5, some 22) I J) Q)) ∧ (¬ x2 = 0 → ((¬ (gi I 74 3 = 1 ∧ gl J 74 7 = 6384748) → (WP k LAY m_X12_operand 171 [(0, vR (some 74))] [] (mem (P, some 5, some 22) I J) Q)) ∧ ((gi I 74 3 = 1 ∧ gl J 74 7 = 6384748) → ((0 ≤ ((1600 * (gi I 74 40)) + (gi I 74 39)) ∧ ((1600 * (gi I 74 40)) + (gi I 74 39)) < 3200) ∧ ((0 ≤ x1 ∧ x1 < 20) ∧ (WPm (k - 1) LAY m_X12_ahead [vR (some 74)] (mem (P, some 5, some 22) (si (si (si (si I 95 ((1600 * (gi I 74 40)) + (gi I 74 39)).toNat 30) 96 ((1600 * (gi I 74 40)) + (gi I 74 39)).toNat 0) 74 39 ((gi I 74 39) + 1)) 102 (x1).toNat 2) J) (retV (fun I5 J6 => Q (some (vI 1)) (mem (P, some 5, some 22) I5 J6)) (P, some 5, some 22)))))))))) : WP k LAY m_X12_operand 137 [(0, vR (some 74)), (1, vI x1), (2, vI x2)] [] (mem (P, some 5, some 22) I J) Q := by
  refine st_iload_n (pc' := 138) dX12_operand_137 rfl rfl (j := 2) rfl ?_
  obtain ⟨e1, h⟩ := h
  refine st_if_eq (tg := 171) (pc' := 141) dX12_operand_138 (by decide) rfl e1 (fun c => ?_) (fun c => ?_)
  · replace h := h.1 c
    refine WP_sub (L' := [(0, vR (some 74))]) [0] rfl ?_
    exact h
  · replace h := h.2 c
    refine st_aload_n (pc' := 142) dX12_operand_141 rfl rfl (j := 0) rfl ?_
    refine st_ldc2 (pc' := 145) (z := 6384748) dX12_operand_142 rfl q_X12_355 (by decide) ?_
    refine st_callV (pc' := 148) (kc := k - 1) (E' := LAY) (cal := m_X12_isWord) (n := 1) (as := [vL 6384748]) (S := []) dX12_operand_145 rfl l_X12_385 k_X12_isWord rfl L_74 c_X12 rfl rfl (Nat.le_of_ble_eq_true rfl) (by omega) ⟨Nat.le_refl _, Nat.le_refl _, Nat.le_refl _, Nat.le_refl _⟩ (Q1 := fun r M' => WP k LAY m_X12_operand 148 [(0, vR (some 74)), (1, vI x1), (2, vI x2)] (r.toList ++ []) M' Q) (S_X12_isWord (by omega) (by decide) ?_) (fun r M' q => q)
    change WP _ LAY m_X12_operand 148 [(0, vR (some 74)), (1, vI x1), (2, vI x2)] [vI (b2i (gi I 74 3 = 1 ∧ gl J 74 7 = 6384748))] (mem (P, some 5, some 22) I J) Q
    refine st_if_eq (tg := 171) (pc' := 151) dX12_operand_148 (by decide) rfl (b2i_in _) (fun c => ?_) (fun c => ?_)
    · replace h := h.1 (b2i_f.mp c)
      refine WP_sub (L' := [(0, vR (some 74))]) [0] rfl ?_
      exact h
    · replace h := h.2 (b2i_t.mp c)
      refine st_aload_n (pc' := 152) dX12_operand_151 rfl rfl (j := 0) rfl ?_
      refine st_bipush (pc' := 154) dX12_operand_152 rfl (by decide) ?_
      refine st_iconst (pc' := 155) dX12_operand_154 rfl ?_
      refine st_callV (pc' := 158) (kc := k - 1) (E' := LAY) (cal := m_X12_add) (n := 2) (as := [vI 30, vI 0]) (S := []) dX12_operand_155 rfl l_X12_376 k_X12_add rfl L_74 c_X12 rfl rfl (Nat.le_of_ble_eq_true rfl) (by omega) ⟨Nat.le_refl _, Nat.le_refl _, Nat.le_refl _, Nat.le_refl _⟩ (Q1 := fun r M' => WP k LAY m_X12_operand 158 [(0, vR (some 74)), (1, vI x1), (2, vI x2)] (r.toList ++ []) M' Q) (WPm.of k_X12_add.1 (Nat.le_of_ble_eq_true rfl) (B_X12_add_0 (by omega) ?_)) (fun r M' q => q)
      obtain ⟨e2, h⟩ := h
      refine ⟨e2, ?_⟩
      change WP _ LAY m_X12_operand 158 [(0, vR (some 74)), (1, vI x1), (2, vI x2)] [] (mem (P, some 5, some 22) (si (si (si I 95 ((1600 * (gi I 74 40)) + (gi I 74 39)).toNat 30) 96 ((1600 * (gi I 74 40)) + (gi I 74 39)).toNat 0) 74 39 ((gi I 74 39) + 1)) J) Q
      refine st_aload_n (pc' := 159) dX12_operand_158 rfl rfl (j := 0) rfl ?_
      refine G_X12_139_74 dX12_operand_159 (pc' := 162) rfl rfl ?_
      refine st_iload_n (pc' := 163) dX12_operand_162 rfl rfl (j := 1) rfl ?_
      refine st_iconst (pc' := 164) dX12_operand_163 rfl ?_
      obtain ⟨e3, h⟩ := h
      refine st_iastore (pc' := 165) (M' := (mem (P, some 5, some 22) (si (si (si (si I 95 ((1600 * (gi I 74 40)) + (gi I 74 39)).toNat 30) 96 ((1600 * (gi I 74 40)) + (gi I 74 39)).toNat 0) 74 39 ((gi I 74 39) + 1)) 102 (x1).toNat 2) J)) dX12_operand_164 rfl L_102 (by decide) e3 rfl ?_
      refine st_aload_n (pc' := 166) dX12_operand_165 rfl rfl (j := 0) rfl ?_
      refine st_callV (pc' := 169) (kc := k - 1) (E' := LAY) (cal := m_X12_ahead) (n := 0) (as := []) (S := []) dX12_operand_166 rfl l_X12_308 k_X12_ahead rfl L_74 c_X12 rfl rfl (Nat.le_of_ble_eq_true rfl) (by omega) ⟨Nat.le_refl _, Nat.le_refl _, Nat.le_refl _, Nat.le_refl _⟩ h (fun r M' q => ?_)
      obtain ⟨I5, J6, rfl, rfl, h⟩ := q
      change WP _ LAY m_X12_operand 169 [(0, vR (some 74)), (1, vI x1), (2, vI x2)] [] (mem (P, some 5, some 22) I5 J6) Q
      refine st_iconst (pc' := 170) dX12_operand_169 rfl ?_
      exact st_iret (ty := .boolean) dX12_operand_170 rfl (by decide) rfl h
set_option maxRecDepth 20000 in
set_option maxHeartbeats 4000000 in
theorem B_X12_operand_171 {k : Nat} {P : Option Nat} {I : Nat → Nat → Int32} {J : Nat → Nat → Int64}  {Q : Option AV → Mem → Prop} (hk : 1 ≤ k) (h : (¬ (gi I 74 3 = 3 ∧ gi I 74 6 = 40) → (((gi I 74 3 = 1 ∧ gl J 74 7 = 7170414) → (WP k LAY m_X12_operand 207 [(0, vR (some 74))] [] (mem (P, some 5, some 22) I J) Q)) ∧ (¬ (gi I 74 3 = 1 ∧ gl J 74 7 = 7170414) → ((¬ (gi I 74 3 = 1 ∧ gl J 74 7 = 7168376) → ((¬ (gi I 74 3) = 2 → ((¬ (gi I 74 3 = 1 ∧ gl J 74 7 = 465625310579) → ((¬ (gi I 74 3 = 1 ∧ gl J 74 7 = 482955849332) → ((¬ (gi I 74 3 = 1 ∧ gl J 74 7 = 1885430629) → ((¬ (gi I 74 3 = 1 ∧ gl J 74 7 = 1702454643) → ((¬ (gi I 74 3 = 1 ∧ gl J 74 7 = 461414299507) → ((¬ (gi I 74 3 = 1 ∧ gl J 74 7 = 431415715444) → ((¬ (gi I 74 3 = 1 ∧ gl J 74 7 = 32485571211914855) → ((¬ (gi I 74 3 = 1 ∧ gl J 74 7 = 1768842088) → ((¬ (gi I 74 3 = 1 ∧ gl J 74 7 = 474214787188) → (WP k LAY m_X12_operand 420 [(0, vR (some 74))] [vI (-1)] (mem (P, some 5, some 22) I J) Q)) ∧ ((gi I 74 3 = 1 ∧ gl J 74 7 = 474214787188) → (WP k LAY m_X12_operand 420 [(0, vR (some 74))] [vI 9] (mem (P, some 5, some 22) I J) Q)))) ∧ ((gi I 74 3 = 1 ∧ gl J 74 7 = 1768842088) → (WP k LAY m_X12_operand 420 [(0, vR (some 74))] [vI 8] (mem (P, some 5, some 22) I J) Q)))) ∧ ((gi I 74 3 = 1 ∧ gl J 74 7 = 32485571211914855) → (WP k LAY m_X12_operand 420 [(0, vR (some 74))] [vI 7] (mem (P, some 5, some 22) I J) Q)))) ∧ ((gi I 74 3 = 1 ∧ gl J 74 7 = 431415715444) → (WP k LAY m_X12_operand 420 [(0, vR (some 74))] [vI 6] (mem (P, some 5, some 22) I J) Q)))) ∧ ((gi I 74 3 = 1 ∧ gl J 74 7 = 461414299507) → (WP k LAY m_X12_operand 420 [(0, vR (some 74))] [vI 5] (mem (P, some 5, some 22) I J) Q)))) ∧ ((gi I 74 3 = 1 ∧ gl J 74 7 = 1702454643) → (WP k LAY m_X12_operand 420 [(0, vR (some 74))] [vI 4] (mem (P, some 5, some 22) I J) Q)))) ∧ ((gi I 74 3 = 1 ∧ gl J 74 7 = 1885430629) → (WP k LAY m_X12_operand 420 [(0, vR (some 74))] [vI 3] (mem (P, some 5, some 22) I J) Q)))) ∧ ((gi I 74 3 = 1 ∧ gl J 74 7 = 482955849332) → (WP k LAY m_X12_operand 420 [(0, vR (some 74))] [vI 2] (mem (P, some 5, some 22) I J) Q)))) ∧ ((gi I 74 3 = 1 ∧ gl J 74 7 = 465625310579) → (WP k LAY m_X12_operand 420 [(0, vR (some 74))] [vI 1] (mem (P, some 5, some 22) I J) Q)))) ∧ ((gi I 74 3) = 2 → (WP k LAY m_X12_operand 420 [(0, vR (some 74))] [vI 0] (mem (P, some 5, some 22) I J) Q)))) ∧ ((gi I 74 3 = 1 ∧ gl J 74 7 = 7168376) → (WP k LAY m_X12_operand 207 [(0, vR (some 74))] [] (mem (P, some 5, some 22) I J) Q)))))) ∧ ((gi I 74 3 = 3 ∧ gi I 74 6 = 40) → (WPm (k - 1) LAY m_X12_opens [vR (some 74), vI 2] (mem (P, some 5, some 22) I J) (retV (fun I2 J3 => Q (some (vI 0)) (mem (P, some 5, some 22) I2 J3)) (P, some 5, some 22))))) : WP k LAY m_X12_operand 171 [(0, vR (some 74))] [] (mem (P, some 5, some 22) I J) Q := by
  refine st_aload_n (pc' := 172) dX12_operand_171 rfl rfl (j := 0) rfl ?_
  refine st_bipush (pc' := 174) dX12_operand_172 rfl (by decide) ?_
  refine st_callV (pc' := 177) (kc := k - 1) (E' := LAY) (cal := m_X12_isSign) (n := 1) (as := [vI 40]) (S := []) dX12_operand_174 rfl l_X12_305 k_X12_isSign rfl L_74 c_X12 rfl rfl (Nat.le_of_ble_eq_true rfl) (by omega) ⟨Nat.le_refl _, Nat.le_refl _, Nat.le_refl _, Nat.le_refl _⟩ (Q1 := fun r M' => WP k LAY m_X12_operand 177 [(0, vR (some 74))] (r.toList ++ []) M' Q) (S_X12_isSign (by omega) (by decide) ?_) (fun r M' q => q)
  change WP _ LAY m_X12_operand 177 [(0, vR (some 74))] [vI (b2i (gi I 74 3 = 3 ∧ gi I 74 6 = 40))] (mem (P, some 5, some 22) I J) Q
  refine st_if_eq (tg := 187) (pc' := 180) dX12_operand_177 (by decide) rfl (b2i_in _) (fun c => ?_) (fun c => ?_)
  · replace h := h.1 (b2i_f.mp c)
    refine st_aload_n (pc' := 188) dX12_operand_187 rfl rfl (j := 0) rfl ?_
    refine st_ldc2 (pc' := 191) (z := 7170414) dX12_operand_188 rfl q_X12_357 (by decide) ?_
    refine st_callV (pc' := 194) (kc := k - 1) (E' := LAY) (cal := m_X12_isWord) (n := 1) (as := [vL 7170414]) (S := []) dX12_operand_191 rfl l_X12_385 k_X12_isWord rfl L_74 c_X12 rfl rfl (Nat.le_of_ble_eq_true rfl) (by omega) ⟨Nat.le_refl _, Nat.le_refl _, Nat.le_refl _, Nat.le_refl _⟩ (Q1 := fun r M' => WP k LAY m_X12_operand 194 [(0, vR (some 74))] (r.toList ++ []) M' Q) (S_X12_isWord (by omega) (by decide) ?_) (fun r M' q => q)
    change WP _ LAY m_X12_operand 194 [(0, vR (some 74))] [vI (b2i (gi I 74 3 = 1 ∧ gl J 74 7 = 7170414))] (mem (P, some 5, some 22) I J) Q
    refine st_if_ne (tg := 207) (pc' := 197) dX12_operand_194 (by decide) rfl (b2i_in _) (fun c => ?_) (fun c => ?_)
    · replace h := h.1 (b2i_t.mp c)
      exact h
    · replace h := h.2 (b2i_f.mp c)
      refine st_aload_n (pc' := 198) dX12_operand_197 rfl rfl (j := 0) rfl ?_
      refine st_ldc2 (pc' := 201) (z := 7168376) dX12_operand_198 rfl q_X12_359 (by decide) ?_
      refine st_callV (pc' := 204) (kc := k - 1) (E' := LAY) (cal := m_X12_isWord) (n := 1) (as := [vL 7168376]) (S := []) dX12_operand_201 rfl l_X12_385 k_X12_isWord rfl L_74 c_X12 rfl rfl (Nat.le_of_ble_eq_true rfl) (by omega) ⟨Nat.le_refl _, Nat.le_refl _, Nat.le_refl _, Nat.le_refl _⟩ (Q1 := fun r M' => WP k LAY m_X12_operand 204 [(0, vR (some 74))] (r.toList ++ []) M' Q) (S_X12_isWord (by omega) (by decide) ?_) (fun r M' q => q)
      change WP _ LAY m_X12_operand 204 [(0, vR (some 74))] [vI (b2i (gi I 74 3 = 1 ∧ gl J 74 7 = 7168376))] (mem (P, some 5, some 22) I J) Q
      refine st_if_eq (tg := 277) (pc' := 207) dX12_operand_204 (by decide) rfl (b2i_in _) (fun c => ?_) (fun c => ?_)
      · replace h := h.1 (b2i_f.mp c)
        refine st_aload_n (pc' := 278) dX12_operand_277 rfl rfl (j := 0) rfl ?_
        refine G_X12_20_74 dX12_operand_278 (pc' := 281) rfl rfl ?_
        refine st_iconst (pc' := 282) dX12_operand_281 rfl ?_
        refine st_icmp_ne (tg := 289) (pc' := 285) dX12_operand_282 (by decide) rfl (gi_in _ _ _) (by decide) (fun c => ?_) (fun c => ?_)
        · replace h := h.1 c
          refine st_aload_n (pc' := 290) dX12_operand_289 rfl rfl (j := 0) rfl ?_
          refine st_ldc2 (pc' := 293) (z := 465625310579) dX12_operand_290 rfl q_X12_317 (by decide) ?_
          refine st_callV (pc' := 296) (kc := k - 1) (E' := LAY) (cal := m_X12_isWord) (n := 1) (as := [vL 465625310579]) (S := []) dX12_operand_293 rfl l_X12_385 k_X12_isWord rfl L_74 c_X12 rfl rfl (Nat.le_of_ble_eq_true rfl) (by omega) ⟨Nat.le_refl _, Nat.le_refl _, Nat.le_refl _, Nat.le_refl _⟩ (Q1 := fun r M' => WP k LAY m_X12_operand 296 [(0, vR (some 74))] (r.toList ++ []) M' Q) (S_X12_isWord (by omega) (by decide) ?_) (fun r M' q => q)
          change WP _ LAY m_X12_operand 296 [(0, vR (some 74))] [vI (b2i (gi I 74 3 = 1 ∧ gl J 74 7 = 465625310579))] (mem (P, some 5, some 22) I J) Q
          refine st_if_eq (tg := 303) (pc' := 299) dX12_operand_296 (by decide) rfl (b2i_in _) (fun c => ?_) (fun c => ?_)
          · replace h := h.1 (b2i_f.mp c)
            refine st_aload_n (pc' := 304) dX12_operand_303 rfl rfl (j := 0) rfl ?_
            refine st_ldc2 (pc' := 307) (z := 482955849332) dX12_operand_304 rfl q_X12_341 (by decide) ?_
            refine st_callV (pc' := 310) (kc := k - 1) (E' := LAY) (cal := m_X12_isWord) (n := 1) (as := [vL 482955849332]) (S := []) dX12_operand_307 rfl l_X12_385 k_X12_isWord rfl L_74 c_X12 rfl rfl (Nat.le_of_ble_eq_true rfl) (by omega) ⟨Nat.le_refl _, Nat.le_refl _, Nat.le_refl _, Nat.le_refl _⟩ (Q1 := fun r M' => WP k LAY m_X12_operand 310 [(0, vR (some 74))] (r.toList ++ []) M' Q) (S_X12_isWord (by omega) (by decide) ?_) (fun r M' q => q)
            change WP _ LAY m_X12_operand 310 [(0, vR (some 74))] [vI (b2i (gi I 74 3 = 1 ∧ gl J 74 7 = 482955849332))] (mem (P, some 5, some 22) I J) Q
            refine st_if_eq (tg := 317) (pc' := 313) dX12_operand_310 (by decide) rfl (b2i_in _) (fun c => ?_) (fun c => ?_)
            · replace h := h.1 (b2i_f.mp c)
              refine st_aload_n (pc' := 318) dX12_operand_317 rfl rfl (j := 0) rfl ?_
              refine st_ldc2 (pc' := 321) (z := 1885430629) dX12_operand_318 rfl q_X12_325 (by decide) ?_
              refine st_callV (pc' := 324) (kc := k - 1) (E' := LAY) (cal := m_X12_isWord) (n := 1) (as := [vL 1885430629]) (S := []) dX12_operand_321 rfl l_X12_385 k_X12_isWord rfl L_74 c_X12 rfl rfl (Nat.le_of_ble_eq_true rfl) (by omega) ⟨Nat.le_refl _, Nat.le_refl _, Nat.le_refl _, Nat.le_refl _⟩ (Q1 := fun r M' => WP k LAY m_X12_operand 324 [(0, vR (some 74))] (r.toList ++ []) M' Q) (S_X12_isWord (by omega) (by decide) ?_) (fun r M' q => q)
              change WP _ LAY m_X12_operand 324 [(0, vR (some 74))] [vI (b2i (gi I 74 3 = 1 ∧ gl J 74 7 = 1885430629))] (mem (P, some 5, some 22) I J) Q
              refine st_if_eq (tg := 331) (pc' := 327) dX12_operand_324 (by decide) rfl (b2i_in _) (fun c => ?_) (fun c => ?_)
              · replace h := h.1 (b2i_f.mp c)
                refine st_aload_n (pc' := 332) dX12_operand_331 rfl rfl (j := 0) rfl ?_
                refine st_ldc2 (pc' := 335) (z := 1702454643) dX12_operand_332 rfl q_X12_327 (by decide) ?_
                refine st_callV (pc' := 338) (kc := k - 1) (E' := LAY) (cal := m_X12_isWord) (n := 1) (as := [vL 1702454643]) (S := []) dX12_operand_335 rfl l_X12_385 k_X12_isWord rfl L_74 c_X12 rfl rfl (Nat.le_of_ble_eq_true rfl) (by omega) ⟨Nat.le_refl _, Nat.le_refl _, Nat.le_refl _, Nat.le_refl _⟩ (Q1 := fun r M' => WP k LAY m_X12_operand 338 [(0, vR (some 74))] (r.toList ++ []) M' Q) (S_X12_isWord (by omega) (by decide) ?_) (fun r M' q => q)
                change WP _ LAY m_X12_operand 338 [(0, vR (some 74))] [vI (b2i (gi I 74 3 = 1 ∧ gl J 74 7 = 1702454643))] (mem (P, some 5, some 22) I J) Q
                refine st_if_eq (tg := 345) (pc' := 341) dX12_operand_338 (by decide) rfl (b2i_in _) (fun c => ?_) (fun c => ?_)
                · replace h := h.1 (b2i_f.mp c)
                  refine st_aload_n (pc' := 346) dX12_operand_345 rfl rfl (j := 0) rfl ?_
                  refine st_ldc2 (pc' := 349) (z := 461414299507) dX12_operand_346 rfl q_X12_343 (by decide) ?_
                  refine st_callV (pc' := 352) (kc := k - 1) (E' := LAY) (cal := m_X12_isWord) (n := 1) (as := [vL 461414299507]) (S := []) dX12_operand_349 rfl l_X12_385 k_X12_isWord rfl L_74 c_X12 rfl rfl (Nat.le_of_ble_eq_true rfl) (by omega) ⟨Nat.le_refl _, Nat.le_refl _, Nat.le_refl _, Nat.le_refl _⟩ (Q1 := fun r M' => WP k LAY m_X12_operand 352 [(0, vR (some 74))] (r.toList ++ []) M' Q) (S_X12_isWord (by omega) (by decide) ?_) (fun r M' q => q)
                  change WP _ LAY m_X12_operand 352 [(0, vR (some 74))] [vI (b2i (gi I 74 3 = 1 ∧ gl J 74 7 = 461414299507))] (mem (P, some 5, some 22) I J) Q
                  refine st_if_eq (tg := 359) (pc' := 355) dX12_operand_352 (by decide) rfl (b2i_in _) (fun c => ?_) (fun c => ?_)
                  · replace h := h.1 (b2i_f.mp c)
                    refine st_aload_n (pc' := 360) dX12_operand_359 rfl rfl (j := 0) rfl ?_
                    refine st_ldc2 (pc' := 363) (z := 431415715444) dX12_operand_360 rfl q_X12_331 (by decide) ?_
                    refine st_callV (pc' := 366) (kc := k - 1) (E' := LAY) (cal := m_X12_isWord) (n := 1) (as := [vL 431415715444]) (S := []) dX12_operand_363 rfl l_X12_385 k_X12_isWord rfl L_74 c_X12 rfl rfl (Nat.le_of_ble_eq_true rfl) (by omega) ⟨Nat.le_refl _, Nat.le_refl _, Nat.le_refl _, Nat.le_refl _⟩ (Q1 := fun r M' => WP k LAY m_X12_operand 366 [(0, vR (some 74))] (r.toList ++ []) M' Q) (S_X12_isWord (by omega) (by decide) ?_) (fun r M' q => q)
                    change WP _ LAY m_X12_operand 366 [(0, vR (some 74))] [vI (b2i (gi I 74 3 = 1 ∧ gl J 74 7 = 431415715444))] (mem (P, some 5, some 22) I J) Q
                    refine st_if_eq (tg := 374) (pc' := 369) dX12_operand_366 (by decide) rfl (b2i_in _) (fun c => ?_) (fun c => ?_)
                    · replace h := h.1 (b2i_f.mp c)
                      refine st_aload_n (pc' := 375) dX12_operand_374 rfl rfl (j := 0) rfl ?_
                      refine st_ldc2 (pc' := 378) (z := 32485571211914855) dX12_operand_375 rfl q_X12_345 (by decide) ?_
                      refine st_callV (pc' := 381) (kc := k - 1) (E' := LAY) (cal := m_X12_isWord) (n := 1) (as := [vL 32485571211914855]) (S := []) dX12_operand_378 rfl l_X12_385 k_X12_isWord rfl L_74 c_X12 rfl rfl (Nat.le_of_ble_eq_true rfl) (by omega) ⟨Nat.le_refl _, Nat.le_refl _, Nat.le_refl _, Nat.le_refl _⟩ (Q1 := fun r M' => WP k LAY m_X12_operand 381 [(0, vR (some 74))] (r.toList ++ []) M' Q) (S_X12_isWord (by omega) (by decide) ?_) (fun r M' q => q)
                      change WP _ LAY m_X12_operand 381 [(0, vR (some 74))] [vI (b2i (gi I 74 3 = 1 ∧ gl J 74 7 = 32485571211914855))] (mem (P, some 5, some 22) I J) Q
                      refine st_if_eq (tg := 389) (pc' := 384) dX12_operand_381 (by decide) rfl (b2i_in _) (fun c => ?_) (fun c => ?_)
                      · replace h := h.1 (b2i_f.mp c)
                        refine st_aload_n (pc' := 390) dX12_operand_389 rfl rfl (j := 0) rfl ?_
                        refine st_ldc2 (pc' := 393) (z := 1768842088) dX12_operand_390 rfl q_X12_333 (by decide) ?_
                        refine st_callV (pc' := 396) (kc := k - 1) (E' := LAY) (cal := m_X12_isWord) (n := 1) (as := [vL 1768842088]) (S := []) dX12_operand_393 rfl l_X12_385 k_X12_isWord rfl L_74 c_X12 rfl rfl (Nat.le_of_ble_eq_true rfl) (by omega) ⟨Nat.le_refl _, Nat.le_refl _, Nat.le_refl _, Nat.le_refl _⟩ (Q1 := fun r M' => WP k LAY m_X12_operand 396 [(0, vR (some 74))] (r.toList ++ []) M' Q) (S_X12_isWord (by omega) (by decide) ?_) (fun r M' q => q)
                        change WP _ LAY m_X12_operand 396 [(0, vR (some 74))] [vI (b2i (gi I 74 3 = 1 ∧ gl J 74 7 = 1768842088))] (mem (P, some 5, some 22) I J) Q
                        refine st_if_eq (tg := 404) (pc' := 399) dX12_operand_396 (by decide) rfl (b2i_in _) (fun c => ?_) (fun c => ?_)
                        · replace h := h.1 (b2i_f.mp c)
                          refine st_aload_n (pc' := 405) dX12_operand_404 rfl rfl (j := 0) rfl ?_
                          refine st_ldc2 (pc' := 408) (z := 474214787188) dX12_operand_405 rfl q_X12_347 (by decide) ?_
                          refine st_callV (pc' := 411) (kc := k - 1) (E' := LAY) (cal := m_X12_isWord) (n := 1) (as := [vL 474214787188]) (S := []) dX12_operand_408 rfl l_X12_385 k_X12_isWord rfl L_74 c_X12 rfl rfl (Nat.le_of_ble_eq_true rfl) (by omega) ⟨Nat.le_refl _, Nat.le_refl _, Nat.le_refl _, Nat.le_refl _⟩ (Q1 := fun r M' => WP k LAY m_X12_operand 411 [(0, vR (some 74))] (r.toList ++ []) M' Q) (S_X12_isWord (by omega) (by decide) ?_) (fun r M' q => q)
                          change WP _ LAY m_X12_operand 411 [(0, vR (some 74))] [vI (b2i (gi I 74 3 = 1 ∧ gl J 74 7 = 474214787188))] (mem (P, some 5, some 22) I J) Q
                          refine st_if_eq (tg := 419) (pc' := 414) dX12_operand_411 (by decide) rfl (b2i_in _) (fun c => ?_) (fun c => ?_)
                          · replace h := h.1 (b2i_f.mp c)
                            refine st_iconst (pc' := 420) dX12_operand_419 rfl ?_
                            exact h
                          · replace h := h.2 (b2i_t.mp c)
                            refine st_bipush (pc' := 416) dX12_operand_414 rfl (by decide) ?_
                            refine st_goto (pc' := 420) dX12_operand_416 (by decide) ?_
                            exact h
                        · replace h := h.2 (b2i_t.mp c)
                          refine st_bipush (pc' := 401) dX12_operand_399 rfl (by decide) ?_
                          refine st_goto (pc' := 420) dX12_operand_401 (by decide) ?_
                          exact h
                      · replace h := h.2 (b2i_t.mp c)
                        refine st_bipush (pc' := 386) dX12_operand_384 rfl (by decide) ?_
                        refine st_goto (pc' := 420) dX12_operand_386 (by decide) ?_
                        exact h
                    · replace h := h.2 (b2i_t.mp c)
                      refine st_bipush (pc' := 371) dX12_operand_369 rfl (by decide) ?_
                      refine st_goto (pc' := 420) dX12_operand_371 (by decide) ?_
                      exact h
                  · replace h := h.2 (b2i_t.mp c)
                    refine st_iconst (pc' := 356) dX12_operand_355 rfl ?_
                    refine st_goto (pc' := 420) dX12_operand_356 (by decide) ?_
                    exact h
                · replace h := h.2 (b2i_t.mp c)
                  refine st_iconst (pc' := 342) dX12_operand_341 rfl ?_
                  refine st_goto (pc' := 420) dX12_operand_342 (by decide) ?_
                  exact h
              · replace h := h.2 (b2i_t.mp c)
                refine st_iconst (pc' := 328) dX12_operand_327 rfl ?_
                refine st_goto (pc' := 420) dX12_operand_328 (by decide) ?_
                exact h
            · replace h := h.2 (b2i_t.mp c)
              refine st_iconst (pc' := 314) dX12_operand_313 rfl ?_
              refine st_goto (pc' := 420) dX12_operand_314 (by decide) ?_
              exact h
          · replace h := h.2 (b2i_t.mp c)
            refine st_iconst (pc' := 300) dX12_operand_299 rfl ?_
            refine st_goto (pc' := 420) dX12_operand_300 (by decide) ?_
            exact h
        · replace h := h.2 c
          refine st_iconst (pc' := 286) dX12_operand_285 rfl ?_
          refine st_goto (pc' := 420) dX12_operand_286 (by decide) ?_
          exact h
      · replace h := h.2 (b2i_t.mp c)
        exact h
  · replace h := h.2 (b2i_t.mp c)
    refine st_aload_n (pc' := 181) dX12_operand_180 rfl rfl (j := 0) rfl ?_
    refine st_iconst (pc' := 182) dX12_operand_181 rfl ?_
    refine st_callV (pc' := 185) (kc := k - 1) (E' := LAY) (cal := m_X12_opens) (n := 1) (as := [vI 2]) (S := []) dX12_operand_182 rfl l_X12_391 k_X12_opens rfl L_74 c_X12 rfl rfl (Nat.le_of_ble_eq_true rfl) (by omega) ⟨Nat.le_refl _, Nat.le_refl _, Nat.le_refl _, Nat.le_refl _⟩ h (fun r M' q => ?_)
    obtain ⟨I2, J3, rfl, rfl, h⟩ := q
    change WP _ LAY m_X12_operand 185 [(0, vR (some 74))] [] (mem (P, some 5, some 22) I2 J3) Q
    refine st_iconst (pc' := 186) dX12_operand_185 rfl ?_
    exact st_iret (ty := .boolean) dX12_operand_186 rfl (by decide) rfl h
set_option maxRecDepth 20000 in
set_option maxHeartbeats 4000000 in
theorem B_X12_operand_207 {k : Nat} {P : Option Nat} {I : Nat → Nat → Int32} {J : Nat → Nat → Int64}  {Q : Option AV → Mem → Prop} (hk : 2 ≤ k) (h : (¬ (gi I 74 3 = 1 ∧ gl J 74 7 = 7170414) → (WPm (k - 1) LAY m_X12_ahead [vR (some 74)] (mem (P, some 5, some 22) I J) (retV (fun I2 J3 => ((gi I2 74 12) = (-1) → (((gi I2 74 3 = 3 ∧ gi I2 74 6 = 40) → (WP k LAY m_X12_operand 251 [(0, vR (some 74)), (3, vI 16)] [] (mem (P, some 5, some 22) I2 J3) Q)) ∧ (¬ (gi I2 74 3 = 3 ∧ gi I2 74 6 = 40) → (((gi I2 74 8) ≤ 0 → (WP k LAY m_X12_operand 251 [(0, vR (some 74)), (3, vI 16)] [] (mem (P, some 5, some 22) (si (si I2 74 8 1) 74 9 (gi I2 74 4)) J3) Q)) ∧ (¬ (gi I2 74 8) ≤ 0 → (WP k LAY m_X12_operand 251 [(0, vR (some 74)), (3, vI 16)] [] (mem (P, some 5, some 22) I2 J3) Q)))))) ∧ (¬ (gi I2 74 12) = (-1) → (((gi I2 74 8) ≤ 0 → (((gi (si (si I2 74 8 1) 74 9 (gi I2 74 12)) 74 3 = 3 ∧ gi (si (si I2 74 8 1) 74 9 (gi I2 74 12)) 74 6 = 40) → (WP k LAY m_X12_operand 251 [(0, vR (some 74)), (3, vI 16)] [] (mem (P, some 5, some 22) (si (si I2 74 8 1) 74 9 (gi I2 74 12)) J3) Q)) ∧ (¬ (gi (si (si I2 74 8 1) 74 9 (gi I2 74 12)) 74 3 = 3 ∧ gi (si (si I2 74 8 1) 74 9 (gi I2 74 12)) 74 6 = 40) → (((gi (si (si I2 74 8 1) 74 9 (gi I2 74 12)) 74 8) ≤ 0 → (WP k LAY m_X12_operand 251 [(0, vR (some 74)), (3, vI 16)] [] (mem (P, some 5, some 22) (si (si (si (si I2 74 8 1) 74 9 (gi I2 74 12)) 74 8 1) 74 9 (gi I2 74 4)) J3) Q)) ∧ (¬ (gi (si (si I2 74 8 1) 74 9 (gi I2 74 12)) 74 8) ≤ 0 → (WP k LAY m_X12_operand 251 [(0, vR (some 74)), (3, vI 16)] [] (mem (P, some 5, some 22) (si (si I2 74 8 1) 74 9 (gi I2 74 12)) J3) Q)))))) ∧ (¬ (gi I2 74 8) ≤ 0 → (((gi I2 74 3 = 3 ∧ gi I2 74 6 = 40) → (WP k LAY m_X12_operand 251 [(0, vR (some 74)), (3, vI 16)] [] (mem (P, some 5, some 22) I2 J3) Q)) ∧ (¬ (gi I2 74 3 = 3 ∧ gi I2 74 6 = 40) → (((gi I2 74 8) ≤ 0 → (WP k LAY m_X12_operand 251 [(0, vR (some 74)), (3, vI 16)] [] (mem (P, some 5, some 22) (si (si I2 74 8 1) 74 9 (gi I2 74 4)) J3) Q)) ∧ (¬ (gi I2 74 8) ≤ 0 → (WP k LAY m_X12_operand 251 [(0, vR (some 74)), (3, vI 16)] [] (mem (P, some 5, some 22) I2 J3) Q))))))))) (P, some 5, some 22)))) ∧ ((gi I 74 3 = 1 ∧ gl J 74 7 = 7170414) → (WPm (k - 1) LAY m_X12_ahead [vR (some 74)] (mem (P, some 5, some 22) I J) (retV (fun I5 J6 => ((gi I5 74 12) = (-1) → (((gi I5 74 3 = 3 ∧ gi I5 74 6 = 40) → (WP k LAY m_X12_operand 251 [(0, vR (some 74)), (3, vI 15)] [] (mem (P, some 5, some 22) I5 J6) Q)) ∧ (¬ (gi I5 74 3 = 3 ∧ gi I5 74 6 = 40) → (((gi I5 74 8) ≤ 0 → (WP k LAY m_X12_operand 251 [(0, vR (some 74)), (3, vI 15)] [] (mem (P, some 5, some 22) (si (si I5 74 8 1) 74 9 (gi I5 74 4)) J6) Q)) ∧ (¬ (gi I5 74 8) ≤ 0 → (WP k LAY m_X12_operand 251 [(0, vR (some 74)), (3, vI 15)] [] (mem (P, some 5, some 22) I5 J6) Q)))))) ∧ (¬ (gi I5 74 12) = (-1) → (((gi I5 74 8) ≤ 0 → (((gi (si (si I5 74 8 1) 74 9 (gi I5 74 12)) 74 3 = 3 ∧ gi (si (si I5 74 8 1) 74 9 (gi I5 74 12)) 74 6 = 40) → (WP k LAY m_X12_operand 251 [(0, vR (some 74)), (3, vI 15)] [] (mem (P, some 5, some 22) (si (si I5 74 8 1) 74 9 (gi I5 74 12)) J6) Q)) ∧ (¬ (gi (si (si I5 74 8 1) 74 9 (gi I5 74 12)) 74 3 = 3 ∧ gi (si (si I5 74 8 1) 74 9 (gi I5 74 12)) 74 6 = 40) → (((gi (si (si I5 74 8 1) 74 9 (gi I5 74 12)) 74 8) ≤ 0 → (WP k LAY m_X12_operand 251 [(0, vR (some 74)), (3, vI 15)] [] (mem (P, some 5, some 22) (si (si (si (si I5 74 8 1) 74 9 (gi I5 74 12)) 74 8 1) 74 9 (gi I5 74 4)) J6) Q)) ∧ (¬ (gi (si (si I5 74 8 1) 74 9 (gi I5 74 12)) 74 8) ≤ 0 → (WP k LAY m_X12_operand 251 [(0, vR (some 74)), (3, vI 15)] [] (mem (P, some 5, some 22) (si (si I5 74 8 1) 74 9 (gi I5 74 12)) J6) Q)))))) ∧ (¬ (gi I5 74 8) ≤ 0 → (((gi I5 74 3 = 3 ∧ gi I5 74 6 = 40) → (WP k LAY m_X12_operand 251 [(0, vR (some 74)), (3, vI 15)] [] (mem (P, some 5, some 22) I5 J6) Q)) ∧ (¬ (gi I5 74 3 = 3 ∧ gi I5 74 6 = 40) → (((gi I5 74 8) ≤ 0 → (WP k LAY m_X12_operand 251 [(0, vR (some 74)), (3, vI 15)] [] (mem (P, some 5, some 22) (si (si I5 74 8 1) 74 9 (gi I5 74 4)) J6) Q)) ∧ (¬ (gi I5 74 8) ≤ 0 → (WP k LAY m_X12_operand 251 [(0, vR (some 74)), (3, vI 15)] [] (mem (P, some 5, some 22) I5 J6) Q))))))))) (P, some 5, some 22))))) : WP k LAY m_X12_operand 207 [(0, vR (some 74))] [] (mem (P, some 5, some 22) I J) Q := by
  refine st_aload_n (pc' := 208) dX12_operand_207 rfl rfl (j := 0) rfl ?_
  refine st_ldc2 (pc' := 211) (z := 7170414) dX12_operand_208 rfl q_X12_357 (by decide) ?_
  refine st_callV (pc' := 214) (kc := k - 1) (E' := LAY) (cal := m_X12_isWord) (n := 1) (as := [vL 7170414]) (S := []) dX12_operand_211 rfl l_X12_385 k_X12_isWord rfl L_74 c_X12 rfl rfl (Nat.le_of_ble_eq_true rfl) (by omega) ⟨Nat.le_refl _, Nat.le_refl _, Nat.le_refl _, Nat.le_refl _⟩ (Q1 := fun r M' => WP k LAY m_X12_operand 214 [(0, vR (some 74))] (r.toList ++ []) M' Q) (S_X12_isWord (by omega) (by decide) ?_) (fun r M' q => q)
  change WP _ LAY m_X12_operand 214 [(0, vR (some 74))] [vI (b2i (gi I 74 3 = 1 ∧ gl J 74 7 = 7170414))] (mem (P, some 5, some 22) I J) Q
  refine st_if_eq (tg := 222) (pc' := 217) dX12_operand_214 (by decide) rfl (b2i_in _) (fun c => ?_) (fun c => ?_)
  · replace h := h.1 (b2i_f.mp c)
    refine st_bipush (pc' := 224) dX12_operand_222 rfl (by decide) ?_
    refine st_istore_n (pc' := 225) (L' := [(3, vI 16), (0, vR (some 74))]) dX12_operand_224 rfl rfl (by decide) rfl ?_
    refine st_aload_n (pc' := 226) dX12_operand_225 rfl rfl (j := 1) rfl ?_
    refine st_callV (pc' := 229) (kc := k - 1) (E' := LAY) (cal := m_X12_ahead) (n := 0) (as := []) (S := []) dX12_operand_226 rfl l_X12_308 k_X12_ahead rfl L_74 c_X12 rfl rfl (Nat.le_of_ble_eq_true rfl) (by omega) ⟨Nat.le_refl _, Nat.le_refl _, Nat.le_refl _, Nat.le_refl _⟩ h (fun r M' q => ?_)
    obtain ⟨I2, J3, rfl, rfl, h⟩ := q
    change WP _ LAY m_X12_operand 229 [(3, vI 16), (0, vR (some 74))] [] (mem (P, some 5, some 22) I2 J3) Q
    refine st_aload_n (pc' := 230) dX12_operand_229 rfl rfl (j := 1) rfl ?_
    refine st_callV (pc' := 233) (kc := k - 1) (E' := LAY) (cal := m_X12_lex) (n := 0) (as := []) (S := []) dX12_operand_230 rfl l_X12_302 k_X12_lex rfl L_74 c_X12 rfl rfl (Nat.le_of_ble_eq_true rfl) (by omega) ⟨Nat.le_refl _, Nat.le_refl _, Nat.le_refl _, Nat.le_refl _⟩ (Q1 := fun r M' => WP k LAY m_X12_operand 233 [(3, vI 16), (0, vR (some 74))] (r.toList ++ []) M' Q) (WPm.of k_X12_lex.1 (Nat.le_of_ble_eq_true rfl) (B_X12_lex_0 (by omega) ?_)) (fun r M' q => q)
    refine ⟨fun c => ?_, fun c => ?_⟩
    · replace h := h.1 c
      change WP _ LAY m_X12_operand 233 [(3, vI 16), (0, vR (some 74))] [] (mem (P, some 5, some 22) I2 J3) Q
      refine st_aload_n (pc' := 234) dX12_operand_233 rfl rfl (j := 1) rfl ?_
      refine st_bipush (pc' := 236) dX12_operand_234 rfl (by decide) ?_
      refine st_callV (pc' := 239) (kc := k - 1) (E' := LAY) (cal := m_X12_isSign) (n := 1) (as := [vI 40]) (S := []) dX12_operand_236 rfl l_X12_305 k_X12_isSign rfl L_74 c_X12 rfl rfl (Nat.le_of_ble_eq_true rfl) (by omega) ⟨Nat.le_refl _, Nat.le_refl _, Nat.le_refl _, Nat.le_refl _⟩ (Q1 := fun r M' => WP k LAY m_X12_operand 239 [(3, vI 16), (0, vR (some 74))] (r.toList ++ []) M' Q) (S_X12_isSign (by omega) (by decide) ?_) (fun r M' q => q)
      change WP _ LAY m_X12_operand 239 [(3, vI 16), (0, vR (some 74))] [vI (b2i (gi I2 74 3 = 3 ∧ gi I2 74 6 = 40))] (mem (P, some 5, some 22) I2 J3) Q
      refine st_if_ne (tg := 251) (pc' := 242) dX12_operand_239 (by decide) rfl (b2i_in _) (fun c => ?_) (fun c => ?_)
      · replace h := h.1 (b2i_t.mp c)
        refine WP_sub (L' := [(0, vR (some 74)), (3, vI 16)]) [1, 0] rfl ?_
        exact h
      · replace h := h.2 (b2i_f.mp c)
        refine st_aload_n (pc' := 243) dX12_operand_242 rfl rfl (j := 1) rfl ?_
        refine st_iconst (pc' := 244) dX12_operand_243 rfl ?_
        refine st_aload_n (pc' := 245) dX12_operand_244 rfl rfl (j := 1) rfl ?_
        refine G_X12_23_74 dX12_operand_245 (pc' := 248) rfl rfl ?_
        refine st_callV (pc' := 251) (kc := k - 1) (E' := LAY) (cal := m_X12_blame) (n := 2) (as := [vI 1, vI (gi I2 74 4)]) (S := []) dX12_operand_248 rfl l_X12_287 k_X12_blame rfl L_74 c_X12 rfl rfl (Nat.le_of_ble_eq_true rfl) (by omega) ⟨Nat.le_refl _, Nat.le_refl _, Nat.le_refl _, Nat.le_refl _⟩ (Q1 := fun r M' => WP k LAY m_X12_operand 251 [(3, vI 16), (0, vR (some 74))] (r.toList ++ []) M' Q) (WPm.of k_X12_blame.1 (Nat.le_of_ble_eq_true rfl) (B_X12_blame_0 (by omega) ?_)) (fun r M' q => q)
        refine ⟨fun c => ?_, fun c => ?_⟩
        · replace h := h.1 c
          change WP _ LAY m_X12_operand 251 [(3, vI 16), (0, vR (some 74))] [] (mem (P, some 5, some 22) (si (si I2 74 8 1) 74 9 (gi I2 74 4)) J3) Q
          refine WP_sub (L' := [(0, vR (some 74)), (3, vI 16)]) [1, 0] rfl ?_
          exact h
        · replace h := h.2 c
          change WP _ LAY m_X12_operand 251 [(3, vI 16), (0, vR (some 74))] [] (mem (P, some 5, some 22) I2 J3) Q
          refine WP_sub (L' := [(0, vR (some 74)), (3, vI 16)]) [1, 0] rfl ?_
          exact h
    · replace h := h.2 c
      refine ⟨fun c => ?_, fun c => ?_⟩
      · replace h := h.1 c
        change WP _ LAY m_X12_operand 233 [(3, vI 16), (0, vR (some 74))] [] (mem (P, some 5, some 22) (si (si I2 74 8 1) 74 9 (gi I2 74 12)) J3) Q
        refine st_aload_n (pc' := 234) dX12_operand_233 rfl rfl (j := 1) rfl ?_
        refine st_bipush (pc' := 236) dX12_operand_234 rfl (by decide) ?_
        refine st_callV (pc' := 239) (kc := k - 1) (E' := LAY) (cal := m_X12_isSign) (n := 1) (as := [vI 40]) (S := []) dX12_operand_236 rfl l_X12_305 k_X12_isSign rfl L_74 c_X12 rfl rfl (Nat.le_of_ble_eq_true rfl) (by omega) ⟨Nat.le_refl _, Nat.le_refl _, Nat.le_refl _, Nat.le_refl _⟩ (Q1 := fun r M' => WP k LAY m_X12_operand 239 [(3, vI 16), (0, vR (some 74))] (r.toList ++ []) M' Q) (S_X12_isSign (by omega) (by decide) ?_) (fun r M' q => q)
        change WP _ LAY m_X12_operand 239 [(3, vI 16), (0, vR (some 74))] [vI (b2i (gi (si (si I2 74 8 1) 74 9 (gi I2 74 12)) 74 3 = 3 ∧ gi (si (si I2 74 8 1) 74 9 (gi I2 74 12)) 74 6 = 40))] (mem (P, some 5, some 22) (si (si I2 74 8 1) 74 9 (gi I2 74 12)) J3) Q
        refine st_if_ne (tg := 251) (pc' := 242) dX12_operand_239 (by decide) rfl (b2i_in _) (fun c => ?_) (fun c => ?_)
        · replace h := h.1 (b2i_t.mp c)
          refine WP_sub (L' := [(0, vR (some 74)), (3, vI 16)]) [1, 0] rfl ?_
          exact h
        · replace h := h.2 (b2i_f.mp c)
          refine st_aload_n (pc' := 243) dX12_operand_242 rfl rfl (j := 1) rfl ?_
          refine st_iconst (pc' := 244) dX12_operand_243 rfl ?_
          refine st_aload_n (pc' := 245) dX12_operand_244 rfl rfl (j := 1) rfl ?_
          refine G_X12_23_74 dX12_operand_245 (pc' := 248) rfl rfl ?_
          rw [show gi (si (si I2 74 8 1) 74 9 (gi I2 74 12)) 74 4 = (gi I2 74 4) from ((gi_idx _ _ _ (by decide)).trans (gi_idx _ _ _ (by decide)))]
          refine st_callV (pc' := 251) (kc := k - 1) (E' := LAY) (cal := m_X12_blame) (n := 2) (as := [vI 1, vI (gi I2 74 4)]) (S := []) dX12_operand_248 rfl l_X12_287 k_X12_blame rfl L_74 c_X12 rfl rfl (Nat.le_of_ble_eq_true rfl) (by omega) ⟨Nat.le_refl _, Nat.le_refl _, Nat.le_refl _, Nat.le_refl _⟩ (Q1 := fun r M' => WP k LAY m_X12_operand 251 [(3, vI 16), (0, vR (some 74))] (r.toList ++ []) M' Q) (WPm.of k_X12_blame.1 (Nat.le_of_ble_eq_true rfl) (B_X12_blame_0 (by omega) ?_)) (fun r M' q => q)
          refine ⟨fun c => ?_, fun c => ?_⟩
          · replace h := h.1 c
            change WP _ LAY m_X12_operand 251 [(3, vI 16), (0, vR (some 74))] [] (mem (P, some 5, some 22) (si (si (si (si I2 74 8 1) 74 9 (gi I2 74 12)) 74 8 1) 74 9 (gi I2 74 4)) J3) Q
            refine WP_sub (L' := [(0, vR (some 74)), (3, vI 16)]) [1, 0] rfl ?_
            exact h
          · replace h := h.2 c
            change WP _ LAY m_X12_operand 251 [(3, vI 16), (0, vR (some 74))] [] (mem (P, some 5, some 22) (si (si I2 74 8 1) 74 9 (gi I2 74 12)) J3) Q
            refine WP_sub (L' := [(0, vR (some 74)), (3, vI 16)]) [1, 0] rfl ?_
            exact h
      · replace h := h.2 c
        change WP _ LAY m_X12_operand 233 [(3, vI 16), (0, vR (some 74))] [] (mem (P, some 5, some 22) I2 J3) Q
        refine st_aload_n (pc' := 234) dX12_operand_233 rfl rfl (j := 1) rfl ?_
        refine st_bipush (pc' := 236) dX12_operand_234 rfl (by decide) ?_
        refine st_callV (pc' := 239) (kc := k - 1) (E' := LAY) (cal := m_X12_isSign) (n := 1) (as := [vI 40]) (S := []) dX12_operand_236 rfl l_X12_305 k_X12_isSign rfl L_74 c_X12 rfl rfl (Nat.le_of_ble_eq_true rfl) (by omega) ⟨Nat.le_refl _, Nat.le_refl _, Nat.le_refl _, Nat.le_refl _⟩ (Q1 := fun r M' => WP k LAY m_X12_operand 239 [(3, vI 16), (0, vR (some 74))] (r.toList ++ []) M' Q) (S_X12_isSign (by omega) (by decide) ?_) (fun r M' q => q)
        change WP _ LAY m_X12_operand 239 [(3, vI 16), (0, vR (some 74))] [vI (b2i (gi I2 74 3 = 3 ∧ gi I2 74 6 = 40))] (mem (P, some 5, some 22) I2 J3) Q
        refine st_if_ne (tg := 251) (pc' := 242) dX12_operand_239 (by decide) rfl (b2i_in _) (fun c => ?_) (fun c => ?_)
        · replace h := h.1 (b2i_t.mp c)
          refine WP_sub (L' := [(0, vR (some 74)), (3, vI 16)]) [1, 0] rfl ?_
          exact h
        · replace h := h.2 (b2i_f.mp c)
          refine st_aload_n (pc' := 243) dX12_operand_242 rfl rfl (j := 1) rfl ?_
          refine st_iconst (pc' := 244) dX12_operand_243 rfl ?_
          refine st_aload_n (pc' := 245) dX12_operand_244 rfl rfl (j := 1) rfl ?_
          refine G_X12_23_74 dX12_operand_245 (pc' := 248) rfl rfl ?_
          refine st_callV (pc' := 251) (kc := k - 1) (E' := LAY) (cal := m_X12_blame) (n := 2) (as := [vI 1, vI (gi I2 74 4)]) (S := []) dX12_operand_248 rfl l_X12_287 k_X12_blame rfl L_74 c_X12 rfl rfl (Nat.le_of_ble_eq_true rfl) (by omega) ⟨Nat.le_refl _, Nat.le_refl _, Nat.le_refl _, Nat.le_refl _⟩ (Q1 := fun r M' => WP k LAY m_X12_operand 251 [(3, vI 16), (0, vR (some 74))] (r.toList ++ []) M' Q) (WPm.of k_X12_blame.1 (Nat.le_of_ble_eq_true rfl) (B_X12_blame_0 (by omega) ?_)) (fun r M' q => q)
          refine ⟨fun c => ?_, fun c => ?_⟩
          · replace h := h.1 c
            change WP _ LAY m_X12_operand 251 [(3, vI 16), (0, vR (some 74))] [] (mem (P, some 5, some 22) (si (si I2 74 8 1) 74 9 (gi I2 74 4)) J3) Q
            refine WP_sub (L' := [(0, vR (some 74)), (3, vI 16)]) [1, 0] rfl ?_
            exact h
          · replace h := h.2 c
            change WP _ LAY m_X12_operand 251 [(3, vI 16), (0, vR (some 74))] [] (mem (P, some 5, some 22) I2 J3) Q
            refine WP_sub (L' := [(0, vR (some 74)), (3, vI 16)]) [1, 0] rfl ?_
            exact h
  · replace h := h.2 (b2i_t.mp c)
    refine st_bipush (pc' := 219) dX12_operand_217 rfl (by decide) ?_
    refine st_goto (pc' := 224) dX12_operand_219 (by decide) ?_
    refine st_istore_n (pc' := 225) (L' := [(3, vI 15), (0, vR (some 74))]) dX12_operand_224 rfl rfl (by decide) rfl ?_
    refine st_aload_n (pc' := 226) dX12_operand_225 rfl rfl (j := 1) rfl ?_
    refine st_callV (pc' := 229) (kc := k - 1) (E' := LAY) (cal := m_X12_ahead) (n := 0) (as := []) (S := []) dX12_operand_226 rfl l_X12_308 k_X12_ahead rfl L_74 c_X12 rfl rfl (Nat.le_of_ble_eq_true rfl) (by omega) ⟨Nat.le_refl _, Nat.le_refl _, Nat.le_refl _, Nat.le_refl _⟩ h (fun r M' q => ?_)
    obtain ⟨I5, J6, rfl, rfl, h⟩ := q
    change WP _ LAY m_X12_operand 229 [(3, vI 15), (0, vR (some 74))] [] (mem (P, some 5, some 22) I5 J6) Q
    refine st_aload_n (pc' := 230) dX12_operand_229 rfl rfl (j := 1) rfl ?_
    refine st_callV (pc' := 233) (kc := k - 1) (E' := LAY) (cal := m_X12_lex) (n := 0) (as := []) (S := []) dX12_operand_230 rfl l_X12_302 k_X12_lex rfl L_74 c_X12 rfl rfl (Nat.le_of_ble_eq_true rfl) (by omega) ⟨Nat.le_refl _, Nat.le_refl _, Nat.le_refl _, Nat.le_refl _⟩ (Q1 := fun r M' => WP k LAY m_X12_operand 233 [(3, vI 15), (0, vR (some 74))] (r.toList ++ []) M' Q) (WPm.of k_X12_lex.1 (Nat.le_of_ble_eq_true rfl) (B_X12_lex_0 (by omega) ?_)) (fun r M' q => q)
    refine ⟨fun c => ?_, fun c => ?_⟩
    · replace h := h.1 c
      change WP _ LAY m_X12_operand 233 [(3, vI 15), (0, vR (some 74))] [] (mem (P, some 5, some 22) I5 J6) Q
      refine st_aload_n (pc' := 234) dX12_operand_233 rfl rfl (j := 1) rfl ?_
      refine st_bipush (pc' := 236) dX12_operand_234 rfl (by decide) ?_
      refine st_callV (pc' := 239) (kc := k - 1) (E' := LAY) (cal := m_X12_isSign) (n := 1) (as := [vI 40]) (S := []) dX12_operand_236 rfl l_X12_305 k_X12_isSign rfl L_74 c_X12 rfl rfl (Nat.le_of_ble_eq_true rfl) (by omega) ⟨Nat.le_refl _, Nat.le_refl _, Nat.le_refl _, Nat.le_refl _⟩ (Q1 := fun r M' => WP k LAY m_X12_operand 239 [(3, vI 15), (0, vR (some 74))] (r.toList ++ []) M' Q) (S_X12_isSign (by omega) (by decide) ?_) (fun r M' q => q)
      change WP _ LAY m_X12_operand 239 [(3, vI 15), (0, vR (some 74))] [vI (b2i (gi I5 74 3 = 3 ∧ gi I5 74 6 = 40))] (mem (P, some 5, some 22) I5 J6) Q
      refine st_if_ne (tg := 251) (pc' := 242) dX12_operand_239 (by decide) rfl (b2i_in _) (fun c => ?_) (fun c => ?_)
      · replace h := h.1 (b2i_t.mp c)
        refine WP_sub (L' := [(0, vR (some 74)), (3, vI 15)]) [1, 0] rfl ?_
        exact h
      · replace h := h.2 (b2i_f.mp c)
        refine st_aload_n (pc' := 243) dX12_operand_242 rfl rfl (j := 1) rfl ?_
        refine st_iconst (pc' := 244) dX12_operand_243 rfl ?_
        refine st_aload_n (pc' := 245) dX12_operand_244 rfl rfl (j := 1) rfl ?_
        refine G_X12_23_74 dX12_operand_245 (pc' := 248) rfl rfl ?_
        refine st_callV (pc' := 251) (kc := k - 1) (E' := LAY) (cal := m_X12_blame) (n := 2) (as := [vI 1, vI (gi I5 74 4)]) (S := []) dX12_operand_248 rfl l_X12_287 k_X12_blame rfl L_74 c_X12 rfl rfl (Nat.le_of_ble_eq_true rfl) (by omega) ⟨Nat.le_refl _, Nat.le_refl _, Nat.le_refl _, Nat.le_refl _⟩ (Q1 := fun r M' => WP k LAY m_X12_operand 251 [(3, vI 15), (0, vR (some 74))] (r.toList ++ []) M' Q) (WPm.of k_X12_blame.1 (Nat.le_of_ble_eq_true rfl) (B_X12_blame_0 (by omega) ?_)) (fun r M' q => q)
        refine ⟨fun c => ?_, fun c => ?_⟩
        · replace h := h.1 c
          change WP _ LAY m_X12_operand 251 [(3, vI 15), (0, vR (some 74))] [] (mem (P, some 5, some 22) (si (si I5 74 8 1) 74 9 (gi I5 74 4)) J6) Q
          refine WP_sub (L' := [(0, vR (some 74)), (3, vI 15)]) [1, 0] rfl ?_
          exact h
        · replace h := h.2 c
          change WP _ LAY m_X12_operand 251 [(3, vI 15), (0, vR (some 74))] [] (mem (P, some 5, some 22) I5 J6) Q
          refine WP_sub (L' := [(0, vR (some 74)), (3, vI 15)]) [1, 0] rfl ?_
          exact h
    · replace h := h.2 c
      refine ⟨fun c => ?_, fun c => ?_⟩
      · replace h := h.1 c
        change WP _ LAY m_X12_operand 233 [(3, vI 15), (0, vR (some 74))] [] (mem (P, some 5, some 22) (si (si I5 74 8 1) 74 9 (gi I5 74 12)) J6) Q
        refine st_aload_n (pc' := 234) dX12_operand_233 rfl rfl (j := 1) rfl ?_
        refine st_bipush (pc' := 236) dX12_operand_234 rfl (by decide) ?_
        refine st_callV (pc' := 239) (kc := k - 1) (E' := LAY) (cal := m_X12_isSign) (n := 1) (as := [vI 40]) (S := []) dX12_operand_236 rfl l_X12_305 k_X12_isSign rfl L_74 c_X12 rfl rfl (Nat.le_of_ble_eq_true rfl) (by omega) ⟨Nat.le_refl _, Nat.le_refl _, Nat.le_refl _, Nat.le_refl _⟩ (Q1 := fun r M' => WP k LAY m_X12_operand 239 [(3, vI 15), (0, vR (some 74))] (r.toList ++ []) M' Q) (S_X12_isSign (by omega) (by decide) ?_) (fun r M' q => q)
        change WP _ LAY m_X12_operand 239 [(3, vI 15), (0, vR (some 74))] [vI (b2i (gi (si (si I5 74 8 1) 74 9 (gi I5 74 12)) 74 3 = 3 ∧ gi (si (si I5 74 8 1) 74 9 (gi I5 74 12)) 74 6 = 40))] (mem (P, some 5, some 22) (si (si I5 74 8 1) 74 9 (gi I5 74 12)) J6) Q
        refine st_if_ne (tg := 251) (pc' := 242) dX12_operand_239 (by decide) rfl (b2i_in _) (fun c => ?_) (fun c => ?_)
        · replace h := h.1 (b2i_t.mp c)
          refine WP_sub (L' := [(0, vR (some 74)), (3, vI 15)]) [1, 0] rfl ?_
          exact h
        · replace h := h.2 (b2i_f.mp c)
          refine st_aload_n (pc' := 243) dX12_operand_242 rfl rfl (j := 1) rfl ?_
          refine st_iconst (pc' := 244) dX12_operand_243 rfl ?_
          refine st_aload_n (pc' := 245) dX12_operand_244 rfl rfl (j := 1) rfl ?_
          refine G_X12_23_74 dX12_operand_245 (pc' := 248) rfl rfl ?_
          rw [show gi (si (si I5 74 8 1) 74 9 (gi I5 74 12)) 74 4 = (gi I5 74 4) from ((gi_idx _ _ _ (by decide)).trans (gi_idx _ _ _ (by decide)))]
          refine st_callV (pc' := 251) (kc := k - 1) (E' := LAY) (cal := m_X12_blame) (n := 2) (as := [vI 1, vI (gi I5 74 4)]) (S := []) dX12_operand_248 rfl l_X12_287 k_X12_blame rfl L_74 c_X12 rfl rfl (Nat.le_of_ble_eq_true rfl) (by omega) ⟨Nat.le_refl _, Nat.le_refl _, Nat.le_refl _, Nat.le_refl _⟩ (Q1 := fun r M' => WP k LAY m_X12_operand 251 [(3, vI 15), (0, vR (some 74))] (r.toList ++ []) M' Q) (WPm.of k_X12_blame.1 (Nat.le_of_ble_eq_true rfl) (B_X12_blame_0 (by omega) ?_)) (fun r M' q => q)
          refine ⟨fun c => ?_, fun c => ?_⟩
          · replace h := h.1 c
            change WP _ LAY m_X12_operand 251 [(3, vI 15), (0, vR (some 74))] [] (mem (P, some 5, some 22) (si (si (si (si I5 74 8 1) 74 9 (gi I5 74 12)) 74 8 1) 74 9 (gi I5 74 4)) J6) Q
            refine WP_sub (L' := [(0, vR (some 74)), (3, vI 15)]) [1, 0] rfl ?_
            exact h
          · replace h := h.2 c
            change WP _ LAY m_X12_operand 251 [(3, vI 15), (0, vR (some 74))] [] (mem (P, some 5, some 22) (si (si I5 74 8 1) 74 9 (gi I5 74 12)) J6) Q
            refine WP_sub (L' := [(0, vR (some 74)), (3, vI 15)]) [1, 0] rfl ?_
            exact h
      · replace h := h.2 c
        change WP _ LAY m_X12_operand 233 [(3, vI 15), (0, vR (some 74))] [] (mem (P, some 5, some 22) I5 J6) Q
        refine st_aload_n (pc' := 234) dX12_operand_233 rfl rfl (j := 1) rfl ?_
        refine st_bipush (pc' := 236) dX12_operand_234 rfl (by decide) ?_
        refine st_callV (pc' := 239) (kc := k - 1) (E' := LAY) (cal := m_X12_isSign) (n := 1) (as := [vI 40]) (S := []) dX12_operand_236 rfl l_X12_305 k_X12_isSign rfl L_74 c_X12 rfl rfl (Nat.le_of_ble_eq_true rfl) (by omega) ⟨Nat.le_refl _, Nat.le_refl _, Nat.le_refl _, Nat.le_refl _⟩ (Q1 := fun r M' => WP k LAY m_X12_operand 239 [(3, vI 15), (0, vR (some 74))] (r.toList ++ []) M' Q) (S_X12_isSign (by omega) (by decide) ?_) (fun r M' q => q)
        change WP _ LAY m_X12_operand 239 [(3, vI 15), (0, vR (some 74))] [vI (b2i (gi I5 74 3 = 3 ∧ gi I5 74 6 = 40))] (mem (P, some 5, some 22) I5 J6) Q
        refine st_if_ne (tg := 251) (pc' := 242) dX12_operand_239 (by decide) rfl (b2i_in _) (fun c => ?_) (fun c => ?_)
        · replace h := h.1 (b2i_t.mp c)
          refine WP_sub (L' := [(0, vR (some 74)), (3, vI 15)]) [1, 0] rfl ?_
          exact h
        · replace h := h.2 (b2i_f.mp c)
          refine st_aload_n (pc' := 243) dX12_operand_242 rfl rfl (j := 1) rfl ?_
          refine st_iconst (pc' := 244) dX12_operand_243 rfl ?_
          refine st_aload_n (pc' := 245) dX12_operand_244 rfl rfl (j := 1) rfl ?_
          refine G_X12_23_74 dX12_operand_245 (pc' := 248) rfl rfl ?_
          refine st_callV (pc' := 251) (kc := k - 1) (E' := LAY) (cal := m_X12_blame) (n := 2) (as := [vI 1, vI (gi I5 74 4)]) (S := []) dX12_operand_248 rfl l_X12_287 k_X12_blame rfl L_74 c_X12 rfl rfl (Nat.le_of_ble_eq_true rfl) (by omega) ⟨Nat.le_refl _, Nat.le_refl _, Nat.le_refl _, Nat.le_refl _⟩ (Q1 := fun r M' => WP k LAY m_X12_operand 251 [(3, vI 15), (0, vR (some 74))] (r.toList ++ []) M' Q) (WPm.of k_X12_blame.1 (Nat.le_of_ble_eq_true rfl) (B_X12_blame_0 (by omega) ?_)) (fun r M' q => q)
          refine ⟨fun c => ?_, fun c => ?_⟩
          · replace h := h.1 c
            change WP _ LAY m_X12_operand 251 [(3, vI 15), (0, vR (some 74))] [] (mem (P, some 5, some 22) (si (si I5 74 8 1) 74 9 (gi I5 74 4)) J6) Q
            refine WP_sub (L' := [(0, vR (some 74)), (3, vI 15)]) [1, 0] rfl ?_
            exact h
          · replace h := h.2 c
            change WP _ LAY m_X12_operand 251 [(3, vI 15), (0, vR (some 74))] [] (mem (P, some 5, some 22) I5 J6) Q
            refine WP_sub (L' := [(0, vR (some 74)), (3, vI 15)]) [1, 0] rfl ?_
            exact h
set_option maxRecDepth 20000 in
set_option maxHeartbeats 4000000 in
theorem B_X12_operand_420 {k : Nat} {P : Option Nat} {I : Nat → Nat → Int32} {J : Nat → Nat → Int64} {s0 : Int} {Q : Option AV → Mem → Prop} (hk : 1 ≤ k) (h : inR s0 ∧ ((¬ s0 = (-1) → (((gi I 74 8) ≤ 0 → ((0 ≤ ((1600 * (gi I 74 40)) + (gi I 74 39)) ∧ ((1600 * (gi I 74 40)) + (gi I 74 39)) < 3200) ∧ (WPm (k - 1) LAY m_X12_ahead [vR (some 74)] (mem (P, some 5, some 22) (si (si (si I 95 ((1600 * (gi I 74 40)) + (gi I 74 39)).toNat s0) 96 ((1600 * (gi I 74 40)) + (gi I 74 39)).toNat (gi I 74 6)) 74 39 ((gi I 74 39) + 1)) J) (retV (fun I4 J5 => Q (some (vI 1)) (mem (P, some 5, some 22) I4 J5)) (P, some 5, some 22))))) ∧ (¬ (gi I 74 8) ≤ 0 → (Q (some (vI 1)) (mem (P, some 5, some 22) I J))))) ∧ (s0 = (-1) → (((gi I 74 8) ≤ 0 → (Q (some (vI 1)) (mem (P, some 5, some 22) (si (si I 74 8 1) 74 9 (gi I 74 4)) J))) ∧ (¬ (gi I 74 8) ≤ 0 → (((gi I 74 8) ≤ 0 → ((0 ≤ ((1600 * (gi I 74 40)) + (gi I 74 39)) ∧ ((1600 * (gi I 74 40)) + (gi I 74 39)) < 3200) ∧ (WPm (k - 1) LAY m_X12_ahead [vR (some 74)] (mem (P, some 5, some 22) (si (si (si I 95 ((1600 * (gi I 74 40)) + (gi I 74 39)).toNat s0) 96 ((1600 * (gi I 74 40)) + (gi I 74 39)).toNat (gi I 74 6)) 74 39 ((gi I 74 39) + 1)) J) (retV (fun I8 J9 => Q (some (vI 1)) (mem (P, some 5, some 22) I8 J9)) (P, some 5, some 22))))) ∧ (¬ (gi I 74 8) ≤ 0 → (Q (some (vI 1)) (mem (P, some 5, some 22) I J))))))))) : WP k LAY m_X12_operand 420 [(0, vR (some 74))] [vI s0] (mem (P, some 5, some 22) I J) Q := by
  refine st_istore_n (pc' := 421) (L' := [(3, vI s0), (0, vR (some 74))]) dX12_operand_420 rfl rfl (by decide) rfl ?_
  refine st_iload_n (pc' := 422) dX12_operand_421 rfl rfl (j := 0) rfl ?_
  refine st_iconst (pc' := 423) dX12_operand_422 rfl ?_
  obtain ⟨e1, h⟩ := h
  refine st_icmp_ne (tg := 435) (pc' := 426) dX12_operand_423 (by decide) rfl e1 (by decide) (fun c => ?_) (fun c => ?_)
  · replace h := h.1 c
    refine st_aload_n (pc' := 436) dX12_operand_435 rfl rfl (j := 1) rfl ?_
    refine G_X12_36_74 dX12_operand_436 (pc' := 439) rfl rfl ?_
    refine st_if_le (tg := 444) (pc' := 442) dX12_operand_439 (by decide) rfl (gi_in _ _ _) (fun c => ?_) (fun c => ?_)
    · replace h := h.1 c
      refine st_aload_n (pc' := 445) dX12_operand_444 rfl rfl (j := 1) rfl ?_
      refine st_iload_n (pc' := 446) dX12_operand_445 rfl rfl (j := 0) rfl ?_
      refine st_aload_n (pc' := 447) dX12_operand_446 rfl rfl (j := 1) rfl ?_
      refine G_X12_29_74 dX12_operand_447 (pc' := 450) rfl rfl ?_
      refine st_callV (pc' := 453) (kc := k - 1) (E' := LAY) (cal := m_X12_add) (n := 2) (as := [vI s0, vI (gi I 74 6)]) (S := []) dX12_operand_450 rfl l_X12_376 k_X12_add rfl L_74 c_X12 rfl rfl (Nat.le_of_ble_eq_true rfl) (by omega) ⟨Nat.le_refl _, Nat.le_refl _, Nat.le_refl _, Nat.le_refl _⟩ (Q1 := fun r M' => WP k LAY m_X12_operand 453 [(3, vI s0), (0, vR (some 74))] (r.toList ++ []) M' Q) (WPm.of k_X12_add.1 (Nat.le_of_ble_eq_true rfl) (B_X12_add_0 (by omega) ?_)) (fun r M' q => q)
      obtain ⟨e2, h⟩ := h
      refine ⟨e2, ?_⟩
      change WP _ LAY m_X12_operand 453 [(3, vI s0), (0, vR (some 74))] [] (mem (P, some 5, some 22) (si (si (si I 95 ((1600 * (gi I 74 40)) + (gi I 74 39)).toNat s0) 96 ((1600 * (gi I 74 40)) + (gi I 74 39)).toNat (gi I 74 6)) 74 39 ((gi I 74 39) + 1)) J) Q
      refine st_aload_n (pc' := 454) dX12_operand_453 rfl rfl (j := 1) rfl ?_
      refine st_callV (pc' := 457) (kc := k - 1) (E' := LAY) (cal := m_X12_ahead) (n := 0) (as := []) (S := []) dX12_operand_454 rfl l_X12_308 k_X12_ahead rfl L_74 c_X12 rfl rfl (Nat.le_of_ble_eq_true rfl) (by omega) ⟨Nat.le_refl _, Nat.le_refl _, Nat.le_refl _, Nat.le_refl _⟩ h (fun r M' q => ?_)
      obtain ⟨I4, J5, rfl, rfl, h⟩ := q
      change WP _ LAY m_X12_operand 457 [(3, vI s0), (0, vR (some 74))] [] (mem (P, some 5, some 22) I4 J5) Q
      refine st_iconst (pc' := 458) dX12_operand_457 rfl ?_
      exact st_iret (ty := .boolean) dX12_operand_458 rfl (by decide) rfl h
    · replace h := h.2 c
      refine st_iconst (pc' := 443) dX12_operand_442 rfl ?_
      exact st_iret (ty := .boolean) dX12_operand_443 rfl (by decide) rfl h
  · replace h := h.2 c
    refine st_aload_n (pc' := 427) dX12_operand_426 rfl rfl (j := 1) rfl ?_
    refine st_iconst (pc' := 428) dX12_operand_427 rfl ?_
    refine st_aload_n (pc' := 429) dX12_operand_428 rfl rfl (j := 1) rfl ?_
    refine G_X12_23_74 dX12_operand_429 (pc' := 432) rfl rfl ?_
    refine st_callV (pc' := 435) (kc := k - 1) (E' := LAY) (cal := m_X12_blame) (n := 2) (as := [vI 1, vI (gi I 74 4)]) (S := []) dX12_operand_432 rfl l_X12_287 k_X12_blame rfl L_74 c_X12 rfl rfl (Nat.le_of_ble_eq_true rfl) (by omega) ⟨Nat.le_refl _, Nat.le_refl _, Nat.le_refl _, Nat.le_refl _⟩ (Q1 := fun r M' => WP k LAY m_X12_operand 435 [(3, vI s0), (0, vR (some 74))] (r.toList ++ []) M' Q) (WPm.of k_X12_blame.1 (Nat.le_of_ble_eq_true rfl) (B_X12_blame_0 (by omega) ?_)) (fun r M' q => q)
    refine ⟨fun c => ?_, fun c => ?_⟩
    · replace h := h.1 c
      change WP _ LAY m_X12_operand 435 [(3, vI s0), (0, vR (some 74))] [] (mem (P, some 5, some 22) (si (si I 74 8 1) 74 9 (gi I 74 4)) J) Q
      refine st_aload_n (pc' := 436) dX12_operand_435 rfl rfl (j := 1) rfl ?_
      refine G_X12_36_74 dX12_operand_436 (pc' := 439) rfl rfl ?_
      rw [show gi (si (si I 74 8 1) 74 9 (gi I 74 4)) 74 8 = 1 from ((gi_idx _ _ _ (by decide)).trans (gi_same _ _ _ (by decide)))]
      refine st_if_le (tg := 444) (pc' := 442) dX12_operand_439 (by decide) rfl (by decide) (fun c => ?_) (fun c => ?_)
      · exact absurd c (by decide)
      · refine st_iconst (pc' := 443) dX12_operand_442 rfl ?_
        exact st_iret (ty := .boolean) dX12_operand_443 rfl (by decide) rfl h
    · replace h := h.2 c
      change WP _ LAY m_X12_operand 435 [(3, vI s0), (0, vR (some 74))] [] (mem (P, some 5, some 22) I J) Q
      refine st_aload_n (pc' := 436) dX12_operand_435 rfl rfl (j := 1) rfl ?_
      refine G_X12_36_74 dX12_operand_436 (pc' := 439) rfl rfl ?_
      refine st_if_le (tg := 444) (pc' := 442) dX12_operand_439 (by decide) rfl (gi_in _ _ _) (fun c => ?_) (fun c => ?_)
      · replace h := h.1 c
        refine st_aload_n (pc' := 445) dX12_operand_444 rfl rfl (j := 1) rfl ?_
        refine st_iload_n (pc' := 446) dX12_operand_445 rfl rfl (j := 0) rfl ?_
        refine st_aload_n (pc' := 447) dX12_operand_446 rfl rfl (j := 1) rfl ?_
        refine G_X12_29_74 dX12_operand_447 (pc' := 450) rfl rfl ?_
        refine st_callV (pc' := 453) (kc := k - 1) (E' := LAY) (cal := m_X12_add) (n := 2) (as := [vI s0, vI (gi I 74 6)]) (S := []) dX12_operand_450 rfl l_X12_376 k_X12_add rfl L_74 c_X12 rfl rfl (Nat.le_of_ble_eq_true rfl) (by omega) ⟨Nat.le_refl _, Nat.le_refl _, Nat.le_refl _, Nat.le_refl _⟩ (Q1 := fun r M' => WP k LAY m_X12_operand 453 [(3, vI s0), (0, vR (some 74))] (r.toList ++ []) M' Q) (WPm.of k_X12_add.1 (Nat.le_of_ble_eq_true rfl) (B_X12_add_0 (by omega) ?_)) (fun r M' q => q)
        obtain ⟨e6, h⟩ := h
        refine ⟨e6, ?_⟩
        change WP _ LAY m_X12_operand 453 [(3, vI s0), (0, vR (some 74))] [] (mem (P, some 5, some 22) (si (si (si I 95 ((1600 * (gi I 74 40)) + (gi I 74 39)).toNat s0) 96 ((1600 * (gi I 74 40)) + (gi I 74 39)).toNat (gi I 74 6)) 74 39 ((gi I 74 39) + 1)) J) Q
        refine st_aload_n (pc' := 454) dX12_operand_453 rfl rfl (j := 1) rfl ?_
        refine st_callV (pc' := 457) (kc := k - 1) (E' := LAY) (cal := m_X12_ahead) (n := 0) (as := []) (S := []) dX12_operand_454 rfl l_X12_308 k_X12_ahead rfl L_74 c_X12 rfl rfl (Nat.le_of_ble_eq_true rfl) (by omega) ⟨Nat.le_refl _, Nat.le_refl _, Nat.le_refl _, Nat.le_refl _⟩ h (fun r M' q => ?_)
        obtain ⟨I8, J9, rfl, rfl, h⟩ := q
        change WP _ LAY m_X12_operand 457 [(3, vI s0), (0, vR (some 74))] [] (mem (P, some 5, some 22) I8 J9) Q
        refine st_iconst (pc' := 458) dX12_operand_457 rfl ?_
        exact st_iret (ty := .boolean) dX12_operand_458 rfl (by decide) rfl h
      · replace h := h.2 c
        refine st_iconst (pc' := 443) dX12_operand_442 rfl ?_
        exact st_iret (ty := .boolean) dX12_operand_443 rfl (by decide) rfl h
set_option maxRecDepth 20000 in
set_option maxHeartbeats 4000000 in
theorem B_X12_operand_251 {k : Nat} {P : Option Nat} {I : Nat → Nat → Int32} {J : Nat → Nat → Int64} {x3 : Int} {Q : Option AV → Mem → Prop} (hk : 1 ≤ k) (h : WPm (k - 1) LAY m_X12_opens [vR (some 74), vI 3] (mem (P, some 5, some 22) I J) (retV (fun I2 J3 => (¬ (gi I2 74 8) = 0 → (WP k LAY m_X12_operand 275 [] [] (mem (P, some 5, some 22) I2 J3) Q)) ∧ ((gi I2 74 8) = 0 → ((0 ≤ ((gi I2 74 46) - 1) ∧ ((gi I2 74 46) - 1) < 20) ∧ (WP k LAY m_X12_operand 275 [] [] (mem (P, some 5, some 22) (si I2 104 ((gi I2 74 46) - 1).toNat x3) J3) Q)))) (P, some 5, some 22))) : WP k LAY m_X12_operand 251 [(0, vR (some 74)), (3, vI x3)] [] (mem (P, some 5, some 22) I J) Q := by
  refine st_aload_n (pc' := 252) dX12_operand_251 rfl rfl (j := 0) rfl ?_
  refine st_iconst (pc' := 253) dX12_operand_252 rfl ?_
  refine st_callV (pc' := 256) (kc := k - 1) (E' := LAY) (cal := m_X12_opens) (n := 1) (as := [vI 3]) (S := []) dX12_operand_253 rfl l_X12_391 k_X12_opens rfl L_74 c_X12 rfl rfl (Nat.le_of_ble_eq_true rfl) (by omega) ⟨Nat.le_refl _, Nat.le_refl _, Nat.le_refl _, Nat.le_refl _⟩ h (fun r M' q => ?_)
  obtain ⟨I2, J3, rfl, rfl, h⟩ := q
  change WP _ LAY m_X12_operand 256 [(0, vR (some 74)), (3, vI x3)] [] (mem (P, some 5, some 22) I2 J3) Q
  refine st_aload_n (pc' := 257) dX12_operand_256 rfl rfl (j := 0) rfl ?_
  refine G_X12_36_74 dX12_operand_257 (pc' := 260) rfl rfl ?_
  refine st_if_ne (tg := 275) (pc' := 263) dX12_operand_260 (by decide) rfl (gi_in _ _ _) (fun c => ?_) (fun c => ?_)
  · replace h := h.1 c
    refine WP_sub (L' := []) [] rfl ?_
    exact h
  · replace h := h.2 c
    refine st_aload_n (pc' := 264) dX12_operand_263 rfl rfl (j := 0) rfl ?_
    refine G_X12_146_74 dX12_operand_264 (pc' := 267) rfl rfl ?_
    refine st_aload_n (pc' := 268) dX12_operand_267 rfl rfl (j := 0) rfl ?_
    refine G_X12_152_74 dX12_operand_268 (pc' := 271) rfl rfl ?_
    refine st_iconst (pc' := 272) dX12_operand_271 rfl ?_
    refine st_isub (pc' := 273) dX12_operand_272 rfl ?_
    refine st_iload_n (pc' := 274) dX12_operand_273 rfl rfl (j := 1) rfl ?_
    obtain ⟨e4, h⟩ := h
    refine st_iastore (pc' := 275) (M' := (mem (P, some 5, some 22) (si I2 104 ((gi I2 74 46) - 1).toNat x3) J3)) dX12_operand_274 rfl L_104 (by decide) e4 rfl ?_
    refine WP_sub (L' := []) [] rfl ?_
    exact h
set_option maxRecDepth 20000 in
set_option maxHeartbeats 4000000 in
theorem B_X12_operand_275 {k : Nat} {P : Option Nat} {I : Nat → Nat → Int32} {J : Nat → Nat → Int64}  {Q : Option AV → Mem → Prop} (hk : 0 ≤ k) (h : Q (some (vI 0)) (mem (P, some 5, some 22) I J)) : WP k LAY m_X12_operand 275 [] [] (mem (P, some 5, some 22) I J) Q := by
  refine st_iconst (pc' := 276) dX12_operand_275 rfl ?_
  exact st_iret (ty := .boolean) dX12_operand_276 rfl (by decide) rfl h
set_option maxRecDepth 20000 in
set_option maxHeartbeats 4000000 in
theorem B_X12_rank_0 {k : Nat} {P : Option Nat} {I : Nat → Nat → Int32} {J : Nat → Nat → Int64} {x0 : Int} {Q : Option AV → Mem → Prop} (hk : 0 ≤ k) (h : inR x0 ∧ ((¬ x0 = 21 → ((¬ x0 = 20 → ((¬ x0 = 22 → ((x0 = 17 → (Q (some (vI 4)) (mem (P, some 5, some 22) I J))) ∧ (¬ x0 = 17 → ((x0 = 18 → (Q (some (vI 4)) (mem (P, some 5, some 22) I J))) ∧ (¬ x0 = 18 → ((¬ x0 = 19 → ((x0 = 10 → (Q (some (vI 5)) (mem (P, some 5, some 22) I J))) ∧ (¬ x0 = 10 → ((¬ x0 = 11 → (Q (some (vI 6)) (mem (P, some 5, some 22) I J))) ∧ (x0 = 11 → (Q (some (vI 5)) (mem (P, some 5, some 22) I J))))))) ∧ (x0 = 19 → (Q (some (vI 4)) (mem (P, some 5, some 22) I J))))))))) ∧ (x0 = 22 → (Q (some (vI 3)) (mem (P, some 5, some 22) I J))))) ∧ (x0 = 20 → (Q (some (vI 2)) (mem (P, some 5, some 22) I J))))) ∧ (x0 = 21 → (Q (some (vI 1)) (mem (P, some 5, some 22) I J))))) : WP k LAY m_X12_rank 0 [(0, vI x0)] [] (mem (P, some 5, some 22) I J) Q := by
  refine st_iload_n (pc' := 1) dX12_rank_0 rfl rfl (j := 0) rfl ?_
  refine st_bipush (pc' := 3) dX12_rank_1 rfl (by decide) ?_
  obtain ⟨e1, h⟩ := h
  refine st_icmp_ne (tg := 10) (pc' := 6) dX12_rank_3 (by decide) rfl e1 (by decide) (fun c => ?_) (fun c => ?_)
  · replace h := h.1 c
    refine st_iload_n (pc' := 11) dX12_rank_10 rfl rfl (j := 0) rfl ?_
    refine st_bipush (pc' := 13) dX12_rank_11 rfl (by decide) ?_
    refine st_icmp_ne (tg := 20) (pc' := 16) dX12_rank_13 (by decide) rfl e1 (by decide) (fun c => ?_) (fun c => ?_)
    · replace h := h.1 c
      refine st_iload_n (pc' := 21) dX12_rank_20 rfl rfl (j := 0) rfl ?_
      refine st_bipush (pc' := 23) dX12_rank_21 rfl (by decide) ?_
      refine st_icmp_ne (tg := 30) (pc' := 26) dX12_rank_23 (by decide) rfl e1 (by decide) (fun c => ?_) (fun c => ?_)
      · replace h := h.1 c
        refine st_iload_n (pc' := 31) dX12_rank_30 rfl rfl (j := 0) rfl ?_
        refine st_bipush (pc' := 33) dX12_rank_31 rfl (by decide) ?_
        refine st_icmp_eq (tg := 48) (pc' := 36) dX12_rank_33 (by decide) rfl e1 (by decide) (fun c => ?_) (fun c => ?_)
        · replace h := h.1 c
          refine st_iconst (pc' := 49) dX12_rank_48 rfl ?_
          refine st_goto (pc' := 70) dX12_rank_49 (by decide) ?_
          exact st_iret (ty := .int) dX12_rank_70 rfl rfl rfl h
        · replace h := h.2 c
          refine st_iload_n (pc' := 37) dX12_rank_36 rfl rfl (j := 0) rfl ?_
          refine st_bipush (pc' := 39) dX12_rank_37 rfl (by decide) ?_
          refine st_icmp_eq (tg := 48) (pc' := 42) dX12_rank_39 (by decide) rfl e1 (by decide) (fun c => ?_) (fun c => ?_)
          · replace h := h.1 c
            refine st_iconst (pc' := 49) dX12_rank_48 rfl ?_
            refine st_goto (pc' := 70) dX12_rank_49 (by decide) ?_
            exact st_iret (ty := .int) dX12_rank_70 rfl rfl rfl h
          · replace h := h.2 c
            refine st_iload_n (pc' := 43) dX12_rank_42 rfl rfl (j := 0) rfl ?_
            refine st_bipush (pc' := 45) dX12_rank_43 rfl (by decide) ?_
            refine st_icmp_ne (tg := 52) (pc' := 48) dX12_rank_45 (by decide) rfl e1 (by decide) (fun c => ?_) (fun c => ?_)
            · replace h := h.1 c
              refine st_iload_n (pc' := 53) dX12_rank_52 rfl rfl (j := 0) rfl ?_
              refine st_bipush (pc' := 55) dX12_rank_53 rfl (by decide) ?_
              refine st_icmp_eq (tg := 64) (pc' := 58) dX12_rank_55 (by decide) rfl e1 (by decide) (fun c => ?_) (fun c => ?_)
              · replace h := h.1 c
                refine st_iconst (pc' := 65) dX12_rank_64 rfl ?_
                refine st_goto (pc' := 70) dX12_rank_65 (by decide) ?_
                exact st_iret (ty := .int) dX12_rank_70 rfl rfl rfl h
              · replace h := h.2 c
                refine st_iload_n (pc' := 59) dX12_rank_58 rfl rfl (j := 0) rfl ?_
                refine st_bipush (pc' := 61) dX12_rank_59 rfl (by decide) ?_
                refine st_icmp_ne (tg := 68) (pc' := 64) dX12_rank_61 (by decide) rfl e1 (by decide) (fun c => ?_) (fun c => ?_)
                · replace h := h.1 c
                  refine st_bipush (pc' := 70) dX12_rank_68 rfl (by decide) ?_
                  exact st_iret (ty := .int) dX12_rank_70 rfl rfl rfl h
                · replace h := h.2 c
                  refine st_iconst (pc' := 65) dX12_rank_64 rfl ?_
                  refine st_goto (pc' := 70) dX12_rank_65 (by decide) ?_
                  exact st_iret (ty := .int) dX12_rank_70 rfl rfl rfl h
            · replace h := h.2 c
              refine st_iconst (pc' := 49) dX12_rank_48 rfl ?_
              refine st_goto (pc' := 70) dX12_rank_49 (by decide) ?_
              exact st_iret (ty := .int) dX12_rank_70 rfl rfl rfl h
      · replace h := h.2 c
        refine st_iconst (pc' := 27) dX12_rank_26 rfl ?_
        refine st_goto (pc' := 70) dX12_rank_27 (by decide) ?_
        exact st_iret (ty := .int) dX12_rank_70 rfl rfl rfl h
    · replace h := h.2 c
      refine st_iconst (pc' := 17) dX12_rank_16 rfl ?_
      refine st_goto (pc' := 70) dX12_rank_17 (by decide) ?_
      exact st_iret (ty := .int) dX12_rank_70 rfl rfl rfl h
  · replace h := h.2 c
    refine st_iconst (pc' := 7) dX12_rank_6 rfl ?_
    refine st_goto (pc' := 70) dX12_rank_7 (by decide) ?_
    exact st_iret (ty := .int) dX12_rank_70 rfl rfl rfl h
set_option maxRecDepth 20000 in
set_option maxHeartbeats 4000000 in
theorem B_X12_joins_0 {k : Nat} {P : Option Nat} {I : Nat → Nat → Int32} {J : Nat → Nat → Int64} {x1 : Int} {Q : Option AV → Mem → Prop} (hk : 1 ≤ k) (h : (0 ≤ ((gi I 74 46) - 1) ∧ ((gi I 74 46) - 1) < 20) ∧ (((gi I 74 49) ≤ (gi I 105 ((gi I 74 46) - 1).toNat) → (Q none (mem (P, some 5, some 22) I J))) ∧ (¬ (gi I 74 49) ≤ (gi I 105 ((gi I 74 46) - 1).toNat) → ((0 ≤ ((gi I 74 49) - 1) ∧ ((gi I 74 49) - 1) < 500) ∧ (WPm (k - 1) LAY m_X12_rank [vI (gi I 106 ((gi I 74 49) - 1).toNat)] (mem (P, some 5, some 22) I J) (retI (fun v3 I4 J5 => inR v3 ∧ (inR x1 ∧ ((v3 < x1 → (Q none (mem (P, some 5, some 22) I4 J5))) ∧ (¬ v3 < x1 → ((0 ≤ (gi (si I4 74 49 ((gi I4 74 49) - 1)) 74 49) ∧ (gi (si I4 74 49 ((gi I4 74 49) - 1)) 74 49) < 500) ∧ ((0 ≤ ((1600 * (gi (si I4 74 49 ((gi I4 74 49) - 1)) 74 40)) + (gi (si I4 74 49 ((gi I4 74 49) - 1)) 74 39)) ∧ ((1600 * (gi (si I4 74 49 ((gi I4 74 49) - 1)) 74 40)) + (gi (si I4 74 49 ((gi I4 74 49) - 1)) 74 39)) < 3200) ∧ ((¬ (gi I4 106 (gi (si I4 74 49 ((gi I4 74 49) - 1)) 74 49).toNat) = 22 → (WP k LAY m_X12_joins 0 [(0, vR (some 74)), (1, vI x1)] [] (mem (P, some 5, some 22) (si (si (si (si I4 74 49 ((gi I4 74 49) - 1)) 95 ((1600 * (gi (si I4 74 49 ((gi I4 74 49) - 1)) 74 40)) + (gi (si I4 74 49 ((gi I4 74 49) - 1)) 74 39)).toNat (gi I4 106 (gi (si I4 74 49 ((gi I4 74 49) - 1)) 74 49).toNat)) 96 ((1600 * (gi (si I4 74 49 ((gi I4 74 49) - 1)) 74 40)) + (gi (si I4 74 49 ((gi I4 74 49) - 1)) 74 39)).toNat 0) 74 39 ((gi (si I4 74 49 ((gi I4 74 49) - 1)) 74 39) + 1)) J5) Q)) ∧ ((gi I4 106 (gi (si I4 74 49 ((gi I4 74 49) - 1)) 74 49).toNat) = 22 → (WP k LAY m_X12_joins 0 [(0, vR (some 74)), (1, vI x1)] [] (mem (P, some 5, some 22) (si (si (si (si (si I4 74 49 ((gi I4 74 49) - 1)) 95 ((1600 * (gi (si I4 74 49 ((gi I4 74 49) - 1)) 74 40)) + (gi (si I4 74 49 ((gi I4 74 49) - 1)) 74 39)).toNat (gi I4 106 (gi (si I4 74 49 ((gi I4 74 49) - 1)) 74 49).toNat)) 96 ((1600 * (gi (si I4 74 49 ((gi I4 74 49) - 1)) 74 40)) + (gi (si I4 74 49 ((gi I4 74 49) - 1)) 74 39)).toNat 0) 74 39 ((gi (si I4 74 49 ((gi I4 74 49) - 1)) 74 39) + 1)) 74 47 ((gi I4 74 47) - 1)) J5) Q))))))))) (P, some 5, some 22))))))) : WP k LAY m_X12_joins 0 [(0, vR (some 74)), (1, vI x1)] [] (mem (P, some 5, some 22) I J) Q := by
  refine st_aload_n (pc' := 1) dX12_joins_0 rfl rfl (j := 0) rfl ?_
  refine G_X12_161_74 dX12_joins_1 (pc' := 4) rfl rfl ?_
  refine st_aload_n (pc' := 5) dX12_joins_4 rfl rfl (j := 0) rfl ?_
  refine G_X12_149_74 dX12_joins_5 (pc' := 8) rfl rfl ?_
  refine st_aload_n (pc' := 9) dX12_joins_8 rfl rfl (j := 0) rfl ?_
  refine G_X12_152_74 dX12_joins_9 (pc' := 12) rfl rfl ?_
  refine st_iconst (pc' := 13) dX12_joins_12 rfl ?_
  refine st_isub (pc' := 14) dX12_joins_13 rfl ?_
  obtain ⟨e1, h⟩ := h
  refine st_iaload (pc' := 15) (v := (gi I 105 ((gi I 74 46) - 1).toNat)) dX12_joins_14 rfl L_105 (by decide) e1 (show gi I 105 ((gi I 74 46) - 1).toNat = (gi I 105 ((gi I 74 46) - 1).toNat) from rfl) ?_
  refine st_icmp_le (tg := 87) (pc' := 18) dX12_joins_15 (by decide) rfl (gi_in _ _ _) (gi_in _ _ _) (fun c => ?_) (fun c => ?_)
  · replace h := h.1 c
    exact st_vret dX12_joins_87 rfl rfl h
  · replace h := h.2 c
    refine st_aload_n (pc' := 19) dX12_joins_18 rfl rfl (j := 0) rfl ?_
    refine G_X12_158_74 dX12_joins_19 (pc' := 22) rfl rfl ?_
    refine st_aload_n (pc' := 23) dX12_joins_22 rfl rfl (j := 0) rfl ?_
    refine G_X12_161_74 dX12_joins_23 (pc' := 26) rfl rfl ?_
    refine st_iconst (pc' := 27) dX12_joins_26 rfl ?_
    refine st_isub (pc' := 28) dX12_joins_27 rfl ?_
    obtain ⟨e2, h⟩ := h
    refine st_iaload (pc' := 29) (v := (gi I 106 ((gi I 74 49) - 1).toNat)) dX12_joins_28 rfl L_106 (by decide) e2 (show gi I 106 ((gi I 74 49) - 1).toNat = (gi I 106 ((gi I 74 49) - 1).toNat) from rfl) ?_
    refine st_callS (pc' := 32) (kc := k - 1) (E' := LAY) (cal := m_X12_rank) (n := 1) (as := [vI (gi I 106 ((gi I 74 49) - 1).toNat)]) (S := []) dX12_joins_29 rfl l_X12_373 k_X12_rank rfl rfl (Nat.le_of_ble_eq_true rfl) (by omega) ⟨Nat.le_refl _, Nat.le_refl _, Nat.le_refl _, Nat.le_refl _⟩ h (fun r M' q => ?_)
    obtain ⟨v3, I4, J5, rfl, rfl, h⟩ := q
    change WP _ LAY m_X12_joins 32 [(0, vR (some 74)), (1, vI x1)] [vI v3] (mem (P, some 5, some 22) I4 J5) Q
    refine st_iload_n (pc' := 33) dX12_joins_32 rfl rfl (j := 1) rfl ?_
    obtain ⟨e6, h⟩ := h
    obtain ⟨e7, h⟩ := h
    refine st_icmp_lt (tg := 87) (pc' := 36) dX12_joins_33 (by decide) rfl e6 e7 (fun c => ?_) (fun c => ?_)
    · replace h := h.1 c
      exact st_vret dX12_joins_87 rfl rfl h
    · replace h := h.2 c
      refine st_aload_n (pc' := 37) dX12_joins_36 rfl rfl (j := 0) rfl ?_
      refine st_dup (pc' := 38) dX12_joins_37 rfl rfl ?_
      refine G_X12_161_74 dX12_joins_38 (pc' := 41) rfl rfl ?_
      refine st_iconst (pc' := 42) dX12_joins_41 rfl ?_
      refine st_isub (pc' := 43) dX12_joins_42 rfl ?_
      refine P_X12_161_74 dX12_joins_43 (pc' := 46) rfl rfl ?_
      refine st_aload_n (pc' := 47) dX12_joins_46 rfl rfl (j := 0) rfl ?_
      refine st_aload_n (pc' := 48) dX12_joins_47 rfl rfl (j := 0) rfl ?_
      refine G_X12_158_74 dX12_joins_48 (pc' := 51) rfl rfl ?_
      refine st_aload_n (pc' := 52) dX12_joins_51 rfl rfl (j := 0) rfl ?_
      refine G_X12_161_74 dX12_joins_52 (pc' := 55) rfl rfl ?_
      obtain ⟨e8, h⟩ := h
      refine st_iaload (pc' := 56) (v := (gi I4 106 (gi (si I4 74 49 ((gi I4 74 49) - 1)) 74 49).toNat)) dX12_joins_55 rfl L_106 (by decide) e8 (show gi (si I4 74 49 ((gi I4 74 49) - 1)) 106 (gi (si I4 74 49 ((gi I4 74 49) - 1)) 74 49).toNat = (gi I4 106 (gi (si I4 74 49 ((gi I4 74 49) - 1)) 74 49).toNat) from (gi_cell _ _ _ _ (by decide))) ?_
      refine st_iconst (pc' := 57) dX12_joins_56 rfl ?_
      refine st_callV (pc' := 60) (kc := k - 1) (E' := LAY) (cal := m_X12_add) (n := 2) (as := [vI (gi I4 106 (gi (si I4 74 49 ((gi I4 74 49) - 1)) 74 49).toNat), vI 0]) (S := []) dX12_joins_57 rfl l_X12_376 k_X12_add rfl L_74 c_X12 rfl rfl (Nat.le_of_ble_eq_true rfl) (by omega) ⟨Nat.le_refl _, Nat.le_refl _, Nat.le_refl _, Nat.le_refl _⟩ (Q1 := fun r M' => WP k LAY m_X12_joins 60 [(0, vR (some 74)), (1, vI x1)] (r.toList ++ []) M' Q) (WPm.of k_X12_add.1 (Nat.le_of_ble_eq_true rfl) (B_X12_add_0 (by omega) ?_)) (fun r M' q => q)
      obtain ⟨e9, h⟩ := h
      refine ⟨e9, ?_⟩
      change WP _ LAY m_X12_joins 60 [(0, vR (some 74)), (1, vI x1)] [] (mem (P, some 5, some 22) (si (si (si (si I4 74 49 ((gi I4 74 49) - 1)) 95 ((1600 * (gi (si I4 74 49 ((gi I4 74 49) - 1)) 74 40)) + (gi (si I4 74 49 ((gi I4 74 49) - 1)) 74 39)).toNat (gi I4 106 (gi (si I4 74 49 ((gi I4 74 49) - 1)) 74 49).toNat)) 96 ((1600 * (gi (si I4 74 49 ((gi I4 74 49) - 1)) 74 40)) + (gi (si I4 74 49 ((gi I4 74 49) - 1)) 74 39)).toNat 0) 74 39 ((gi (si I4 74 49 ((gi I4 74 49) - 1)) 74 39) + 1)) J5) Q
      refine st_aload_n (pc' := 61) dX12_joins_60 rfl rfl (j := 0) rfl ?_
      refine G_X12_158_74 dX12_joins_61 (pc' := 64) rfl rfl ?_
      refine st_aload_n (pc' := 65) dX12_joins_64 rfl rfl (j := 0) rfl ?_
      refine G_X12_161_74 dX12_joins_65 (pc' := 68) rfl rfl ?_
      rw [show gi (si (si (si (si I4 74 49 ((gi I4 74 49) - 1)) 95 ((1600 * (gi (si I4 74 49 ((gi I4 74 49) - 1)) 74 40)) + (gi (si I4 74 49 ((gi I4 74 49) - 1)) 74 39)).toNat (gi I4 106 (gi (si I4 74 49 ((gi I4 74 49) - 1)) 74 49).toNat)) 96 ((1600 * (gi (si I4 74 49 ((gi I4 74 49) - 1)) 74 40)) + (gi (si I4 74 49 ((gi I4 74 49) - 1)) 74 39)).toNat 0) 74 39 ((gi (si I4 74 49 ((gi I4 74 49) - 1)) 74 39) + 1)) 74 49 = (gi (si I4 74 49 ((gi I4 74 49) - 1)) 74 49) from ((gi_idx _ _ _ (by decide)).trans ((gi_cell _ _ _ _ (by decide)).trans (gi_cell _ _ _ _ (by decide))))]
      refine st_iaload (pc' := 69) (v := (gi I4 106 (gi (si I4 74 49 ((gi I4 74 49) - 1)) 74 49).toNat)) dX12_joins_68 rfl L_106 (by decide) e8 (show gi (si (si (si (si I4 74 49 ((gi I4 74 49) - 1)) 95 ((1600 * (gi (si I4 74 49 ((gi I4 74 49) - 1)) 74 40)) + (gi (si I4 74 49 ((gi I4 74 49) - 1)) 74 39)).toNat (gi I4 106 (gi (si I4 74 49 ((gi I4 74 49) - 1)) 74 49).toNat)) 96 ((1600 * (gi (si I4 74 49 ((gi I4 74 49) - 1)) 74 40)) + (gi (si I4 74 49 ((gi I4 74 49) - 1)) 74 39)).toNat 0) 74 39 ((gi (si I4 74 49 ((gi I4 74 49) - 1)) 74 39) + 1)) 106 (gi (si I4 74 49 ((gi I4 74 49) - 1)) 74 49).toNat = (gi I4 106 (gi (si I4 74 49 ((gi I4 74 49) - 1)) 74 49).toNat) from ((gi_cell _ _ _ _ (by decide)).trans ((gi_cell _ _ _ _ (by decide)).trans ((gi_cell _ _ _ _ (by decide)).trans (gi_cell _ _ _ _ (by decide)))))) ?_
      refine st_bipush (pc' := 71) dX12_joins_69 rfl (by decide) ?_
      refine st_icmp_ne (tg := 0) (pc' := 74) dX12_joins_71 (by decide) rfl (gi_in _ _ _) (by decide) (fun c => ?_) (fun c => ?_)
      · replace h := h.1 c
        exact h
      · replace h := h.2 c
        refine st_aload_n (pc' := 75) dX12_joins_74 rfl rfl (j := 0) rfl ?_
        refine st_dup (pc' := 76) dX12_joins_75 rfl rfl ?_
        refine G_X12_155_74 dX12_joins_76 (pc' := 79) rfl rfl ?_
        rw [show gi (si (si (si (si I4 74 49 ((gi I4 74 49) - 1)) 95 ((1600 * (gi (si I4 74 49 ((gi I4 74 49) - 1)) 74 40)) + (gi (si I4 74 49 ((gi I4 74 49) - 1)) 74 39)).toNat (gi I4 106 (gi (si I4 74 49 ((gi I4 74 49) - 1)) 74 49).toNat)) 96 ((1600 * (gi (si I4 74 49 ((gi I4 74 49) - 1)) 74 40)) + (gi (si I4 74 49 ((gi I4 74 49) - 1)) 74 39)).toNat 0) 74 39 ((gi (si I4 74 49 ((gi I4 74 49) - 1)) 74 39) + 1)) 74 47 = (gi I4 74 47) from ((gi_idx _ _ _ (by decide)).trans ((gi_cell _ _ _ _ (by decide)).trans ((gi_cell _ _ _ _ (by decide)).trans (gi_idx _ _ _ (by decide)))))]
        refine st_iconst (pc' := 80) dX12_joins_79 rfl ?_
        refine st_isub (pc' := 81) dX12_joins_80 rfl ?_
        refine P_X12_155_74 dX12_joins_81 (pc' := 84) rfl rfl ?_
        refine st_goto (pc' := 0) dX12_joins_84 (by decide) ?_
        exact h
set_option maxRecDepth 20000 in
set_option maxHeartbeats 4000000 in
theorem B_X12_goesOn_0 {k : Nat} {P : Option Nat} {I : Nat → Nat → Int32} {J : Nat → Nat → Int64}  {Q : Option AV → Mem → Prop} (hk : 2 ≤ k) (h : ((gi I 74 12) = (-1) → (((gi I 74 8) ≤ 0 → ((0 ≤ ((gi I 74 46) - 1) ∧ ((gi I 74 46) - 1) < 20) ∧ (∀ y2 : Int, y2 = (b2i ((gi I 101 ((gi I 74 46) - 1).toNat) = 1 ∨ (gi I 101 ((gi I 74 46) - 1).toNat) = 5)) → ((2 ≤ (gi I 102 ((gi I 74 46) - 1).toNat) → ((y2 = 0 → ((y2 = 0 → (WP k LAY m_X12_goesOn 400 [(0, vR (some 74)), (1, vI ((gi I 74 46) - 1)), (2, vI (gi I 101 ((gi I 74 46) - 1).toNat)), (3, vI y2)] [] (mem (P, some 5, some 22) I J) Q)) ∧ (¬ y2 = 0 → (((gi I 74 3 = 1 ∧ gl J 74 7 = 6385252) → (WP k LAY m_X12_goesOn 309 [(0, vR (some 74)), (1, vI ((gi I 74 46) - 1))] [] (mem (P, some 5, some 22) I J) Q)) ∧ (¬ (gi I 74 3 = 1 ∧ gl J 74 7 = 6385252) → ((¬ (gi I 74 3 = 1 ∧ gl J 74 7 = 28530) → (WP k LAY m_X12_goesOn 400 [(0, vR (some 74)), (1, vI ((gi I 74 46) - 1)), (2, vI (gi I 101 ((gi I 74 46) - 1).toNat)), (3, vI y2)] [] (mem (P, some 5, some 22) I J) Q)) ∧ ((gi I 74 3 = 1 ∧ gl J 74 7 = 28530) → (WP k LAY m_X12_goesOn 309 [(0, vR (some 74)), (1, vI ((gi I 74 46) - 1))] [] (mem (P, some 5, some 22) I J) Q)))))))) ∧ (¬ y2 = 0 → ((¬ (gi I 102 ((gi I 74 46) - 1).toNat) = 0 → ((y2 = 0 → (WP k LAY m_X12_goesOn 400 [(0, vR (some 74)), (1, vI ((gi I 74 46) - 1)), (2, vI (gi I 101 ((gi I 74 46) - 1).toNat)), (3, vI y2)] [] (mem (P, some 5, some 22) I J) Q)) ∧ (¬ y2 = 0 → (((gi I 74 3 = 1 ∧ gl J 74 7 = 6385252) → (WP k LAY m_X12_goesOn 309 [(0, vR (some 74)), (1, vI ((gi I 74 46) - 1))] [] (mem (P, some 5, some 22) I J) Q)) ∧ (¬ (gi I 74 3 = 1 ∧ gl J 74 7 = 6385252) → ((¬ (gi I 74 3 = 1 ∧ gl J 74 7 = 28530) → (WP k LAY m_X12_goesOn 400 [(0, vR (some 74)), (1, vI ((gi I 74 46) - 1)), (2, vI (gi I 101 ((gi I 74 46) - 1).toNat)), (3, vI y2)] [] (mem (P, some 5, some 22) I J) Q)) ∧ ((gi I 74 3 = 1 ∧ gl J 74 7 = 28530) → (WP k LAY m_X12_goesOn 309 [(0, vR (some 74)), (1, vI ((gi I 74 46) - 1))] [] (mem (P, some 5, some 22) I J) Q)))))))) ∧ ((gi I 102 ((gi I 74 46) - 1).toNat) = 0 → (((gi I 74 3 = 3 ∧ gi I 74 6 = 60) → (WP k LAY m_X12_goesOn 228 [(0, vR (some 74)), (1, vI ((gi I 74 46) - 1))] [] (mem (P, some 5, some 22) I J) Q)) ∧ (¬ (gi I 74 3 = 3 ∧ gi I 74 6 = 60) → (((gi I 74 3 = 3 ∧ gi I 74 6 = 62) → (WP k LAY m_X12_goesOn 228 [(0, vR (some 74)), (1, vI ((gi I 74 46) - 1))] [] (mem (P, some 5, some 22) I J) Q)) ∧ (¬ (gi I 74 3 = 3 ∧ gi I 74 6 = 62) → ((¬ (gi I 74 3 = 3 ∧ gi I 74 6 = 61) → ((y2 = 0 → (WP k LAY m_X12_goesOn 400 [(0, vR (some 74)), (1, vI ((gi I 74 46) - 1)), (2, vI (gi I 101 ((gi I 74 46) - 1).toNat)), (3, vI y2)] [] (mem (P, some 5, some 22) I J) Q)) ∧ (¬ y2 = 0 → (((gi I 74 3 = 1 ∧ gl J 74 7 = 6385252) → (WP k LAY m_X12_goesOn 309 [(0, vR (some 74)), (1, vI ((gi I 74 46) - 1))] [] (mem (P, some 5, some 22) I J) Q)) ∧ (¬ (gi I 74 3 = 1 ∧ gl J 74 7 = 6385252) → ((¬ (gi I 74 3 = 1 ∧ gl J 74 7 = 28530) → (WP k LAY m_X12_goesOn 400 [(0, vR (some 74)), (1, vI ((gi I 74 46) - 1)), (2, vI (gi I 101 ((gi I 74 46) - 1).toNat)), (3, vI y2)] [] (mem (P, some 5, some 22) I J) Q)) ∧ ((gi I 74 3 = 1 ∧ gl J 74 7 = 28530) → (WP k LAY m_X12_goesOn 309 [(0, vR (some 74)), (1, vI ((gi I 74 46) - 1))] [] (mem (P, some 5, some 22) I J) Q)))))))) ∧ ((gi I 74 3 = 3 ∧ gi I 74 6 = 61) → (WP k LAY m_X12_goesOn 228 [(0, vR (some 74)), (1, vI ((gi I 74 46) - 1))] [] (mem (P, some 5, some 22) I J) Q)))))))))))) ∧ (¬ 2 ≤ (gi I 102 ((gi I 74 46) - 1).toNat) → (((gi I 74 3 = 3 ∧ gi I 74 6 = 43) → (WP k LAY m_X12_goesOn 87 [(0, vR (some 74))] [] (mem (P, some 5, some 22) I J) Q)) ∧ (¬ (gi I 74 3 = 3 ∧ gi I 74 6 = 43) → (((gi I 74 3 = 3 ∧ gi I 74 6 = 45) → (WP k LAY m_X12_goesOn 87 [(0, vR (some 74))] [] (mem (P, some 5, some 22) I J) Q)) ∧ (¬ (gi I 74 3 = 3 ∧ gi I 74 6 = 45) → (((gi I 74 3 = 3 ∧ gi I 74 6 = 42) → (WP k LAY m_X12_goesOn 87 [(0, vR (some 74))] [] (mem (P, some 5, some 22) I J) Q)) ∧ (¬ (gi I 74 3 = 3 ∧ gi I 74 6 = 42) → (((gi I 74 3 = 3 ∧ gi I 74 6 = 47) → (WP k LAY m_X12_goesOn 87 [(0, vR (some 74))] [] (mem (P, some 5, some 22) I J) Q)) ∧ (¬ (gi I 74 3 = 3 ∧ gi I 74 6 = 47) → ((¬ (gi I 74 3 = 3 ∧ gi I 74 6 = 37) → ((y2 = 0 → ((y2 = 0 → (WP k LAY m_X12_goesOn 400 [(0, vR (some 74)), (1, vI ((gi I 74 46) - 1)), (2, vI (gi I 101 ((gi I 74 46) - 1).toNat)), (3, vI y2)] [] (mem (P, some 5, some 22) I J) Q)) ∧ (¬ y2 = 0 → (((gi I 74 3 = 1 ∧ gl J 74 7 = 6385252) → (WP k LAY m_X12_goesOn 309 [(0, vR (some 74)), (1, vI ((gi I 74 46) - 1))] [] (mem (P, some 5, some 22) I J) Q)) ∧ (¬ (gi I 74 3 = 1 ∧ gl J 74 7 = 6385252) → ((¬ (gi I 74 3 = 1 ∧ gl J 74 7 = 28530) → (WP k LAY m_X12_goesOn 400 [(0, vR (some 74)), (1, vI ((gi I 74 46) - 1)), (2, vI (gi I 101 ((gi I 74 46) - 1).toNat)), (3, vI y2)] [] (mem (P, some 5, some 22) I J) Q)) ∧ ((gi I 74 3 = 1 ∧ gl J 74 7 = 28530) → (WP k LAY m_X12_goesOn 309 [(0, vR (some 74)), (1, vI ((gi I 74 46) - 1))] [] (mem (P, some 5, some 22) I J) Q)))))))) ∧ (¬ y2 = 0 → ((¬ (gi I 102 ((gi I 74 46) - 1).toNat) = 0 → ((y2 = 0 → (WP k LAY m_X12_goesOn 400 [(0, vR (some 74)), (1, vI ((gi I 74 46) - 1)), (2, vI (gi I 101 ((gi I 74 46) - 1).toNat)), (3, vI y2)] [] (mem (P, some 5, some 22) I J) Q)) ∧ (¬ y2 = 0 → (((gi I 74 3 = 1 ∧ gl J 74 7 = 6385252) → (WP k LAY m_X12_goesOn 309 [(0, vR (some 74)), (1, vI ((gi I 74 46) - 1))] [] (mem (P, some 5, some 22) I J) Q)) ∧ (¬ (gi I 74 3 = 1 ∧ gl J 74 7 = 6385252) → ((¬ (gi I 74 3 = 1 ∧ gl J 74 7 = 28530) → (WP k LAY m_X12_goesOn 400 [(0, vR (some 74)), (1, vI ((gi I 74 46) - 1)), (2, vI (gi I 101 ((gi I 74 46) - 1).toNat)), (3, vI y2)] [] (mem (P, some 5, some 22) I J) Q)) ∧ ((gi I 74 3 = 1 ∧ gl J 74 7 = 28530) → (WP k LAY m_X12_goesOn 309 [(0, vR (some 74)), (1, vI ((gi I 74 46) - 1))] [] (mem (P, some 5, some 22) I J) Q)))))))) ∧ ((gi I 102 ((gi I 74 46) - 1).toNat) = 0 → (((gi I 74 3 = 3 ∧ gi I 74 6 = 60) → (WP k LAY m_X12_goesOn 228 [(0, vR (some 74)), (1, vI ((gi I 74 46) - 1))] [] (mem (P, some 5, some 22) I J) Q)) ∧ (¬ (gi I 74 3 = 3 ∧ gi I 74 6 = 60) → (((gi I 74 3 = 3 ∧ gi I 74 6 = 62) → (WP k LAY m_X12_goesOn 228 [(0, vR (some 74)), (1, vI ((gi I 74 46) - 1))] [] (mem (P, some 5, some 22) I J) Q)) ∧ (¬ (gi I 74 3 = 3 ∧ gi I 74 6 = 62) → ((¬ (gi I 74 3 = 3 ∧ gi I 74 6 = 61) → ((y2 = 0 → (WP k LAY m_X12_goesOn 400 [(0, vR (some 74)), (1, vI ((gi I 74 46) - 1)), (2, vI (gi I 101 ((gi I 74 46) - 1).toNat)), (3, vI y2)] [] (mem (P, some 5, some 22) I J) Q)) ∧ (¬ y2 = 0 → (((gi I 74 3 = 1 ∧ gl J 74 7 = 6385252) → (WP k LAY m_X12_goesOn 309 [(0, vR (some 74)), (1, vI ((gi I 74 46) - 1))] [] (mem (P, some 5, some 22) I J) Q)) ∧ (¬ (gi I 74 3 = 1 ∧ gl J 74 7 = 6385252) → ((¬ (gi I 74 3 = 1 ∧ gl J 74 7 = 28530) → (WP k LAY m_X12_goesOn 400 [(0, vR (some 74)), (1, vI ((gi I 74 46) - 1)), (2, vI (gi I 101 ((gi I 74 46) - 1).toNat)), (3, vI y2)] [] (mem (P, some 5, some 22) I J) Q)) ∧ ((gi I 74 3 = 1 ∧ gl J 74 7 = 28530) → (WP k LAY m_X12_goesOn 309 [(0, vR (some 74)), (1, vI ((gi I 74 46) - 1))] [] (mem (P, some 5, some 22) I J) Q)))))))) ∧ ((gi I 74 3 = 3 ∧ gi I 74 6 = 61) → (WP k LAY m_X12_goesOn 228 [(0, vR (some 74)), (1, vI ((gi I 74 46) - 1))] [] (mem (P, some 5, some 22) I J) Q)))))))))))) ∧ ((gi I 74 3 = 3 ∧ gi I 74 6 = 37) → (WP k LAY m_X12_goesOn 87 [(0, vR (some 74))] [] (mem (P, some 5, some 22) I J) Q)))))))))))))))) ∧ (¬ (gi I 74 8) ≤ 0 → (Q (some (vI 0)) (mem (P, some 5, some 22) I J))))) ∧ (¬ (gi I 74 12) = (-1) → (((gi I 74 8) ≤ 0 → (Q (some (vI 0)) (mem (P, some 5, some 22) (si (si I 74 8 1) 74 9 (gi I 74 12)) J))) ∧ (¬ (gi I 74 8) ≤ 0 → (((gi I 74 8) ≤ 0 → ((0 ≤ ((gi I 74 46) - 1) ∧ ((gi I 74 46) - 1) < 20) ∧ (∀ y4 : Int, y4 = (b2i ((gi I 101 ((gi I 74 46) - 1).toNat) = 1 ∨ (gi I 101 ((gi I 74 46) - 1).toNat) = 5)) → ((2 ≤ (gi I 102 ((gi I 74 46) - 1).toNat) → ((y4 = 0 → ((y4 = 0 → (WP k LAY m_X12_goesOn 400 [(0, vR (some 74)), (1, vI ((gi I 74 46) - 1)), (2, vI (gi I 101 ((gi I 74 46) - 1).toNat)), (3, vI y4)] [] (mem (P, some 5, some 22) I J) Q)) ∧ (¬ y4 = 0 → (((gi I 74 3 = 1 ∧ gl J 74 7 = 6385252) → (WP k LAY m_X12_goesOn 309 [(0, vR (some 74)), (1, vI ((gi I 74 46) - 1))] [] (mem (P, some 5, some 22) I J) Q)) ∧ (¬ (gi I 74 3 = 1 ∧ gl J 74 7 = 6385252) → ((¬ (gi I 74 3 = 1 ∧ gl J 74 7 = 28530) → (WP k LAY m_X12_goesOn 400 [(0, vR (some 74)), (1, vI ((gi I 74 46) - 1)), (2, vI (gi I 101 ((gi I 74 46) - 1).toNat)), (3, vI y4)] [] (mem (P, some 5, some 22) I J) Q)) ∧ ((gi I 74 3 = 1 ∧ gl J 74 7 = 28530) → (WP k LAY m_X12_goesOn 309 [(0, vR (some 74)), (1, vI ((gi I 74 46) - 1))] [] (mem (P, some 5, some 22) I J) Q)))))))) ∧ (¬ y4 = 0 → ((¬ (gi I 102 ((gi I 74 46) - 1).toNat) = 0 → ((y4 = 0 → (WP k LAY m_X12_goesOn 400 [(0, vR (some 74)), (1, vI ((gi I 74 46) - 1)), (2, vI (gi I 101 ((gi I 74 46) - 1).toNat)), (3, vI y4)] [] (mem (P, some 5, some 22) I J) Q)) ∧ (¬ y4 = 0 → (((gi I 74 3 = 1 ∧ gl J 74 7 = 6385252) → (WP k LAY m_X12_goesOn 309 [(0, vR (some 74)), (1, vI ((gi I 74 46) - 1))] [] (mem (P, some 5, some 22) I J) Q)) ∧ (¬ (gi I 74 3 = 1 ∧ gl J 74 7 = 6385252) → ((¬ (gi I 74 3 = 1 ∧ gl J 74 7 = 28530) → (WP k LAY m_X12_goesOn 400 [(0, vR (some 74)), (1, vI ((gi I 74 46) - 1)), (2, vI (gi I 101 ((gi I 74 46) - 1).toNat)), (3, vI y4)] [] (mem (P, some 5, some 22) I J) Q)) ∧ ((gi I 74 3 = 1 ∧ gl J 74 7 = 28530) → (WP k LAY m_X12_goesOn 309 [(0, vR (some 74)), (1, vI ((gi I 74 46) - 1))] [] (mem (P, some 5, some 22) I J) Q)))))))) ∧ ((gi I 102 ((gi I 74 46) - 1).toNat) = 0 → (((gi I 74 3 = 3 ∧ gi I 74 6 = 60) → (WP k LAY m_X12_goesOn 228 [(0, vR (some 74)), (1, vI ((gi I 74 46) - 1))] [] (mem (P, some 5, some 22) I J) Q)) ∧ (¬ (gi I 74 3 = 3 ∧ gi I 74 6 = 60) → (((gi I 74 3 = 3 ∧ gi I 74 6 = 62) → (WP k LAY m_X12_goesOn 228 [(0, vR (some 74)), (1, vI ((gi I 74 46) - 1))] [] (mem (P, some 5, some 22) I J) Q)) ∧ (¬ (gi I 74 3 = 3 ∧ gi I 74 6 = 62) → ((¬ (gi I 74 3 = 3 ∧ gi I 74 6 = 61) → ((y4 = 0 → (WP k LAY m_X12_goesOn 400 [(0, vR (some 74)), (1, vI ((gi I 74 46) - 1)), (2, vI (gi I 101 ((gi I 74 46) - 1).toNat)), (3, vI y4)] [] (mem (P, some 5, some 22) I J) Q)) ∧ (¬ y4 = 0 → (((gi I 74 3 = 1 ∧ gl J 74 7 = 6385252) → (WP k LAY m_X12_goesOn 309 [(0, vR (some 74)), (1, vI ((gi I 74 46) - 1))] [] (mem (P, some 5, some 22) I J) Q)) ∧ (¬ (gi I 74 3 = 1 ∧ gl J 74 7 = 6385252) → ((¬ (gi I 74 3 = 1 ∧ gl J 74 7 = 28530) → (WP k LAY m_X12_goesOn 400 [(0, vR (some 74)), (1, vI ((gi I 74 46) - 1)), (2, vI (gi I 101 ((gi I 74 46) - 1).toNat)), (3, vI y4)] [] (mem (P, some 5, some 22) I J) Q)) ∧ ((gi I 74 3 = 1 ∧ gl J 74 7 = 28530) → (WP k LAY m_X12_goesOn 309 [(0, vR (some 74)), (1, vI ((gi I 74 46) - 1))] [] (mem (P, some 5, some 22) I J) Q)))))))) ∧ ((gi I 74 3 = 3 ∧ gi I 74 6 = 61) → (WP k LAY m_X12_goesOn 228 [(0, vR (some 74)), (1, vI ((gi I 74 46) - 1))] [] (mem (P, some 5, some 22) I J) Q)))))))))))) ∧ (¬ 2 ≤ (gi I 102 ((gi I 74 46) - 1).toNat) → (((gi I 74 3 = 3 ∧ gi I 74 6 = 43) → (WP k LAY m_X12_goesOn 87 [(0, vR (some 74))] [] (mem (P, some 5, some 22) I J) Q)) ∧ (¬ (gi I 74 3 = 3 ∧ gi I 74 6 = 43) → (((gi I 74 3 = 3 ∧ gi I 74 6 = 45) → (WP k LAY m_X12_goesOn 87 [(0, vR (some 74))] [] (mem (P, some 5, some 22) I J) Q)) ∧ (¬ (gi I 74 3 = 3 ∧ gi I 74 6 = 45) → (((gi I 74 3 = 3 ∧ gi I 74 6 = 42) → (WP k LAY m_X12_goesOn 87 [(0, vR (some 74))] [] (mem (P, some 5, some 22) I J) Q)) ∧ (¬ (gi I 74 3 = 3 ∧ gi I 74 6 = 42) → (((gi I 74 3 = 3 ∧ gi I 74 6 = 47) → (WP k LAY m_X12_goesOn 87 [(0, vR (some 74))] [] (mem (P, some 5, some 22) I J) Q)) ∧ (¬ (gi I 74 3 = 3 ∧ gi I 74 6 = 47) → ((¬ (gi I 74 3 = 3 ∧ gi I 74 6 = 37) → ((y4 = 0 → ((y4 = 0 → (WP k LAY m_X12_goesOn 400 [(0, vR (some 74)), (1, vI ((gi I 74 46) - 1)), (2, vI (gi I 101 ((gi I 74 46) - 1).toNat)), (3, vI y4)] [] (mem (P, some 5, some 22) I J) Q)) ∧ (¬ y4 = 0 → (((gi I 74 3 = 1 ∧ gl J 74 7 = 6385252) → (WP k LAY m_X12_goesOn 309 [(0, vR (some 74)), (1, vI ((gi I 74 46) - 1))] [] (mem (P, some 5, some 22) I J) Q)) ∧ (¬ (gi I 74 3 = 1 ∧ gl J 74 7 = 6385252) → ((¬ (gi I 74 3 = 1 ∧ gl J 74 7 = 28530) → (WP k LAY m_X12_goesOn 400 [(0, vR (some 74)), (1, vI ((gi I 74 46) - 1)), (2, vI (gi I 101 ((gi I 74 46) - 1).toNat)), (3, vI y4)] [] (mem (P, some 5, some 22) I J) Q)) ∧ ((gi I 74 3 = 1 ∧ gl J 74 7 = 28530) → (WP k LAY m_X12_goesOn 309 [(0, vR (some 74)), (1, vI ((gi I 74 46) - 1))] [] (mem (P, some 5, some 22) I J) Q)))))))) ∧ (¬ y4 = 0 → ((¬ (gi I 102 ((gi I 74 46) - 1).toNat) = 0 → ((y4 = 0 → (WP k LAY m_X12_goesOn 400 [(0, vR (some 74)), (1, vI ((gi I 74 46) - 1)), (2, vI (gi I 101 ((gi I 74 46) - 1).toNat)), (3, vI y4)] [] (mem (P, some 5, some 22) I J) Q)) ∧ (¬ y4 = 0 → (((gi I 74 3 = 1 ∧ gl J 74 7 = 6385252) → (WP k LAY m_X12_goesOn 309 [(0, vR (some 74)), (1, vI ((gi I 74 46) - 1))] [] (mem (P, some 5, some 22) I J) Q)) ∧ (¬ (gi I 74 3 = 1 ∧ gl J 74 7 = 6385252) → ((¬ (gi I 74 3 = 1 ∧ gl J 74 7 = 28530) → (WP k LAY m_X12_goesOn 400 [(0, vR (some 74)), (1, vI ((gi I 74 46) - 1)), (2, vI (gi I 101 ((gi I 74 46) - 1).toNat)), (3, vI y4)] [] (mem (P, some 5, some 22) I J) Q)) ∧ ((gi I 74 3 = 1 ∧ gl J 74 7 = 28530) → (WP k LAY m_X12_goesOn 309 [(0, vR (some 74)), (1, vI ((gi I 74 46) - 1))] [] (mem (P, some 5, some 22) I J) Q)))))))) ∧ ((gi I 102 ((gi I 74 46) - 1).toNat) = 0 → (((gi I 74 3 = 3 ∧ gi I 74 6 = 60) → (WP k LAY m_X12_goesOn 228 [(0, vR (some 74)), (1, vI ((gi I 74 46) - 1))] [] (mem (P, some 5, some 22) I J) Q)) ∧ (¬ (gi I 74 3 = 3 ∧ gi I 74 6 = 60) → (((gi I 74 3 = 3 ∧ gi I 74 6 = 62) → (WP k LAY m_X12_goesOn 228 [(0, vR (some 74)), (1, vI ((gi I 74 46) - 1))] [] (mem (P, some 5, some 22) I J) Q)) ∧ (¬ (gi I 74 3 = 3 ∧ gi I 74 6 = 62) → ((¬ (gi I 74 3 = 3 ∧ gi I 74 6 = 61) → ((y4 = 0 → (WP k LAY m_X12_goesOn 400 [(0, vR (some 74)), (1, vI ((gi I 74 46) - 1)), (2, vI (gi I 101 ((gi I 74 46) - 1).toNat)), (3, vI y4)] [] (mem (P, some 5, some 22) I J) Q)) ∧ (¬ y4 = 0 → (((gi I 74 3 = 1 ∧ gl J 74 7 = 6385252) → (WP k LAY m_X12_goesOn 309 [(0, vR (some 74)), (1, vI ((gi I 74 46) - 1))] [] (mem (P, some 5, some 22) I J) Q)) ∧ (¬ (gi I 74 3 = 1 ∧ gl J 74 7 = 6385252) → ((¬ (gi I 74 3 = 1 ∧ gl J 74 7 = 28530) → (WP k LAY m_X12_goesOn 400 [(0, vR (some 74)), (1, vI ((gi I 74 46) - 1)), (2, vI (gi I 101 ((gi I 74 46) - 1).toNat)), (3, vI y4)] [] (mem (P, some 5, some 22) I J) Q)) ∧ ((gi I 74 3 = 1 ∧ gl J 74 7 = 28530) → (WP k LAY m_X12_goesOn 309 [(0, vR (some 74)), (1, vI ((gi I 74 46) - 1))] [] (mem (P, some 5, some 22) I J) Q)))))))) ∧ ((gi I 74 3 = 3 ∧ gi I 74 6 = 61) → (WP k LAY m_X12_goesOn 228 [(0, vR (some 74)), (1, vI ((gi I 74 46) - 1))] [] (mem (P, some 5, some 22) I J) Q)))))))))))) ∧ ((gi I 74 3 = 3 ∧ gi I 74 6 = 37) → (WP k LAY m_X12_goesOn 87 [(0, vR (some 74))] [] (mem (P, some 5, some 22) I J) Q)))))))))))))))) ∧ (¬ (gi I 74 8) ≤ 0 → (Q (some (vI 0)) (mem (P, some 5, some 22) I J)))))))) : WP k LAY m_X12_goesOn 0 [(0, vR (some 74))] [] (mem (P, some 5, some 22) I J) Q := by
  refine st_aload_n (pc' := 1) dX12_goesOn_0 rfl rfl (j := 0) rfl ?_
  refine st_callV (pc' := 4) (kc := k - 1) (E' := LAY) (cal := m_X12_lex) (n := 0) (as := []) (S := []) dX12_goesOn_1 rfl l_X12_302 k_X12_lex rfl L_74 c_X12 rfl rfl (Nat.le_of_ble_eq_true rfl) (by omega) ⟨Nat.le_refl _, Nat.le_refl _, Nat.le_refl _, Nat.le_refl _⟩ (Q1 := fun r M' => WP k LAY m_X12_goesOn 4 [(0, vR (some 74))] (r.toList ++ []) M' Q) (WPm.of k_X12_lex.1 (Nat.le_of_ble_eq_true rfl) (B_X12_lex_0 (by omega) ?_)) (fun r M' q => q)
  refine ⟨fun c => ?_, fun c => ?_⟩
  · replace h := h.1 c
    change WP _ LAY m_X12_goesOn 4 [(0, vR (some 74))] [] (mem (P, some 5, some 22) I J) Q
    refine st_aload_n (pc' := 5) dX12_goesOn_4 rfl rfl (j := 0) rfl ?_
    refine G_X12_36_74 dX12_goesOn_5 (pc' := 8) rfl rfl ?_
    refine st_if_le (tg := 13) (pc' := 11) dX12_goesOn_8 (by decide) rfl (gi_in _ _ _) (fun c => ?_) (fun c => ?_)
    · replace h := h.1 c
      refine st_aload_n (pc' := 14) dX12_goesOn_13 rfl rfl (j := 0) rfl ?_
      refine G_X12_152_74 dX12_goesOn_14 (pc' := 17) rfl rfl ?_
      refine st_iconst (pc' := 18) dX12_goesOn_17 rfl ?_
      refine st_isub (pc' := 19) dX12_goesOn_18 rfl ?_
      refine st_istore_n (pc' := 20) (L' := [(1, vI ((gi I 74 46) - 1)), (0, vR (some 74))]) dX12_goesOn_19 rfl rfl (by decide) rfl ?_
      refine st_aload_n (pc' := 21) dX12_goesOn_20 rfl rfl (j := 1) rfl ?_
      refine G_X12_136_74 dX12_goesOn_21 (pc' := 24) rfl rfl ?_
      refine st_iload_n (pc' := 25) dX12_goesOn_24 rfl rfl (j := 0) rfl ?_
      obtain ⟨e1, h⟩ := h
      refine st_iaload (pc' := 26) (v := (gi I 101 ((gi I 74 46) - 1).toNat)) dX12_goesOn_25 rfl L_101 (by decide) e1 (show gi I 101 ((gi I 74 46) - 1).toNat = (gi I 101 ((gi I 74 46) - 1).toNat) from rfl) ?_
      refine st_istore_n (pc' := 27) (L' := [(2, vI (gi I 101 ((gi I 74 46) - 1).toNat)), (1, vI ((gi I 74 46) - 1)), (0, vR (some 74))]) dX12_goesOn_26 rfl rfl (by decide) rfl ?_
      refine st_iload_n (pc' := 28) dX12_goesOn_27 rfl rfl (j := 0) rfl ?_
      refine st_callS (pc' := 31) (kc := k - 1) (E' := LAY) (cal := m_X12_isTest) (n := 1) (as := [vI (gi I 101 ((gi I 74 46) - 1).toNat)]) (S := []) dX12_goesOn_28 rfl l_X12_382 k_X12_isTest rfl rfl (Nat.le_of_ble_eq_true rfl) (by omega) ⟨Nat.le_refl _, Nat.le_refl _, Nat.le_refl _, Nat.le_refl _⟩ (Q1 := fun r M' => WP k LAY m_X12_goesOn 31 [(2, vI (gi I 101 ((gi I 74 46) - 1).toNat)), (1, vI ((gi I 74 46) - 1)), (0, vR (some 74))] (r.toList ++ []) M' Q) (S_X12_isTest (by omega) (gi_in _ _ _) ?_) (fun r M' q => q)
      change WP _ LAY m_X12_goesOn 31 [(2, vI (gi I 101 ((gi I 74 46) - 1).toNat)), (1, vI ((gi I 74 46) - 1)), (0, vR (some 74))] [vI (b2i ((gi I 101 ((gi I 74 46) - 1).toNat) = 1 ∨ (gi I 101 ((gi I 74 46) - 1).toNat) = 5))] (mem (P, some 5, some 22) I J) Q
      obtain ⟨y2, hy2⟩ : ∃ y : Int, y = (b2i ((gi I 101 ((gi I 74 46) - 1).toNat) = 1 ∨ (gi I 101 ((gi I 74 46) - 1).toNat) = 5)) := ⟨_, rfl⟩
      rw [← hy2]
      replace h := h y2 hy2
      refine st_istore_n (pc' := 32) (L' := [(3, vI y2), (2, vI (gi I 101 ((gi I 74 46) - 1).toNat)), (1, vI ((gi I 74 46) - 1)), (0, vR (some 74))]) dX12_goesOn_31 rfl rfl (by decide) rfl ?_
      refine st_aload_n (pc' := 33) dX12_goesOn_32 rfl rfl (j := 3) rfl ?_
      refine G_X12_139_74 dX12_goesOn_33 (pc' := 36) rfl rfl ?_
      refine st_iload_n (pc' := 37) dX12_goesOn_36 rfl rfl (j := 2) rfl ?_
      refine st_iaload (pc' := 38) (v := (gi I 102 ((gi I 74 46) - 1).toNat)) dX12_goesOn_37 rfl L_102 (by decide) e1 (show gi I 102 ((gi I 74 46) - 1).toNat = (gi I 102 ((gi I 74 46) - 1).toNat) from rfl) ?_
      refine st_iconst (pc' := 39) dX12_goesOn_38 rfl ?_
      refine st_icmp_ge (tg := 188) (pc' := 42) dX12_goesOn_39 (by decide) rfl (gi_in _ _ _) (by decide) (fun c => ?_) (fun c => ?_)
      · replace h := h.1 c
        refine st_iload_n (pc' := 189) dX12_goesOn_188 rfl rfl (j := 0) rfl ?_
        refine st_if_eq (tg := 285) (pc' := 192) dX12_goesOn_189 (by decide) rfl (by rw [hy2]; exact (b2i_in _)) (fun c => ?_) (fun c => ?_)
        · replace h := h.1 c
          refine st_iload_n (pc' := 286) dX12_goesOn_285 rfl rfl (j := 0) rfl ?_
          refine st_if_eq (tg := 400) (pc' := 289) dX12_goesOn_286 (by decide) rfl (by rw [hy2]; exact (b2i_in _)) (fun c => ?_) (fun c => ?_)
          · replace h := h.1 c
            refine WP_sub (L' := [(0, vR (some 74)), (1, vI ((gi I 74 46) - 1)), (2, vI (gi I 101 ((gi I 74 46) - 1).toNat)), (3, vI y2)]) [3, 2, 1, 0] rfl ?_
            exact h
          · replace h := h.2 c
            refine st_aload_n (pc' := 290) dX12_goesOn_289 rfl rfl (j := 3) rfl ?_
            refine st_ldc2 (pc' := 293) (z := 6385252) dX12_goesOn_290 rfl q_X12_351 (by decide) ?_
            refine st_callV (pc' := 296) (kc := k - 1) (E' := LAY) (cal := m_X12_isWord) (n := 1) (as := [vL 6385252]) (S := []) dX12_goesOn_293 rfl l_X12_385 k_X12_isWord rfl L_74 c_X12 rfl rfl (Nat.le_of_ble_eq_true rfl) (by omega) ⟨Nat.le_refl _, Nat.le_refl _, Nat.le_refl _, Nat.le_refl _⟩ (Q1 := fun r M' => WP k LAY m_X12_goesOn 296 [(3, vI y2), (2, vI (gi I 101 ((gi I 74 46) - 1).toNat)), (1, vI ((gi I 74 46) - 1)), (0, vR (some 74))] (r.toList ++ []) M' Q) (S_X12_isWord (by omega) (by decide) ?_) (fun r M' q => q)
            change WP _ LAY m_X12_goesOn 296 [(3, vI y2), (2, vI (gi I 101 ((gi I 74 46) - 1).toNat)), (1, vI ((gi I 74 46) - 1)), (0, vR (some 74))] [vI (b2i (gi I 74 3 = 1 ∧ gl J 74 7 = 6385252))] (mem (P, some 5, some 22) I J) Q
            refine st_if_ne (tg := 309) (pc' := 299) dX12_goesOn_296 (by decide) rfl (b2i_in _) (fun c => ?_) (fun c => ?_)
            · replace h := h.1 (b2i_t.mp c)
              refine WP_sub (L' := [(0, vR (some 74)), (1, vI ((gi I 74 46) - 1))]) [3, 2] rfl ?_
              exact h
            · replace h := h.2 (b2i_f.mp c)
              refine st_aload_n (pc' := 300) dX12_goesOn_299 rfl rfl (j := 3) rfl ?_
              refine st_ldc2 (pc' := 303) (z := 28530) dX12_goesOn_300 rfl q_X12_349 (by decide) ?_
              refine st_callV (pc' := 306) (kc := k - 1) (E' := LAY) (cal := m_X12_isWord) (n := 1) (as := [vL 28530]) (S := []) dX12_goesOn_303 rfl l_X12_385 k_X12_isWord rfl L_74 c_X12 rfl rfl (Nat.le_of_ble_eq_true rfl) (by omega) ⟨Nat.le_refl _, Nat.le_refl _, Nat.le_refl _, Nat.le_refl _⟩ (Q1 := fun r M' => WP k LAY m_X12_goesOn 306 [(3, vI y2), (2, vI (gi I 101 ((gi I 74 46) - 1).toNat)), (1, vI ((gi I 74 46) - 1)), (0, vR (some 74))] (r.toList ++ []) M' Q) (S_X12_isWord (by omega) (by decide) ?_) (fun r M' q => q)
              change WP _ LAY m_X12_goesOn 306 [(3, vI y2), (2, vI (gi I 101 ((gi I 74 46) - 1).toNat)), (1, vI ((gi I 74 46) - 1)), (0, vR (some 74))] [vI (b2i (gi I 74 3 = 1 ∧ gl J 74 7 = 28530))] (mem (P, some 5, some 22) I J) Q
              refine st_if_eq (tg := 400) (pc' := 309) dX12_goesOn_306 (by decide) rfl (b2i_in _) (fun c => ?_) (fun c => ?_)
              · replace h := h.1 (b2i_f.mp c)
                refine WP_sub (L' := [(0, vR (some 74)), (1, vI ((gi I 74 46) - 1)), (2, vI (gi I 101 ((gi I 74 46) - 1).toNat)), (3, vI y2)]) [3, 2, 1, 0] rfl ?_
                exact h
              · replace h := h.2 (b2i_t.mp c)
                refine WP_sub (L' := [(0, vR (some 74)), (1, vI ((gi I 74 46) - 1))]) [3, 2] rfl ?_
                exact h
        · replace h := h.2 c
          refine st_aload_n (pc' := 193) dX12_goesOn_192 rfl rfl (j := 3) rfl ?_
          refine G_X12_139_74 dX12_goesOn_193 (pc' := 196) rfl rfl ?_
          refine st_iload_n (pc' := 197) dX12_goesOn_196 rfl rfl (j := 2) rfl ?_
          refine st_iaload (pc' := 198) (v := (gi I 102 ((gi I 74 46) - 1).toNat)) dX12_goesOn_197 rfl L_102 (by decide) e1 (show gi I 102 ((gi I 74 46) - 1).toNat = (gi I 102 ((gi I 74 46) - 1).toNat) from rfl) ?_
          refine st_if_ne (tg := 285) (pc' := 201) dX12_goesOn_198 (by decide) rfl (gi_in _ _ _) (fun c => ?_) (fun c => ?_)
          · replace h := h.1 c
            refine st_iload_n (pc' := 286) dX12_goesOn_285 rfl rfl (j := 0) rfl ?_
            refine st_if_eq (tg := 400) (pc' := 289) dX12_goesOn_286 (by decide) rfl (by rw [hy2]; exact (b2i_in _)) (fun c => ?_) (fun c => ?_)
            · replace h := h.1 c
              refine WP_sub (L' := [(0, vR (some 74)), (1, vI ((gi I 74 46) - 1)), (2, vI (gi I 101 ((gi I 74 46) - 1).toNat)), (3, vI y2)]) [3, 2, 1, 0] rfl ?_
              exact h
            · replace h := h.2 c
              refine st_aload_n (pc' := 290) dX12_goesOn_289 rfl rfl (j := 3) rfl ?_
              refine st_ldc2 (pc' := 293) (z := 6385252) dX12_goesOn_290 rfl q_X12_351 (by decide) ?_
              refine st_callV (pc' := 296) (kc := k - 1) (E' := LAY) (cal := m_X12_isWord) (n := 1) (as := [vL 6385252]) (S := []) dX12_goesOn_293 rfl l_X12_385 k_X12_isWord rfl L_74 c_X12 rfl rfl (Nat.le_of_ble_eq_true rfl) (by omega) ⟨Nat.le_refl _, Nat.le_refl _, Nat.le_refl _, Nat.le_refl _⟩ (Q1 := fun r M' => WP k LAY m_X12_goesOn 296 [(3, vI y2), (2, vI (gi I 101 ((gi I 74 46) - 1).toNat)), (1, vI ((gi I 74 46) - 1)), (0, vR (some 74))] (r.toList ++ []) M' Q) (S_X12_isWord (by omega) (by decide) ?_) (fun r M' q => q)
              change WP _ LAY m_X12_goesOn 296 [(3, vI y2), (2, vI (gi I 101 ((gi I 74 46) - 1).toNat)), (1, vI ((gi I 74 46) - 1)), (0, vR (some 74))] [vI (b2i (gi I 74 3 = 1 ∧ gl J 74 7 = 6385252))] (mem (P, some 5, some 22) I J) Q
              refine st_if_ne (tg := 309) (pc' := 299) dX12_goesOn_296 (by decide) rfl (b2i_in _) (fun c => ?_) (fun c => ?_)
              · replace h := h.1 (b2i_t.mp c)
                refine WP_sub (L' := [(0, vR (some 74)), (1, vI ((gi I 74 46) - 1))]) [3, 2] rfl ?_
                exact h
              · replace h := h.2 (b2i_f.mp c)
                refine st_aload_n (pc' := 300) dX12_goesOn_299 rfl rfl (j := 3) rfl ?_
                refine st_ldc2 (pc' := 303) (z := 28530) dX12_goesOn_300 rfl q_X12_349 (by decide) ?_
                refine st_callV (pc' := 306) (kc := k - 1) (E' := LAY) (cal := m_X12_isWord) (n := 1) (as := [vL 28530]) (S := []) dX12_goesOn_303 rfl l_X12_385 k_X12_isWord rfl L_74 c_X12 rfl rfl (Nat.le_of_ble_eq_true rfl) (by omega) ⟨Nat.le_refl _, Nat.le_refl _, Nat.le_refl _, Nat.le_refl _⟩ (Q1 := fun r M' => WP k LAY m_X12_goesOn 306 [(3, vI y2), (2, vI (gi I 101 ((gi I 74 46) - 1).toNat)), (1, vI ((gi I 74 46) - 1)), (0, vR (some 74))] (r.toList ++ []) M' Q) (S_X12_isWord (by omega) (by decide) ?_) (fun r M' q => q)
                change WP _ LAY m_X12_goesOn 306 [(3, vI y2), (2, vI (gi I 101 ((gi I 74 46) - 1).toNat)), (1, vI ((gi I 74 46) - 1)), (0, vR (some 74))] [vI (b2i (gi I 74 3 = 1 ∧ gl J 74 7 = 28530))] (mem (P, some 5, some 22) I J) Q
                refine st_if_eq (tg := 400) (pc' := 309) dX12_goesOn_306 (by decide) rfl (b2i_in _) (fun c => ?_) (fun c => ?_)
                · replace h := h.1 (b2i_f.mp c)
                  refine WP_sub (L' := [(0, vR (some 74)), (1, vI ((gi I 74 46) - 1)), (2, vI (gi I 101 ((gi I 74 46) - 1).toNat)), (3, vI y2)]) [3, 2, 1, 0] rfl ?_
                  exact h
                · replace h := h.2 (b2i_t.mp c)
                  refine WP_sub (L' := [(0, vR (some 74)), (1, vI ((gi I 74 46) - 1))]) [3, 2] rfl ?_
                  exact h
          · replace h := h.2 c
            refine st_aload_n (pc' := 202) dX12_goesOn_201 rfl rfl (j := 3) rfl ?_
            refine st_bipush (pc' := 204) dX12_goesOn_202 rfl (by decide) ?_
            refine st_callV (pc' := 207) (kc := k - 1) (E' := LAY) (cal := m_X12_isSign) (n := 1) (as := [vI 60]) (S := []) dX12_goesOn_204 rfl l_X12_305 k_X12_isSign rfl L_74 c_X12 rfl rfl (Nat.le_of_ble_eq_true rfl) (by omega) ⟨Nat.le_refl _, Nat.le_refl _, Nat.le_refl _, Nat.le_refl _⟩ (Q1 := fun r M' => WP k LAY m_X12_goesOn 207 [(3, vI y2), (2, vI (gi I 101 ((gi I 74 46) - 1).toNat)), (1, vI ((gi I 74 46) - 1)), (0, vR (some 74))] (r.toList ++ []) M' Q) (S_X12_isSign (by omega) (by decide) ?_) (fun r M' q => q)
            change WP _ LAY m_X12_goesOn 207 [(3, vI y2), (2, vI (gi I 101 ((gi I 74 46) - 1).toNat)), (1, vI ((gi I 74 46) - 1)), (0, vR (some 74))] [vI (b2i (gi I 74 3 = 3 ∧ gi I 74 6 = 60))] (mem (P, some 5, some 22) I J) Q
            refine st_if_ne (tg := 228) (pc' := 210) dX12_goesOn_207 (by decide) rfl (b2i_in _) (fun c => ?_) (fun c => ?_)
            · replace h := h.1 (b2i_t.mp c)
              refine WP_sub (L' := [(0, vR (some 74)), (1, vI ((gi I 74 46) - 1))]) [3, 2] rfl ?_
              exact h
            · replace h := h.2 (b2i_f.mp c)
              refine st_aload_n (pc' := 211) dX12_goesOn_210 rfl rfl (j := 3) rfl ?_
              refine st_bipush (pc' := 213) dX12_goesOn_211 rfl (by decide) ?_
              refine st_callV (pc' := 216) (kc := k - 1) (E' := LAY) (cal := m_X12_isSign) (n := 1) (as := [vI 62]) (S := []) dX12_goesOn_213 rfl l_X12_305 k_X12_isSign rfl L_74 c_X12 rfl rfl (Nat.le_of_ble_eq_true rfl) (by omega) ⟨Nat.le_refl _, Nat.le_refl _, Nat.le_refl _, Nat.le_refl _⟩ (Q1 := fun r M' => WP k LAY m_X12_goesOn 216 [(3, vI y2), (2, vI (gi I 101 ((gi I 74 46) - 1).toNat)), (1, vI ((gi I 74 46) - 1)), (0, vR (some 74))] (r.toList ++ []) M' Q) (S_X12_isSign (by omega) (by decide) ?_) (fun r M' q => q)
              change WP _ LAY m_X12_goesOn 216 [(3, vI y2), (2, vI (gi I 101 ((gi I 74 46) - 1).toNat)), (1, vI ((gi I 74 46) - 1)), (0, vR (some 74))] [vI (b2i (gi I 74 3 = 3 ∧ gi I 74 6 = 62))] (mem (P, some 5, some 22) I J) Q
              refine st_if_ne (tg := 228) (pc' := 219) dX12_goesOn_216 (by decide) rfl (b2i_in _) (fun c => ?_) (fun c => ?_)
              · replace h := h.1 (b2i_t.mp c)
                refine WP_sub (L' := [(0, vR (some 74)), (1, vI ((gi I 74 46) - 1))]) [3, 2] rfl ?_
                exact h
              · replace h := h.2 (b2i_f.mp c)
                refine st_aload_n (pc' := 220) dX12_goesOn_219 rfl rfl (j := 3) rfl ?_
                refine st_bipush (pc' := 222) dX12_goesOn_220 rfl (by decide) ?_
                refine st_callV (pc' := 225) (kc := k - 1) (E' := LAY) (cal := m_X12_isSign) (n := 1) (as := [vI 61]) (S := []) dX12_goesOn_222 rfl l_X12_305 k_X12_isSign rfl L_74 c_X12 rfl rfl (Nat.le_of_ble_eq_true rfl) (by omega) ⟨Nat.le_refl _, Nat.le_refl _, Nat.le_refl _, Nat.le_refl _⟩ (Q1 := fun r M' => WP k LAY m_X12_goesOn 225 [(3, vI y2), (2, vI (gi I 101 ((gi I 74 46) - 1).toNat)), (1, vI ((gi I 74 46) - 1)), (0, vR (some 74))] (r.toList ++ []) M' Q) (S_X12_isSign (by omega) (by decide) ?_) (fun r M' q => q)
                change WP _ LAY m_X12_goesOn 225 [(3, vI y2), (2, vI (gi I 101 ((gi I 74 46) - 1).toNat)), (1, vI ((gi I 74 46) - 1)), (0, vR (some 74))] [vI (b2i (gi I 74 3 = 3 ∧ gi I 74 6 = 61))] (mem (P, some 5, some 22) I J) Q
                refine st_if_eq (tg := 285) (pc' := 228) dX12_goesOn_225 (by decide) rfl (b2i_in _) (fun c => ?_) (fun c => ?_)
                · replace h := h.1 (b2i_f.mp c)
                  refine st_iload_n (pc' := 286) dX12_goesOn_285 rfl rfl (j := 0) rfl ?_
                  refine st_if_eq (tg := 400) (pc' := 289) dX12_goesOn_286 (by decide) rfl (by rw [hy2]; exact (b2i_in _)) (fun c => ?_) (fun c => ?_)
                  · replace h := h.1 c
                    refine WP_sub (L' := [(0, vR (some 74)), (1, vI ((gi I 74 46) - 1)), (2, vI (gi I 101 ((gi I 74 46) - 1).toNat)), (3, vI y2)]) [3, 2, 1, 0] rfl ?_
                    exact h
                  · replace h := h.2 c
                    refine st_aload_n (pc' := 290) dX12_goesOn_289 rfl rfl (j := 3) rfl ?_
                    refine st_ldc2 (pc' := 293) (z := 6385252) dX12_goesOn_290 rfl q_X12_351 (by decide) ?_
                    refine st_callV (pc' := 296) (kc := k - 1) (E' := LAY) (cal := m_X12_isWord) (n := 1) (as := [vL 6385252]) (S := []) dX12_goesOn_293 rfl l_X12_385 k_X12_isWord rfl L_74 c_X12 rfl rfl (Nat.le_of_ble_eq_true rfl) (by omega) ⟨Nat.le_refl _, Nat.le_refl _, Nat.le_refl _, Nat.le_refl _⟩ (Q1 := fun r M' => WP k LAY m_X12_goesOn 296 [(3, vI y2), (2, vI (gi I 101 ((gi I 74 46) - 1).toNat)), (1, vI ((gi I 74 46) - 1)), (0, vR (some 74))] (r.toList ++ []) M' Q) (S_X12_isWord (by omega) (by decide) ?_) (fun r M' q => q)
                    change WP _ LAY m_X12_goesOn 296 [(3, vI y2), (2, vI (gi I 101 ((gi I 74 46) - 1).toNat)), (1, vI ((gi I 74 46) - 1)), (0, vR (some 74))] [vI (b2i (gi I 74 3 = 1 ∧ gl J 74 7 = 6385252))] (mem (P, some 5, some 22) I J) Q
                    refine st_if_ne (tg := 309) (pc' := 299) dX12_goesOn_296 (by decide) rfl (b2i_in _) (fun c => ?_) (fun c => ?_)
                    · replace h := h.1 (b2i_t.mp c)
                      refine WP_sub (L' := [(0, vR (some 74)), (1, vI ((gi I 74 46) - 1))]) [3, 2] rfl ?_
                      exact h
                    · replace h := h.2 (b2i_f.mp c)
                      refine st_aload_n (pc' := 300) dX12_goesOn_299 rfl rfl (j := 3) rfl ?_
                      refine st_ldc2 (pc' := 303) (z := 28530) dX12_goesOn_300 rfl q_X12_349 (by decide) ?_
                      refine st_callV (pc' := 306) (kc := k - 1) (E' := LAY) (cal := m_X12_isWord) (n := 1) (as := [vL 28530]) (S := []) dX12_goesOn_303 rfl l_X12_385 k_X12_isWord rfl L_74 c_X12 rfl rfl (Nat.le_of_ble_eq_true rfl) (by omega) ⟨Nat.le_refl _, Nat.le_refl _, Nat.le_refl _, Nat.le_refl _⟩ (Q1 := fun r M' => WP k LAY m_X12_goesOn 306 [(3, vI y2), (2, vI (gi I 101 ((gi I 74 46) - 1).toNat)), (1, vI ((gi I 74 46) - 1)), (0, vR (some 74))] (r.toList ++ []) M' Q) (S_X12_isWord (by omega) (by decide) ?_) (fun r M' q => q)
                      change WP _ LAY m_X12_goesOn 306 [(3, vI y2), (2, vI (gi I 101 ((gi I 74 46) - 1).toNat)), (1, vI ((gi I 74 46) - 1)), (0, vR (some 74))] [vI (b2i (gi I 74 3 = 1 ∧ gl J 74 7 = 28530))] (mem (P, some 5, some 22) I J) Q
                      refine st_if_eq (tg := 400) (pc' := 309) dX12_goesOn_306 (by decide) rfl (b2i_in _) (fun c => ?_) (fun c => ?_)
                      · replace h := h.1 (b2i_f.mp c)
                        refine WP_sub (L' := [(0, vR (some 74)), (1, vI ((gi I 74 46) - 1)), (2, vI (gi I 101 ((gi I 74 46) - 1).toNat)), (3, vI y2)]) [3, 2, 1, 0] rfl ?_
                        exact h
                      · replace h := h.2 (b2i_t.mp c)
                        refine WP_sub (L' := [(0, vR (some 74)), (1, vI ((gi I 74 46) - 1))]) [3, 2] rfl ?_
                        exact h
                · replace h := h.2 (b2i_t.mp c)
                  refine WP_sub (L' := [(0, vR (some 74)), (1, vI ((gi I 74 46) - 1))]) [3, 2] rfl ?_
                  exact h
      · replace h := h.2 c
        refine st_aload_n (pc' := 43) dX12_goesOn_42 rfl rfl (j := 3) rfl ?_
        refine st_bipush (pc' := 45) dX12_goesOn_43 rfl (by decide) ?_
        refine st_callV (pc' := 48) (kc := k - 1) (E' := LAY) (cal := m_X12_isSign) (n := 1) (as := [vI 43]) (S := []) dX12_goesOn_45 rfl l_X12_305 k_X12_isSign rfl L_74 c_X12 rfl rfl (Nat.le_of_ble_eq_true rfl) (by omega) ⟨Nat.le_refl _, Nat.le_refl _, Nat.le_refl _, Nat.le_refl _⟩ (Q1 := fun r M' => WP k LAY m_X12_goesOn 48 [(3, vI y2), (2, vI (gi I 101 ((gi I 74 46) - 1).toNat)), (1, vI ((gi I 74 46) - 1)), (0, vR (some 74))] (r.toList ++ []) M' Q) (S_X12_isSign (by omega) (by decide) ?_) (fun r M' q => q)
        change WP _ LAY m_X12_goesOn 48 [(3, vI y2), (2, vI (gi I 101 ((gi I 74 46) - 1).toNat)), (1, vI ((gi I 74 46) - 1)), (0, vR (some 74))] [vI (b2i (gi I 74 3 = 3 ∧ gi I 74 6 = 43))] (mem (P, some 5, some 22) I J) Q
        refine st_if_ne (tg := 87) (pc' := 51) dX12_goesOn_48 (by decide) rfl (b2i_in _) (fun c => ?_) (fun c => ?_)
        · replace h := h.1 (b2i_t.mp c)
          refine WP_sub (L' := [(0, vR (some 74))]) [3] rfl ?_
          exact h
        · replace h := h.2 (b2i_f.mp c)
          refine st_aload_n (pc' := 52) dX12_goesOn_51 rfl rfl (j := 3) rfl ?_
          refine st_bipush (pc' := 54) dX12_goesOn_52 rfl (by decide) ?_
          refine st_callV (pc' := 57) (kc := k - 1) (E' := LAY) (cal := m_X12_isSign) (n := 1) (as := [vI 45]) (S := []) dX12_goesOn_54 rfl l_X12_305 k_X12_isSign rfl L_74 c_X12 rfl rfl (Nat.le_of_ble_eq_true rfl) (by omega) ⟨Nat.le_refl _, Nat.le_refl _, Nat.le_refl _, Nat.le_refl _⟩ (Q1 := fun r M' => WP k LAY m_X12_goesOn 57 [(3, vI y2), (2, vI (gi I 101 ((gi I 74 46) - 1).toNat)), (1, vI ((gi I 74 46) - 1)), (0, vR (some 74))] (r.toList ++ []) M' Q) (S_X12_isSign (by omega) (by decide) ?_) (fun r M' q => q)
          change WP _ LAY m_X12_goesOn 57 [(3, vI y2), (2, vI (gi I 101 ((gi I 74 46) - 1).toNat)), (1, vI ((gi I 74 46) - 1)), (0, vR (some 74))] [vI (b2i (gi I 74 3 = 3 ∧ gi I 74 6 = 45))] (mem (P, some 5, some 22) I J) Q
          refine st_if_ne (tg := 87) (pc' := 60) dX12_goesOn_57 (by decide) rfl (b2i_in _) (fun c => ?_) (fun c => ?_)
          · replace h := h.1 (b2i_t.mp c)
            refine WP_sub (L' := [(0, vR (some 74))]) [3] rfl ?_
            exact h
          · replace h := h.2 (b2i_f.mp c)
            refine st_aload_n (pc' := 61) dX12_goesOn_60 rfl rfl (j := 3) rfl ?_
            refine st_bipush (pc' := 63) dX12_goesOn_61 rfl (by decide) ?_
            refine st_callV (pc' := 66) (kc := k - 1) (E' := LAY) (cal := m_X12_isSign) (n := 1) (as := [vI 42]) (S := []) dX12_goesOn_63 rfl l_X12_305 k_X12_isSign rfl L_74 c_X12 rfl rfl (Nat.le_of_ble_eq_true rfl) (by omega) ⟨Nat.le_refl _, Nat.le_refl _, Nat.le_refl _, Nat.le_refl _⟩ (Q1 := fun r M' => WP k LAY m_X12_goesOn 66 [(3, vI y2), (2, vI (gi I 101 ((gi I 74 46) - 1).toNat)), (1, vI ((gi I 74 46) - 1)), (0, vR (some 74))] (r.toList ++ []) M' Q) (S_X12_isSign (by omega) (by decide) ?_) (fun r M' q => q)
            change WP _ LAY m_X12_goesOn 66 [(3, vI y2), (2, vI (gi I 101 ((gi I 74 46) - 1).toNat)), (1, vI ((gi I 74 46) - 1)), (0, vR (some 74))] [vI (b2i (gi I 74 3 = 3 ∧ gi I 74 6 = 42))] (mem (P, some 5, some 22) I J) Q
            refine st_if_ne (tg := 87) (pc' := 69) dX12_goesOn_66 (by decide) rfl (b2i_in _) (fun c => ?_) (fun c => ?_)
            · replace h := h.1 (b2i_t.mp c)
              refine WP_sub (L' := [(0, vR (some 74))]) [3] rfl ?_
              exact h
            · replace h := h.2 (b2i_f.mp c)
              refine st_aload_n (pc' := 70) dX12_goesOn_69 rfl rfl (j := 3) rfl ?_
              refine st_bipush (pc' := 72) dX12_goesOn_70 rfl (by decide) ?_
              refine st_callV (pc' := 75) (kc := k - 1) (E' := LAY) (cal := m_X12_isSign) (n := 1) (as := [vI 47]) (S := []) dX12_goesOn_72 rfl l_X12_305 k_X12_isSign rfl L_74 c_X12 rfl rfl (Nat.le_of_ble_eq_true rfl) (by omega) ⟨Nat.le_refl _, Nat.le_refl _, Nat.le_refl _, Nat.le_refl _⟩ (Q1 := fun r M' => WP k LAY m_X12_goesOn 75 [(3, vI y2), (2, vI (gi I 101 ((gi I 74 46) - 1).toNat)), (1, vI ((gi I 74 46) - 1)), (0, vR (some 74))] (r.toList ++ []) M' Q) (S_X12_isSign (by omega) (by decide) ?_) (fun r M' q => q)
              change WP _ LAY m_X12_goesOn 75 [(3, vI y2), (2, vI (gi I 101 ((gi I 74 46) - 1).toNat)), (1, vI ((gi I 74 46) - 1)), (0, vR (some 74))] [vI (b2i (gi I 74 3 = 3 ∧ gi I 74 6 = 47))] (mem (P, some 5, some 22) I J) Q
              refine st_if_ne (tg := 87) (pc' := 78) dX12_goesOn_75 (by decide) rfl (b2i_in _) (fun c => ?_) (fun c => ?_)
              · replace h := h.1 (b2i_t.mp c)
                refine WP_sub (L' := [(0, vR (some 74))]) [3] rfl ?_
                exact h
              · replace h := h.2 (b2i_f.mp c)
                refine st_aload_n (pc' := 79) dX12_goesOn_78 rfl rfl (j := 3) rfl ?_
                refine st_bipush (pc' := 81) dX12_goesOn_79 rfl (by decide) ?_
                refine st_callV (pc' := 84) (kc := k - 1) (E' := LAY) (cal := m_X12_isSign) (n := 1) (as := [vI 37]) (S := []) dX12_goesOn_81 rfl l_X12_305 k_X12_isSign rfl L_74 c_X12 rfl rfl (Nat.le_of_ble_eq_true rfl) (by omega) ⟨Nat.le_refl _, Nat.le_refl _, Nat.le_refl _, Nat.le_refl _⟩ (Q1 := fun r M' => WP k LAY m_X12_goesOn 84 [(3, vI y2), (2, vI (gi I 101 ((gi I 74 46) - 1).toNat)), (1, vI ((gi I 74 46) - 1)), (0, vR (some 74))] (r.toList ++ []) M' Q) (S_X12_isSign (by omega) (by decide) ?_) (fun r M' q => q)
                change WP _ LAY m_X12_goesOn 84 [(3, vI y2), (2, vI (gi I 101 ((gi I 74 46) - 1).toNat)), (1, vI ((gi I 74 46) - 1)), (0, vR (some 74))] [vI (b2i (gi I 74 3 = 3 ∧ gi I 74 6 = 37))] (mem (P, some 5, some 22) I J) Q
                refine st_if_eq (tg := 188) (pc' := 87) dX12_goesOn_84 (by decide) rfl (b2i_in _) (fun c => ?_) (fun c => ?_)
                · replace h := h.1 (b2i_f.mp c)
                  refine st_iload_n (pc' := 189) dX12_goesOn_188 rfl rfl (j := 0) rfl ?_
                  refine st_if_eq (tg := 285) (pc' := 192) dX12_goesOn_189 (by decide) rfl (by rw [hy2]; exact (b2i_in _)) (fun c => ?_) (fun c => ?_)
                  · replace h := h.1 c
                    refine st_iload_n (pc' := 286) dX12_goesOn_285 rfl rfl (j := 0) rfl ?_
                    refine st_if_eq (tg := 400) (pc' := 289) dX12_goesOn_286 (by decide) rfl (by rw [hy2]; exact (b2i_in _)) (fun c => ?_) (fun c => ?_)
                    · replace h := h.1 c
                      refine WP_sub (L' := [(0, vR (some 74)), (1, vI ((gi I 74 46) - 1)), (2, vI (gi I 101 ((gi I 74 46) - 1).toNat)), (3, vI y2)]) [3, 2, 1, 0] rfl ?_
                      exact h
                    · replace h := h.2 c
                      refine st_aload_n (pc' := 290) dX12_goesOn_289 rfl rfl (j := 3) rfl ?_
                      refine st_ldc2 (pc' := 293) (z := 6385252) dX12_goesOn_290 rfl q_X12_351 (by decide) ?_
                      refine st_callV (pc' := 296) (kc := k - 1) (E' := LAY) (cal := m_X12_isWord) (n := 1) (as := [vL 6385252]) (S := []) dX12_goesOn_293 rfl l_X12_385 k_X12_isWord rfl L_74 c_X12 rfl rfl (Nat.le_of_ble_eq_true rfl) (by omega) ⟨Nat.le_refl _, Nat.le_refl _, Nat.le_refl _, Nat.le_refl _⟩ (Q1 := fun r M' => WP k LAY m_X12_goesOn 296 [(3, vI y2), (2, vI (gi I 101 ((gi I 74 46) - 1).toNat)), (1, vI ((gi I 74 46) - 1)), (0, vR (some 74))] (r.toList ++ []) M' Q) (S_X12_isWord (by omega) (by decide) ?_) (fun r M' q => q)
                      change WP _ LAY m_X12_goesOn 296 [(3, vI y2), (2, vI (gi I 101 ((gi I 74 46) - 1).toNat)), (1, vI ((gi I 74 46) - 1)), (0, vR (some 74))] [vI (b2i (gi I 74 3 = 1 ∧ gl J 74 7 = 6385252))] (mem (P, some 5, some 22) I J) Q
                      refine st_if_ne (tg := 309) (pc' := 299) dX12_goesOn_296 (by decide) rfl (b2i_in _) (fun c => ?_) (fun c => ?_)
                      · replace h := h.1 (b2i_t.mp c)
                        refine WP_sub (L' := [(0, vR (some 74)), (1, vI ((gi I 74 46) - 1))]) [3, 2] rfl ?_
                        exact h
                      · replace h := h.2 (b2i_f.mp c)
                        refine st_aload_n (pc' := 300) dX12_goesOn_299 rfl rfl (j := 3) rfl ?_
                        refine st_ldc2 (pc' := 303) (z := 28530) dX12_goesOn_300 rfl q_X12_349 (by decide) ?_
                        refine st_callV (pc' := 306) (kc := k - 1) (E' := LAY) (cal := m_X12_isWord) (n := 1) (as := [vL 28530]) (S := []) dX12_goesOn_303 rfl l_X12_385 k_X12_isWord rfl L_74 c_X12 rfl rfl (Nat.le_of_ble_eq_true rfl) (by omega) ⟨Nat.le_refl _, Nat.le_refl _, Nat.le_refl _, Nat.le_refl _⟩ (Q1 := fun r M' => WP k LAY m_X12_goesOn 306 [(3, vI y2), (2, vI (gi I 101 ((gi I 74 46) - 1).toNat)), (1, vI ((gi I 74 46) - 1)), (0, vR (some 74))] (r.toList ++ []) M' Q) (S_X12_isWord (by omega) (by decide) ?_) (fun r M' q => q)
                        change WP _ LAY m_X12_goesOn 306 [(3, vI y2), (2, vI (gi I 101 ((gi I 74 46) - 1).toNat)), (1, vI ((gi I 74 46) - 1)), (0, vR (some 74))] [vI (b2i (gi I 74 3 = 1 ∧ gl J 74 7 = 28530))] (mem (P, some 5, some 22) I J) Q
                        refine st_if_eq (tg := 400) (pc' := 309) dX12_goesOn_306 (by decide) rfl (b2i_in _) (fun c => ?_) (fun c => ?_)
                        · replace h := h.1 (b2i_f.mp c)
                          refine WP_sub (L' := [(0, vR (some 74)), (1, vI ((gi I 74 46) - 1)), (2, vI (gi I 101 ((gi I 74 46) - 1).toNat)), (3, vI y2)]) [3, 2, 1, 0] rfl ?_
                          exact h
                        · replace h := h.2 (b2i_t.mp c)
                          refine WP_sub (L' := [(0, vR (some 74)), (1, vI ((gi I 74 46) - 1))]) [3, 2] rfl ?_
                          exact h
                  · replace h := h.2 c
                    refine st_aload_n (pc' := 193) dX12_goesOn_192 rfl rfl (j := 3) rfl ?_
                    refine G_X12_139_74 dX12_goesOn_193 (pc' := 196) rfl rfl ?_
                    refine st_iload_n (pc' := 197) dX12_goesOn_196 rfl rfl (j := 2) rfl ?_
                    refine st_iaload (pc' := 198) (v := (gi I 102 ((gi I 74 46) - 1).toNat)) dX12_goesOn_197 rfl L_102 (by decide) e1 (show gi I 102 ((gi I 74 46) - 1).toNat = (gi I 102 ((gi I 74 46) - 1).toNat) from rfl) ?_
                    refine st_if_ne (tg := 285) (pc' := 201) dX12_goesOn_198 (by decide) rfl (gi_in _ _ _) (fun c => ?_) (fun c => ?_)
                    · replace h := h.1 c
                      refine st_iload_n (pc' := 286) dX12_goesOn_285 rfl rfl (j := 0) rfl ?_
                      refine st_if_eq (tg := 400) (pc' := 289) dX12_goesOn_286 (by decide) rfl (by rw [hy2]; exact (b2i_in _)) (fun c => ?_) (fun c => ?_)
                      · replace h := h.1 c
                        refine WP_sub (L' := [(0, vR (some 74)), (1, vI ((gi I 74 46) - 1)), (2, vI (gi I 101 ((gi I 74 46) - 1).toNat)), (3, vI y2)]) [3, 2, 1, 0] rfl ?_
                        exact h
                      · replace h := h.2 c
                        refine st_aload_n (pc' := 290) dX12_goesOn_289 rfl rfl (j := 3) rfl ?_
                        refine st_ldc2 (pc' := 293) (z := 6385252) dX12_goesOn_290 rfl q_X12_351 (by decide) ?_
                        refine st_callV (pc' := 296) (kc := k - 1) (E' := LAY) (cal := m_X12_isWord) (n := 1) (as := [vL 6385252]) (S := []) dX12_goesOn_293 rfl l_X12_385 k_X12_isWord rfl L_74 c_X12 rfl rfl (Nat.le_of_ble_eq_true rfl) (by omega) ⟨Nat.le_refl _, Nat.le_refl _, Nat.le_refl _, Nat.le_refl _⟩ (Q1 := fun r M' => WP k LAY m_X12_goesOn 296 [(3, vI y2), (2, vI (gi I 101 ((gi I 74 46) - 1).toNat)), (1, vI ((gi I 74 46) - 1)), (0, vR (some 74))] (r.toList ++ []) M' Q) (S_X12_isWord (by omega) (by decide) ?_) (fun r M' q => q)
                        change WP _ LAY m_X12_goesOn 296 [(3, vI y2), (2, vI (gi I 101 ((gi I 74 46) - 1).toNat)), (1, vI ((gi I 74 46) - 1)), (0, vR (some 74))] [vI (b2i (gi I 74 3 = 1 ∧ gl J 74 7 = 6385252))] (mem (P, some 5, some 22) I J) Q
                        refine st_if_ne (tg := 309) (pc' := 299) dX12_goesOn_296 (by decide) rfl (b2i_in _) (fun c => ?_) (fun c => ?_)
                        · replace h := h.1 (b2i_t.mp c)
                          refine WP_sub (L' := [(0, vR (some 74)), (1, vI ((gi I 74 46) - 1))]) [3, 2] rfl ?_
                          exact h
                        · replace h := h.2 (b2i_f.mp c)
                          refine st_aload_n (pc' := 300) dX12_goesOn_299 rfl rfl (j := 3) rfl ?_
                          refine st_ldc2 (pc' := 303) (z := 28530) dX12_goesOn_300 rfl q_X12_349 (by decide) ?_
                          refine st_callV (pc' := 306) (kc := k - 1) (E' := LAY) (cal := m_X12_isWord) (n := 1) (as := [vL 28530]) (S := []) dX12_goesOn_303 rfl l_X12_385 k_X12_isWord rfl L_74 c_X12 rfl rfl (Nat.le_of_ble_eq_true rfl) (by omega) ⟨Nat.le_refl _, Nat.le_refl _, Nat.le_refl _, Nat.le_refl _⟩ (Q1 := fun r M' => WP k LAY m_X12_goesOn 306 [(3, vI y2), (2, vI (gi I 101 ((gi I 74 46) - 1).toNat)), (1, vI ((gi I 74 46) - 1)), (0, vR (some 74))] (r.toList ++ []) M' Q) (S_X12_isWord (by omega) (by decide) ?_) (fun r M' q => q)
                          change WP _ LAY m_X12_goesOn 306 [(3, vI y2), (2, vI (gi I 101 ((gi I 74 46) - 1).toNat)), (1, vI ((gi I 74 46) - 1)), (0, vR (some 74))] [vI (b2i (gi I 74 3 = 1 ∧ gl J 74 7 = 28530))] (mem (P, some 5, some 22) I J) Q
                          refine st_if_eq (tg := 400) (pc' := 309) dX12_goesOn_306 (by decide) rfl (b2i_in _) (fun c => ?_) (fun c => ?_)
                          · replace h := h.1 (b2i_f.mp c)
                            refine WP_sub (L' := [(0, vR (some 74)), (1, vI ((gi I 74 46) - 1)), (2, vI (gi I 101 ((gi I 74 46) - 1).toNat)), (3, vI y2)]) [3, 2, 1, 0] rfl ?_
                            exact h
                          · replace h := h.2 (b2i_t.mp c)
                            refine WP_sub (L' := [(0, vR (some 74)), (1, vI ((gi I 74 46) - 1))]) [3, 2] rfl ?_
                            exact h
                    · replace h := h.2 c
                      refine st_aload_n (pc' := 202) dX12_goesOn_201 rfl rfl (j := 3) rfl ?_
                      refine st_bipush (pc' := 204) dX12_goesOn_202 rfl (by decide) ?_
                      refine st_callV (pc' := 207) (kc := k - 1) (E' := LAY) (cal := m_X12_isSign) (n := 1) (as := [vI 60]) (S := []) dX12_goesOn_204 rfl l_X12_305 k_X12_isSign rfl L_74 c_X12 rfl rfl (Nat.le_of_ble_eq_true rfl) (by omega) ⟨Nat.le_refl _, Nat.le_refl _, Nat.le_refl _, Nat.le_refl _⟩ (Q1 := fun r M' => WP k LAY m_X12_goesOn 207 [(3, vI y2), (2, vI (gi I 101 ((gi I 74 46) - 1).toNat)), (1, vI ((gi I 74 46) - 1)), (0, vR (some 74))] (r.toList ++ []) M' Q) (S_X12_isSign (by omega) (by decide) ?_) (fun r M' q => q)
                      change WP _ LAY m_X12_goesOn 207 [(3, vI y2), (2, vI (gi I 101 ((gi I 74 46) - 1).toNat)), (1, vI ((gi I 74 46) - 1)), (0, vR (some 74))] [vI (b2i (gi I 74 3 = 3 ∧ gi I 74 6 = 60))] (mem (P, some 5, some 22) I J) Q
                      refine st_if_ne (tg := 228) (pc' := 210) dX12_goesOn_207 (by decide) rfl (b2i_in _) (fun c => ?_) (fun c => ?_)
                      · replace h := h.1 (b2i_t.mp c)
                        refine WP_sub (L' := [(0, vR (some 74)), (1, vI ((gi I 74 46) - 1))]) [3, 2] rfl ?_
                        exact h
                      · replace h := h.2 (b2i_f.mp c)
                        refine st_aload_n (pc' := 211) dX12_goesOn_210 rfl rfl (j := 3) rfl ?_
                        refine st_bipush (pc' := 213) dX12_goesOn_211 rfl (by decide) ?_
                        refine st_callV (pc' := 216) (kc := k - 1) (E' := LAY) (cal := m_X12_isSign) (n := 1) (as := [vI 62]) (S := []) dX12_goesOn_213 rfl l_X12_305 k_X12_isSign rfl L_74 c_X12 rfl rfl (Nat.le_of_ble_eq_true rfl) (by omega) ⟨Nat.le_refl _, Nat.le_refl _, Nat.le_refl _, Nat.le_refl _⟩ (Q1 := fun r M' => WP k LAY m_X12_goesOn 216 [(3, vI y2), (2, vI (gi I 101 ((gi I 74 46) - 1).toNat)), (1, vI ((gi I 74 46) - 1)), (0, vR (some 74))] (r.toList ++ []) M' Q) (S_X12_isSign (by omega) (by decide) ?_) (fun r M' q => q)
                        change WP _ LAY m_X12_goesOn 216 [(3, vI y2), (2, vI (gi I 101 ((gi I 74 46) - 1).toNat)), (1, vI ((gi I 74 46) - 1)), (0, vR (some 74))] [vI (b2i (gi I 74 3 = 3 ∧ gi I 74 6 = 62))] (mem (P, some 5, some 22) I J) Q
                        refine st_if_ne (tg := 228) (pc' := 219) dX12_goesOn_216 (by decide) rfl (b2i_in _) (fun c => ?_) (fun c => ?_)
                        · replace h := h.1 (b2i_t.mp c)
                          refine WP_sub (L' := [(0, vR (some 74)), (1, vI ((gi I 74 46) - 1))]) [3, 2] rfl ?_
                          exact h
                        · replace h := h.2 (b2i_f.mp c)
                          refine st_aload_n (pc' := 220) dX12_goesOn_219 rfl rfl (j := 3) rfl ?_
                          refine st_bipush (pc' := 222) dX12_goesOn_220 rfl (by decide) ?_
                          refine st_callV (pc' := 225) (kc := k - 1) (E' := LAY) (cal := m_X12_isSign) (n := 1) (as := [vI 61]) (S := []) dX12_goesOn_222 rfl l_X12_305 k_X12_isSign rfl L_74 c_X12 rfl rfl (Nat.le_of_ble_eq_true rfl) (by omega) ⟨Nat.le_refl _, Nat.le_refl _, Nat.le_refl _, Nat.le_refl _⟩ (Q1 := fun r M' => WP k LAY m_X12_goesOn 225 [(3, vI y2), (2, vI (gi I 101 ((gi I 74 46) - 1).toNat)), (1, vI ((gi I 74 46) - 1)), (0, vR (some 74))] (r.toList ++ []) M' Q) (S_X12_isSign (by omega) (by decide) ?_) (fun r M' q => q)
                          change WP _ LAY m_X12_goesOn 225 [(3, vI y2), (2, vI (gi I 101 ((gi I 74 46) - 1).toNat)), (1, vI ((gi I 74 46) - 1)), (0, vR (some 74))] [vI (b2i (gi I 74 3 = 3 ∧ gi I 74 6 = 61))] (mem (P, some 5, some 22) I J) Q
                          refine st_if_eq (tg := 285) (pc' := 228) dX12_goesOn_225 (by decide) rfl (b2i_in _) (fun c => ?_) (fun c => ?_)
                          · replace h := h.1 (b2i_f.mp c)
                            refine st_iload_n (pc' := 286) dX12_goesOn_285 rfl rfl (j := 0) rfl ?_
                            refine st_if_eq (tg := 400) (pc' := 289) dX12_goesOn_286 (by decide) rfl (by rw [hy2]; exact (b2i_in _)) (fun c => ?_) (fun c => ?_)
                            · replace h := h.1 c
                              refine WP_sub (L' := [(0, vR (some 74)), (1, vI ((gi I 74 46) - 1)), (2, vI (gi I 101 ((gi I 74 46) - 1).toNat)), (3, vI y2)]) [3, 2, 1, 0] rfl ?_
                              exact h
                            · replace h := h.2 c
                              refine st_aload_n (pc' := 290) dX12_goesOn_289 rfl rfl (j := 3) rfl ?_
                              refine st_ldc2 (pc' := 293) (z := 6385252) dX12_goesOn_290 rfl q_X12_351 (by decide) ?_
                              refine st_callV (pc' := 296) (kc := k - 1) (E' := LAY) (cal := m_X12_isWord) (n := 1) (as := [vL 6385252]) (S := []) dX12_goesOn_293 rfl l_X12_385 k_X12_isWord rfl L_74 c_X12 rfl rfl (Nat.le_of_ble_eq_true rfl) (by omega) ⟨Nat.le_refl _, Nat.le_refl _, Nat.le_refl _, Nat.le_refl _⟩ (Q1 := fun r M' => WP k LAY m_X12_goesOn 296 [(3, vI y2), (2, vI (gi I 101 ((gi I 74 46) - 1).toNat)), (1, vI ((gi I 74 46) - 1)), (0, vR (some 74))] (r.toList ++ []) M' Q) (S_X12_isWord (by omega) (by decide) ?_) (fun r M' q => q)
                              change WP _ LAY m_X12_goesOn 296 [(3, vI y2), (2, vI (gi I 101 ((gi I 74 46) - 1).toNat)), (1, vI ((gi I 74 46) - 1)), (0, vR (some 74))] [vI (b2i (gi I 74 3 = 1 ∧ gl J 74 7 = 6385252))] (mem (P, some 5, some 22) I J) Q
                              refine st_if_ne (tg := 309) (pc' := 299) dX12_goesOn_296 (by decide) rfl (b2i_in _) (fun c => ?_) (fun c => ?_)
                              · replace h := h.1 (b2i_t.mp c)
                                refine WP_sub (L' := [(0, vR (some 74)), (1, vI ((gi I 74 46) - 1))]) [3, 2] rfl ?_
                                exact h
                              · replace h := h.2 (b2i_f.mp c)
                                refine st_aload_n (pc' := 300) dX12_goesOn_299 rfl rfl (j := 3) rfl ?_
                                refine st_ldc2 (pc' := 303) (z := 28530) dX12_goesOn_300 rfl q_X12_349 (by decide) ?_
                                refine st_callV (pc' := 306) (kc := k - 1) (E' := LAY) (cal := m_X12_isWord) (n := 1) (as := [vL 28530]) (S := []) dX12_goesOn_303 rfl l_X12_385 k_X12_isWord rfl L_74 c_X12 rfl rfl (Nat.le_of_ble_eq_true rfl) (by omega) ⟨Nat.le_refl _, Nat.le_refl _, Nat.le_refl _, Nat.le_refl _⟩ (Q1 := fun r M' => WP k LAY m_X12_goesOn 306 [(3, vI y2), (2, vI (gi I 101 ((gi I 74 46) - 1).toNat)), (1, vI ((gi I 74 46) - 1)), (0, vR (some 74))] (r.toList ++ []) M' Q) (S_X12_isWord (by omega) (by decide) ?_) (fun r M' q => q)
                                change WP _ LAY m_X12_goesOn 306 [(3, vI y2), (2, vI (gi I 101 ((gi I 74 46) - 1).toNat)), (1, vI ((gi I 74 46) - 1)), (0, vR (some 74))] [vI (b2i (gi I 74 3 = 1 ∧ gl J 74 7 = 28530))] (mem (P, some 5, some 22) I J) Q
                                refine st_if_eq (tg := 400) (pc' := 309) dX12_goesOn_306 (by decide) rfl (b2i_in _) (fun c => ?_) (fun c => ?_)
                                · replace h := h.1 (b2i_f.mp c)
                                  refine WP_sub (L' := [(0, vR (some 74)), (1, vI ((gi I 74 46) - 1)), (2, vI (gi I 101 ((gi I 74 46) - 1).toNat)), (3, vI y2)]) [3, 2, 1, 0] rfl ?_
                                  exact h
                                · replace h := h.2 (b2i_t.mp c)
                                  refine WP_sub (L' := [(0, vR (some 74)), (1, vI ((gi I 74 46) - 1))]) [3, 2] rfl ?_
                                  exact h
                          · replace h := h.2 (b2i_t.mp c)
                            refine WP_sub (L' := [(0, vR (some 74)), (1, vI ((gi I 74 46) - 1))]) [3, 2] rfl ?_
                            exact h
                · replace h := h.2 (b2i_t.mp c)
                  refine WP_sub (L' := [(0, vR (some 74))]) [3] rfl ?_
                  exact h
    · replace h := h.2 c
      refine st_iconst (pc' := 12) dX12_goesOn_11 rfl ?_
      exact st_iret (ty := .boolean) dX12_goesOn_12 rfl (by decide) rfl h
  · replace h := h.2 c
    refine ⟨fun c => ?_, fun c => ?_⟩
    · replace h := h.1 c
      change WP _ LAY m_X12_goesOn 4 [(0, vR (some 74))] [] (mem (P, some 5, some 22) (si (si I 74 8 1) 74 9 (gi I 74 12)) J) Q
      refine st_aload_n (pc' := 5) dX12_goesOn_4 rfl rfl (j := 0) rfl ?_
      refine G_X12_36_74 dX12_goesOn_5 (pc' := 8) rfl rfl ?_
      rw [show gi (si (si I 74 8 1) 74 9 (gi I 74 12)) 74 8 = 1 from ((gi_idx _ _ _ (by decide)).trans (gi_same _ _ _ (by decide)))]
      refine st_if_le (tg := 13) (pc' := 11) dX12_goesOn_8 (by decide) rfl (by decide) (fun c => ?_) (fun c => ?_)
      · exact absurd c (by decide)
      · refine st_iconst (pc' := 12) dX12_goesOn_11 rfl ?_
        exact st_iret (ty := .boolean) dX12_goesOn_12 rfl (by decide) rfl h
    · replace h := h.2 c
      change WP _ LAY m_X12_goesOn 4 [(0, vR (some 74))] [] (mem (P, some 5, some 22) I J) Q
      refine st_aload_n (pc' := 5) dX12_goesOn_4 rfl rfl (j := 0) rfl ?_
      refine G_X12_36_74 dX12_goesOn_5 (pc' := 8) rfl rfl ?_
      refine st_if_le (tg := 13) (pc' := 11) dX12_goesOn_8 (by decide) rfl (gi_in _ _ _) (fun c => ?_) (fun c => ?_)
      · replace h := h.1 c
        refine st_aload_n (pc' := 14) dX12_goesOn_13 rfl rfl (j := 0) rfl ?_
        refine G_X12_152_74 dX12_goesOn_14 (pc' := 17) rfl rfl ?_
        refine st_iconst (pc' := 18) dX12_goesOn_17 rfl ?_
        refine st_isub (pc' := 19) dX12_goesOn_18 rfl ?_
        refine st_istore_n (pc' := 20) (L' := [(1, vI ((gi I 74 46) - 1)), (0, vR (some 74))]) dX12_goesOn_19 rfl rfl (by decide) rfl ?_
        refine st_aload_n (pc' := 21) dX12_goesOn_20 rfl rfl (j := 1) rfl ?_
        refine G_X12_136_74 dX12_goesOn_21 (pc' := 24) rfl rfl ?_
        refine st_iload_n (pc' := 25) dX12_goesOn_24 rfl rfl (j := 0) rfl ?_
        obtain ⟨e3, h⟩ := h
        refine st_iaload (pc' := 26) (v := (gi I 101 ((gi I 74 46) - 1).toNat)) dX12_goesOn_25 rfl L_101 (by decide) e3 (show gi I 101 ((gi I 74 46) - 1).toNat = (gi I 101 ((gi I 74 46) - 1).toNat) from rfl) ?_
        refine st_istore_n (pc' := 27) (L' := [(2, vI (gi I 101 ((gi I 74 46) - 1).toNat)), (1, vI ((gi I 74 46) - 1)), (0, vR (some 74))]) dX12_goesOn_26 rfl rfl (by decide) rfl ?_
        refine st_iload_n (pc' := 28) dX12_goesOn_27 rfl rfl (j := 0) rfl ?_
        refine st_callS (pc' := 31) (kc := k - 1) (E' := LAY) (cal := m_X12_isTest) (n := 1) (as := [vI (gi I 101 ((gi I 74 46) - 1).toNat)]) (S := []) dX12_goesOn_28 rfl l_X12_382 k_X12_isTest rfl rfl (Nat.le_of_ble_eq_true rfl) (by omega) ⟨Nat.le_refl _, Nat.le_refl _, Nat.le_refl _, Nat.le_refl _⟩ (Q1 := fun r M' => WP k LAY m_X12_goesOn 31 [(2, vI (gi I 101 ((gi I 74 46) - 1).toNat)), (1, vI ((gi I 74 46) - 1)), (0, vR (some 74))] (r.toList ++ []) M' Q) (S_X12_isTest (by omega) (gi_in _ _ _) ?_) (fun r M' q => q)
        change WP _ LAY m_X12_goesOn 31 [(2, vI (gi I 101 ((gi I 74 46) - 1).toNat)), (1, vI ((gi I 74 46) - 1)), (0, vR (some 74))] [vI (b2i ((gi I 101 ((gi I 74 46) - 1).toNat) = 1 ∨ (gi I 101 ((gi I 74 46) - 1).toNat) = 5))] (mem (P, some 5, some 22) I J) Q
        obtain ⟨y4, hy4⟩ : ∃ y : Int, y = (b2i ((gi I 101 ((gi I 74 46) - 1).toNat) = 1 ∨ (gi I 101 ((gi I 74 46) - 1).toNat) = 5)) := ⟨_, rfl⟩
        rw [← hy4]
        replace h := h y4 hy4
        refine st_istore_n (pc' := 32) (L' := [(3, vI y4), (2, vI (gi I 101 ((gi I 74 46) - 1).toNat)), (1, vI ((gi I 74 46) - 1)), (0, vR (some 74))]) dX12_goesOn_31 rfl rfl (by decide) rfl ?_
        refine st_aload_n (pc' := 33) dX12_goesOn_32 rfl rfl (j := 3) rfl ?_
        refine G_X12_139_74 dX12_goesOn_33 (pc' := 36) rfl rfl ?_
        refine st_iload_n (pc' := 37) dX12_goesOn_36 rfl rfl (j := 2) rfl ?_
        refine st_iaload (pc' := 38) (v := (gi I 102 ((gi I 74 46) - 1).toNat)) dX12_goesOn_37 rfl L_102 (by decide) e3 (show gi I 102 ((gi I 74 46) - 1).toNat = (gi I 102 ((gi I 74 46) - 1).toNat) from rfl) ?_
        refine st_iconst (pc' := 39) dX12_goesOn_38 rfl ?_
        refine st_icmp_ge (tg := 188) (pc' := 42) dX12_goesOn_39 (by decide) rfl (gi_in _ _ _) (by decide) (fun c => ?_) (fun c => ?_)
        · replace h := h.1 c
          refine st_iload_n (pc' := 189) dX12_goesOn_188 rfl rfl (j := 0) rfl ?_
          refine st_if_eq (tg := 285) (pc' := 192) dX12_goesOn_189 (by decide) rfl (by rw [hy4]; exact (b2i_in _)) (fun c => ?_) (fun c => ?_)
          · replace h := h.1 c
            refine st_iload_n (pc' := 286) dX12_goesOn_285 rfl rfl (j := 0) rfl ?_
            refine st_if_eq (tg := 400) (pc' := 289) dX12_goesOn_286 (by decide) rfl (by rw [hy4]; exact (b2i_in _)) (fun c => ?_) (fun c => ?_)
            · replace h := h.1 c
              refine WP_sub (L' := [(0, vR (some 74)), (1, vI ((gi I 74 46) - 1)), (2, vI (gi I 101 ((gi I 74 46) - 1).toNat)), (3, vI y4)]) [3, 2, 1, 0] rfl ?_
              exact h
            · replace h := h.2 c
              refine st_aload_n (pc' := 290) dX12_goesOn_289 rfl rfl (j := 3) rfl ?_
              refine st_ldc2 (pc' := 293) (z := 6385252) dX12_goesOn_290 rfl q_X12_351 (by decide) ?_
              refine st_callV (pc' := 296) (kc := k - 1) (E' := LAY) (cal := m_X12_isWord) (n := 1) (as := [vL 6385252]) (S := []) dX12_goesOn_293 rfl l_X12_385 k_X12_isWord rfl L_74 c_X12 rfl rfl (Nat.le_of_ble_eq_true rfl) (by omega) ⟨Nat.le_refl _, Nat.le_refl _, Nat.le_refl _, Nat.le_refl _⟩ (Q1 := fun r M' => WP k LAY m_X12_goesOn 296 [(3, vI y4), (2, vI (gi I 101 ((gi I 74 46) - 1).toNat)), (1, vI ((gi I 74 46) - 1)), (0, vR (some 74))] (r.toList ++ []) M' Q) (S_X12_isWord (by omega) (by decide) ?_) (fun r M' q => q)
              change WP _ LAY m_X12_goesOn 296 [(3, vI y4), (2, vI (gi I 101 ((gi I 74 46) - 1).toNat)), (1, vI ((gi I 74 46) - 1)), (0, vR (some 74))] [vI (b2i (gi I 74 3 = 1 ∧ gl J 74 7 = 6385252))] (mem (P, some 5, some 22) I J) Q
              refine st_if_ne (tg := 309) (pc' := 299) dX12_goesOn_296 (by decide) rfl (b2i_in _) (fun c => ?_) (fun c => ?_)
              · replace h := h.1 (b2i_t.mp c)
                refine WP_sub (L' := [(0, vR (some 74)), (1, vI ((gi I 74 46) - 1))]) [3, 2] rfl ?_
                exact h
              · replace h := h.2 (b2i_f.mp c)
                refine st_aload_n (pc' := 300) dX12_goesOn_299 rfl rfl (j := 3) rfl ?_
                refine st_ldc2 (pc' := 303) (z := 28530) dX12_goesOn_300 rfl q_X12_349 (by decide) ?_
                refine st_callV (pc' := 306) (kc := k - 1) (E' := LAY) (cal := m_X12_isWord) (n := 1) (as := [vL 28530]) (S := []) dX12_goesOn_303 rfl l_X12_385 k_X12_isWord rfl L_74 c_X12 rfl rfl (Nat.le_of_ble_eq_true rfl) (by omega) ⟨Nat.le_refl _, Nat.le_refl _, Nat.le_refl _, Nat.le_refl _⟩ (Q1 := fun r M' => WP k LAY m_X12_goesOn 306 [(3, vI y4), (2, vI (gi I 101 ((gi I 74 46) - 1).toNat)), (1, vI ((gi I 74 46) - 1)), (0, vR (some 74))] (r.toList ++ []) M' Q) (S_X12_isWord (by omega) (by decide) ?_) (fun r M' q => q)
                change WP _ LAY m_X12_goesOn 306 [(3, vI y4), (2, vI (gi I 101 ((gi I 74 46) - 1).toNat)), (1, vI ((gi I 74 46) - 1)), (0, vR (some 74))] [vI (b2i (gi I 74 3 = 1 ∧ gl J 74 7 = 28530))] (mem (P, some 5, some 22) I J) Q
                refine st_if_eq (tg := 400) (pc' := 309) dX12_goesOn_306 (by decide) rfl (b2i_in _) (fun c => ?_) (fun c => ?_)
                · replace h := h.1 (b2i_f.mp c)
                  refine WP_sub (L' := [(0, vR (some 74)), (1, vI ((gi I 74 46) - 1)), (2, vI (gi I 101 ((gi I 74 46) - 1).toNat)), (3, vI y4)]) [3, 2, 1, 0] rfl ?_
                  exact h
                · replace h := h.2 (b2i_t.mp c)
                  refine WP_sub (L' := [(0, vR (some 74)), (1, vI ((gi I 74 46) - 1))]) [3, 2] rfl ?_
                  exact h
          · replace h := h.2 c
            refine st_aload_n (pc' := 193) dX12_goesOn_192 rfl rfl (j := 3) rfl ?_
            refine G_X12_139_74 dX12_goesOn_193 (pc' := 196) rfl rfl ?_
            refine st_iload_n (pc' := 197) dX12_goesOn_196 rfl rfl (j := 2) rfl ?_
            refine st_iaload (pc' := 198) (v := (gi I 102 ((gi I 74 46) - 1).toNat)) dX12_goesOn_197 rfl L_102 (by decide) e3 (show gi I 102 ((gi I 74 46) - 1).toNat = (gi I 102 ((gi I 74 46) - 1).toNat) from rfl) ?_
            refine st_if_ne (tg := 285) (pc' := 201) dX12_goesOn_198 (by decide) rfl (gi_in _ _ _) (fun c => ?_) (fun c => ?_)
            · replace h := h.1 c
              refine st_iload_n (pc' := 286) dX12_goesOn_285 rfl rfl (j := 0) rfl ?_
              refine st_if_eq (tg := 400) (pc' := 289) dX12_goesOn_286 (by decide) rfl (by rw [hy4]; exact (b2i_in _)) (fun c => ?_) (fun c => ?_)
              · replace h := h.1 c
                refine WP_sub (L' := [(0, vR (some 74)), (1, vI ((gi I 74 46) - 1)), (2, vI (gi I 101 ((gi I 74 46) - 1).toNat)), (3, vI y4)]) [3, 2, 1, 0] rfl ?_
                exact h
              · replace h := h.2 c
                refine st_aload_n (pc' := 290) dX12_goesOn_289 rfl rfl (j := 3) rfl ?_
                refine st_ldc2 (pc' := 293) (z := 6385252) dX12_goesOn_290 rfl q_X12_351 (by decide) ?_
                refine st_callV (pc' := 296) (kc := k - 1) (E' := LAY) (cal := m_X12_isWord) (n := 1) (as := [vL 6385252]) (S := []) dX12_goesOn_293 rfl l_X12_385 k_X12_isWord rfl L_74 c_X12 rfl rfl (Nat.le_of_ble_eq_true rfl) (by omega) ⟨Nat.le_refl _, Nat.le_refl _, Nat.le_refl _, Nat.le_refl _⟩ (Q1 := fun r M' => WP k LAY m_X12_goesOn 296 [(3, vI y4), (2, vI (gi I 101 ((gi I 74 46) - 1).toNat)), (1, vI ((gi I 74 46) - 1)), (0, vR (some 74))] (r.toList ++ []) M' Q) (S_X12_isWord (by omega) (by decide) ?_) (fun r M' q => q)
                change WP _ LAY m_X12_goesOn 296 [(3, vI y4), (2, vI (gi I 101 ((gi I 74 46) - 1).toNat)), (1, vI ((gi I 74 46) - 1)), (0, vR (some 74))] [vI (b2i (gi I 74 3 = 1 ∧ gl J 74 7 = 6385252))] (mem (P, some 5, some 22) I J) Q
                refine st_if_ne (tg := 309) (pc' := 299) dX12_goesOn_296 (by decide) rfl (b2i_in _) (fun c => ?_) (fun c => ?_)
                · replace h := h.1 (b2i_t.mp c)
                  refine WP_sub (L' := [(0, vR (some 74)), (1, vI ((gi I 74 46) - 1))]) [3, 2] rfl ?_
                  exact h
                · replace h := h.2 (b2i_f.mp c)
                  refine st_aload_n (pc' := 300) dX12_goesOn_299 rfl rfl (j := 3) rfl ?_
                  refine st_ldc2 (pc' := 303) (z := 28530) dX12_goesOn_300 rfl q_X12_349 (by decide) ?_
                  refine st_callV (pc' := 306) (kc := k - 1) (E' := LAY) (cal := m_X12_isWord) (n := 1) (as := [vL 28530]) (S := []) dX12_goesOn_303 rfl l_X12_385 k_X12_isWord rfl L_74 c_X12 rfl rfl (Nat.le_of_ble_eq_true rfl) (by omega) ⟨Nat.le_refl _, Nat.le_refl _, Nat.le_refl _, Nat.le_refl _⟩ (Q1 := fun r M' => WP k LAY m_X12_goesOn 306 [(3, vI y4), (2, vI (gi I 101 ((gi I 74 46) - 1).toNat)), (1, vI ((gi I 74 46) - 1)), (0, vR (some 74))] (r.toList ++ []) M' Q) (S_X12_isWord (by omega) (by decide) ?_) (fun r M' q => q)
                  change WP _ LAY m_X12_goesOn 306 [(3, vI y4), (2, vI (gi I 101 ((gi I 74 46) - 1).toNat)), (1, vI ((gi I 74 46) - 1)), (0, vR (some 74))] [vI (b2i (gi I 74 3 = 1 ∧ gl J 74 7 = 28530))] (mem (P, some 5, some 22) I J) Q
                  refine st_if_eq (tg := 400) (pc' := 309) dX12_goesOn_306 (by decide) rfl (b2i_in _) (fun c => ?_) (fun c => ?_)
                  · replace h := h.1 (b2i_f.mp c)
                    refine WP_sub (L' := [(0, vR (some 74)), (1, vI ((gi I 74 46) - 1)), (2, vI (gi I 101 ((gi I 74 46) - 1).toNat)), (3, vI y4)]) [3, 2, 1, 0] rfl ?_
                    exact h
                  · replace h := h.2 (b2i_t.mp c)
                    refine WP_sub (L' := [(0, vR (some 74)), (1, vI ((gi I 74 46) - 1))]) [3, 2] rfl ?_
                    exact h
            · replace h := h.2 c
              refine st_aload_n (pc' := 202) dX12_goesOn_201 rfl rfl (j := 3) rfl ?_
              refine st_bipush (pc' := 204) dX12_goesOn_202 rfl (by decide) ?_
              refine st_callV (pc' := 207) (kc := k - 1) (E' := LAY) (cal := m_X12_isSign) (n := 1) (as := [vI 60]) (S := []) dX12_goesOn_204 rfl l_X12_305 k_X12_isSign rfl L_74 c_X12 rfl rfl (Nat.le_of_ble_eq_true rfl) (by omega) ⟨Nat.le_refl _, Nat.le_refl _, Nat.le_refl _, Nat.le_refl _⟩ (Q1 := fun r M' => WP k LAY m_X12_goesOn 207 [(3, vI y4), (2, vI (gi I 101 ((gi I 74 46) - 1).toNat)), (1, vI ((gi I 74 46) - 1)), (0, vR (some 74))] (r.toList ++ []) M' Q) (S_X12_isSign (by omega) (by decide) ?_) (fun r M' q => q)
              change WP _ LAY m_X12_goesOn 207 [(3, vI y4), (2, vI (gi I 101 ((gi I 74 46) - 1).toNat)), (1, vI ((gi I 74 46) - 1)), (0, vR (some 74))] [vI (b2i (gi I 74 3 = 3 ∧ gi I 74 6 = 60))] (mem (P, some 5, some 22) I J) Q
              refine st_if_ne (tg := 228) (pc' := 210) dX12_goesOn_207 (by decide) rfl (b2i_in _) (fun c => ?_) (fun c => ?_)
              · replace h := h.1 (b2i_t.mp c)
                refine WP_sub (L' := [(0, vR (some 74)), (1, vI ((gi I 74 46) - 1))]) [3, 2] rfl ?_
                exact h
              · replace h := h.2 (b2i_f.mp c)
                refine st_aload_n (pc' := 211) dX12_goesOn_210 rfl rfl (j := 3) rfl ?_
                refine st_bipush (pc' := 213) dX12_goesOn_211 rfl (by decide) ?_
                refine st_callV (pc' := 216) (kc := k - 1) (E' := LAY) (cal := m_X12_isSign) (n := 1) (as := [vI 62]) (S := []) dX12_goesOn_213 rfl l_X12_305 k_X12_isSign rfl L_74 c_X12 rfl rfl (Nat.le_of_ble_eq_true rfl) (by omega) ⟨Nat.le_refl _, Nat.le_refl _, Nat.le_refl _, Nat.le_refl _⟩ (Q1 := fun r M' => WP k LAY m_X12_goesOn 216 [(3, vI y4), (2, vI (gi I 101 ((gi I 74 46) - 1).toNat)), (1, vI ((gi I 74 46) - 1)), (0, vR (some 74))] (r.toList ++ []) M' Q) (S_X12_isSign (by omega) (by decide) ?_) (fun r M' q => q)
                change WP _ LAY m_X12_goesOn 216 [(3, vI y4), (2, vI (gi I 101 ((gi I 74 46) - 1).toNat)), (1, vI ((gi I 74 46) - 1)), (0, vR (some 74))] [vI (b2i (gi I 74 3 = 3 ∧ gi I 74 6 = 62))] (mem (P, some 5, some 22) I J) Q
                refine st_if_ne (tg := 228) (pc' := 219) dX12_goesOn_216 (by decide) rfl (b2i_in _) (fun c => ?_) (fun c => ?_)
                · replace h := h.1 (b2i_t.mp c)
                  refine WP_sub (L' := [(0, vR (some 74)), (1, vI ((gi I 74 46) - 1))]) [3, 2] rfl ?_
                  exact h
                · replace h := h.2 (b2i_f.mp c)
                  refine st_aload_n (pc' := 220) dX12_goesOn_219 rfl rfl (j := 3) rfl ?_
                  refine st_bipush (pc' := 222) dX12_goesOn_220 rfl (by decide) ?_
                  refine st_callV (pc' := 225) (kc := k - 1) (E' := LAY) (cal := m_X12_isSign) (n := 1) (as := [vI 61]) (S := []) dX12_goesOn_222 rfl l_X12_305 k_X12_isSign rfl L_74 c_X12 rfl rfl (Nat.le_of_ble_eq_true rfl) (by omega) ⟨Nat.le_refl _, Nat.le_refl _, Nat.le_refl _, Nat.le_refl _⟩ (Q1 := fun r M' => WP k LAY m_X12_goesOn 225 [(3, vI y4), (2, vI (gi I 101 ((gi I 74 46) - 1).toNat)), (1, vI ((gi I 74 46) - 1)), (0, vR (some 74))] (r.toList ++ []) M' Q) (S_X12_isSign (by omega) (by decide) ?_) (fun r M' q => q)
                  change WP _ LAY m_X12_goesOn 225 [(3, vI y4), (2, vI (gi I 101 ((gi I 74 46) - 1).toNat)), (1, vI ((gi I 74 46) - 1)), (0, vR (some 74))] [vI (b2i (gi I 74 3 = 3 ∧ gi I 74 6 = 61))] (mem (P, some 5, some 22) I J) Q
                  refine st_if_eq (tg := 285) (pc' := 228) dX12_goesOn_225 (by decide) rfl (b2i_in _) (fun c => ?_) (fun c => ?_)
                  · replace h := h.1 (b2i_f.mp c)
                    refine st_iload_n (pc' := 286) dX12_goesOn_285 rfl rfl (j := 0) rfl ?_
                    refine st_if_eq (tg := 400) (pc' := 289) dX12_goesOn_286 (by decide) rfl (by rw [hy4]; exact (b2i_in _)) (fun c => ?_) (fun c => ?_)
                    · replace h := h.1 c
                      refine WP_sub (L' := [(0, vR (some 74)), (1, vI ((gi I 74 46) - 1)), (2, vI (gi I 101 ((gi I 74 46) - 1).toNat)), (3, vI y4)]) [3, 2, 1, 0] rfl ?_
                      exact h
                    · replace h := h.2 c
                      refine st_aload_n (pc' := 290) dX12_goesOn_289 rfl rfl (j := 3) rfl ?_
                      refine st_ldc2 (pc' := 293) (z := 6385252) dX12_goesOn_290 rfl q_X12_351 (by decide) ?_
                      refine st_callV (pc' := 296) (kc := k - 1) (E' := LAY) (cal := m_X12_isWord) (n := 1) (as := [vL 6385252]) (S := []) dX12_goesOn_293 rfl l_X12_385 k_X12_isWord rfl L_74 c_X12 rfl rfl (Nat.le_of_ble_eq_true rfl) (by omega) ⟨Nat.le_refl _, Nat.le_refl _, Nat.le_refl _, Nat.le_refl _⟩ (Q1 := fun r M' => WP k LAY m_X12_goesOn 296 [(3, vI y4), (2, vI (gi I 101 ((gi I 74 46) - 1).toNat)), (1, vI ((gi I 74 46) - 1)), (0, vR (some 74))] (r.toList ++ []) M' Q) (S_X12_isWord (by omega) (by decide) ?_) (fun r M' q => q)
                      change WP _ LAY m_X12_goesOn 296 [(3, vI y4), (2, vI (gi I 101 ((gi I 74 46) - 1).toNat)), (1, vI ((gi I 74 46) - 1)), (0, vR (some 74))] [vI (b2i (gi I 74 3 = 1 ∧ gl J 74 7 = 6385252))] (mem (P, some 5, some 22) I J) Q
                      refine st_if_ne (tg := 309) (pc' := 299) dX12_goesOn_296 (by decide) rfl (b2i_in _) (fun c => ?_) (fun c => ?_)
                      · replace h := h.1 (b2i_t.mp c)
                        refine WP_sub (L' := [(0, vR (some 74)), (1, vI ((gi I 74 46) - 1))]) [3, 2] rfl ?_
                        exact h
                      · replace h := h.2 (b2i_f.mp c)
                        refine st_aload_n (pc' := 300) dX12_goesOn_299 rfl rfl (j := 3) rfl ?_
                        refine st_ldc2 (pc' := 303) (z := 28530) dX12_goesOn_300 rfl q_X12_349 (by decide) ?_
                        refine st_callV (pc' := 306) (kc := k - 1) (E' := LAY) (cal := m_X12_isWord) (n := 1) (as := [vL 28530]) (S := []) dX12_goesOn_303 rfl l_X12_385 k_X12_isWord rfl L_74 c_X12 rfl rfl (Nat.le_of_ble_eq_true rfl) (by omega) ⟨Nat.le_refl _, Nat.le_refl _, Nat.le_refl _, Nat.le_refl _⟩ (Q1 := fun r M' => WP k LAY m_X12_goesOn 306 [(3, vI y4), (2, vI (gi I 101 ((gi I 74 46) - 1).toNat)), (1, vI ((gi I 74 46) - 1)), (0, vR (some 74))] (r.toList ++ []) M' Q) (S_X12_isWord (by omega) (by decide) ?_) (fun r M' q => q)
                        change WP _ LAY m_X12_goesOn 306 [(3, vI y4), (2, vI (gi I 101 ((gi I 74 46) - 1).toNat)), (1, vI ((gi I 74 46) - 1)), (0, vR (some 74))] [vI (b2i (gi I 74 3 = 1 ∧ gl J 74 7 = 28530))] (mem (P, some 5, some 22) I J) Q
                        refine st_if_eq (tg := 400) (pc' := 309) dX12_goesOn_306 (by decide) rfl (b2i_in _) (fun c => ?_) (fun c => ?_)
                        · replace h := h.1 (b2i_f.mp c)
                          refine WP_sub (L' := [(0, vR (some 74)), (1, vI ((gi I 74 46) - 1)), (2, vI (gi I 101 ((gi I 74 46) - 1).toNat)), (3, vI y4)]) [3, 2, 1, 0] rfl ?_
                          exact h
                        · replace h := h.2 (b2i_t.mp c)
                          refine WP_sub (L' := [(0, vR (some 74)), (1, vI ((gi I 74 46) - 1))]) [3, 2] rfl ?_
                          exact h
                  · replace h := h.2 (b2i_t.mp c)
                    refine WP_sub (L' := [(0, vR (some 74)), (1, vI ((gi I 74 46) - 1))]) [3, 2] rfl ?_
                    exact h
        · replace h := h.2 c
          refine st_aload_n (pc' := 43) dX12_goesOn_42 rfl rfl (j := 3) rfl ?_
          refine st_bipush (pc' := 45) dX12_goesOn_43 rfl (by decide) ?_
          refine st_callV (pc' := 48) (kc := k - 1) (E' := LAY) (cal := m_X12_isSign) (n := 1) (as := [vI 43]) (S := []) dX12_goesOn_45 rfl l_X12_305 k_X12_isSign rfl L_74 c_X12 rfl rfl (Nat.le_of_ble_eq_true rfl) (by omega) ⟨Nat.le_refl _, Nat.le_refl _, Nat.le_refl _, Nat.le_refl _⟩ (Q1 := fun r M' => WP k LAY m_X12_goesOn 48 [(3, vI y4), (2, vI (gi I 101 ((gi I 74 46) - 1).toNat)), (1, vI ((gi I 74 46) - 1)), (0, vR (some 74))] (r.toList ++ []) M' Q) (S_X12_isSign (by omega) (by decide) ?_) (fun r M' q => q)
          change WP _ LAY m_X12_goesOn 48 [(3, vI y4), (2, vI (gi I 101 ((gi I 74 46) - 1).toNat)), (1, vI ((gi I 74 46) - 1)), (0, vR (some 74))] [vI (b2i (gi I 74 3 = 3 ∧ gi I 74 6 = 43))] (mem (P, some 5, some 22) I J) Q
          refine st_if_ne (tg := 87) (pc' := 51) dX12_goesOn_48 (by decide) rfl (b2i_in _) (fun c => ?_) (fun c => ?_)
          · replace h := h.1 (b2i_t.mp c)
            refine WP_sub (L' := [(0, vR (some 74))]) [3] rfl ?_
            exact h
          · replace h := h.2 (b2i_f.mp c)
            refine st_aload_n (pc' := 52) dX12_goesOn_51 rfl rfl (j := 3) rfl ?_
            refine st_bipush (pc' := 54) dX12_goesOn_52 rfl (by decide) ?_
            refine st_callV (pc' := 57) (kc := k - 1) (E' := LAY) (cal := m_X12_isSign) (n := 1) (as := [vI 45]) (S := []) dX12_goesOn_54 rfl l_X12_305 k_X12_isSign rfl L_74 c_X12 rfl rfl (Nat.le_of_ble_eq_true rfl) (by omega) ⟨Nat.le_refl _, Nat.le_refl _, Nat.le_refl _, Nat.le_refl _⟩ (Q1 := fun r M' => WP k LAY m_X12_goesOn 57 [(3, vI y4), (2, vI (gi I 101 ((gi I 74 46) - 1).toNat)), (1, vI ((gi I 74 46) - 1)), (0, vR (some 74))] (r.toList ++ []) M' Q) (S_X12_isSign (by omega) (by decide) ?_) (fun r M' q => q)
            change WP _ LAY m_X12_goesOn 57 [(3, vI y4), (2, vI (gi I 101 ((gi I 74 46) - 1).toNat)), (1, vI ((gi I 74 46) - 1)), (0, vR (some 74))] [vI (b2i (gi I 74 3 = 3 ∧ gi I 74 6 = 45))] (mem (P, some 5, some 22) I J) Q
            refine st_if_ne (tg := 87) (pc' := 60) dX12_goesOn_57 (by decide) rfl (b2i_in _) (fun c => ?_) (fun c => ?_)
            · replace h := h.1 (b2i_t.mp c)
              refine WP_sub (L' := [(0, vR (some 74))]) [3] rfl ?_
              exact h
            · replace h := h.2 (b2i_f.mp c)
              refine st_aload_n (pc' := 61) dX12_goesOn_60 rfl rfl (j := 3) rfl ?_
              refine st_bipush (pc' := 63) dX12_goesOn_61 rfl (by decide) ?_
              refine st_callV (pc' := 66) (kc := k - 1) (E' := LAY) (cal := m_X12_isSign) (n := 1) (as := [vI 42]) (S := []) dX12_goesOn_63 rfl l_X12_305 k_X12_isSign rfl L_74 c_X12 rfl rfl (Nat.le_of_ble_eq_true rfl) (by omega) ⟨Nat.le_refl _, Nat.le_refl _, Nat.le_refl _, Nat.le_refl _⟩ (Q1 := fun r M' => WP k LAY m_X12_goesOn 66 [(3, vI y4), (2, vI (gi I 101 ((gi I 74 46) - 1).toNat)), (1, vI ((gi I 74 46) - 1)), (0, vR (some 74))] (r.toList ++ []) M' Q) (S_X12_isSign (by omega) (by decide) ?_) (fun r M' q => q)
              change WP _ LAY m_X12_goesOn 66 [(3, vI y4), (2, vI (gi I 101 ((gi I 74 46) - 1).toNat)), (1, vI ((gi I 74 46) - 1)), (0, vR (some 74))] [vI (b2i (gi I 74 3 = 3 ∧ gi I 74 6 = 42))] (mem (P, some 5, some 22) I J) Q
              refine st_if_ne (tg := 87) (pc' := 69) dX12_goesOn_66 (by decide) rfl (b2i_in _) (fun c => ?_) (fun c => ?_)
              · replace h := h.1 (b2i_t.mp c)
                refine WP_sub (L' := [(0, vR (some 74))]) [3] rfl ?_
                exact h
              · replace h := h.2 (b2i_f.mp c)
                refine st_aload_n (pc' := 70) dX12_goesOn_69 rfl rfl (j := 3) rfl ?_
                refine st_bipush (pc' := 72) dX12_goesOn_70 rfl (by decide) ?_
                refine st_callV (pc' := 75) (kc := k - 1) (E' := LAY) (cal := m_X12_isSign) (n := 1) (as := [vI 47]) (S := []) dX12_goesOn_72 rfl l_X12_305 k_X12_isSign rfl L_74 c_X12 rfl rfl (Nat.le_of_ble_eq_true rfl) (by omega) ⟨Nat.le_refl _, Nat.le_refl _, Nat.le_refl _, Nat.le_refl _⟩ (Q1 := fun r M' => WP k LAY m_X12_goesOn 75 [(3, vI y4), (2, vI (gi I 101 ((gi I 74 46) - 1).toNat)), (1, vI ((gi I 74 46) - 1)), (0, vR (some 74))] (r.toList ++ []) M' Q) (S_X12_isSign (by omega) (by decide) ?_) (fun r M' q => q)
                change WP _ LAY m_X12_goesOn 75 [(3, vI y4), (2, vI (gi I 101 ((gi I 74 46) - 1).toNat)), (1, vI ((gi I 74 46) - 1)), (0, vR (some 74))] [vI (b2i (gi I 74 3 = 3 ∧ gi I 74 6 = 47))] (mem (P, some 5, some 22) I J) Q
                refine st_if_ne (tg := 87) (pc' := 78) dX12_goesOn_75 (by decide) rfl (b2i_in _) (fun c => ?_) (fun c => ?_)
                · replace h := h.1 (b2i_t.mp c)
                  refine WP_sub (L' := [(0, vR (some 74))]) [3] rfl ?_
                  exact h
                · replace h := h.2 (b2i_f.mp c)
                  refine st_aload_n (pc' := 79) dX12_goesOn_78 rfl rfl (j := 3) rfl ?_
                  refine st_bipush (pc' := 81) dX12_goesOn_79 rfl (by decide) ?_
                  refine st_callV (pc' := 84) (kc := k - 1) (E' := LAY) (cal := m_X12_isSign) (n := 1) (as := [vI 37]) (S := []) dX12_goesOn_81 rfl l_X12_305 k_X12_isSign rfl L_74 c_X12 rfl rfl (Nat.le_of_ble_eq_true rfl) (by omega) ⟨Nat.le_refl _, Nat.le_refl _, Nat.le_refl _, Nat.le_refl _⟩ (Q1 := fun r M' => WP k LAY m_X12_goesOn 84 [(3, vI y4), (2, vI (gi I 101 ((gi I 74 46) - 1).toNat)), (1, vI ((gi I 74 46) - 1)), (0, vR (some 74))] (r.toList ++ []) M' Q) (S_X12_isSign (by omega) (by decide) ?_) (fun r M' q => q)
                  change WP _ LAY m_X12_goesOn 84 [(3, vI y4), (2, vI (gi I 101 ((gi I 74 46) - 1).toNat)), (1, vI ((gi I 74 46) - 1)), (0, vR (some 74))] [vI (b2i (gi I 74 3 = 3 ∧ gi I 74 6 = 37))] (mem (P, some 5, some 22) I J) Q
                  refine st_if_eq (tg := 188) (pc' := 87) dX12_goesOn_84 (by decide) rfl (b2i_in _) (fun c => ?_) (fun c => ?_)
                  · replace h := h.1 (b2i_f.mp c)
                    refine st_iload_n (pc' := 189) dX12_goesOn_188 rfl rfl (j := 0) rfl ?_
                    refine st_if_eq (tg := 285) (pc' := 192) dX12_goesOn_189 (by decide) rfl (by rw [hy4]; exact (b2i_in _)) (fun c => ?_) (fun c => ?_)
                    · replace h := h.1 c
                      refine st_iload_n (pc' := 286) dX12_goesOn_285 rfl rfl (j := 0) rfl ?_
                      refine st_if_eq (tg := 400) (pc' := 289) dX12_goesOn_286 (by decide) rfl (by rw [hy4]; exact (b2i_in _)) (fun c => ?_) (fun c => ?_)
                      · replace h := h.1 c
                        refine WP_sub (L' := [(0, vR (some 74)), (1, vI ((gi I 74 46) - 1)), (2, vI (gi I 101 ((gi I 74 46) - 1).toNat)), (3, vI y4)]) [3, 2, 1, 0] rfl ?_
                        exact h
                      · replace h := h.2 c
                        refine st_aload_n (pc' := 290) dX12_goesOn_289 rfl rfl (j := 3) rfl ?_
                        refine st_ldc2 (pc' := 293) (z := 6385252) dX12_goesOn_290 rfl q_X12_351 (by decide) ?_
                        refine st_callV (pc' := 296) (kc := k - 1) (E' := LAY) (cal := m_X12_isWord) (n := 1) (as := [vL 6385252]) (S := []) dX12_goesOn_293 rfl l_X12_385 k_X12_isWord rfl L_74 c_X12 rfl rfl (Nat.le_of_ble_eq_true rfl) (by omega) ⟨Nat.le_refl _, Nat.le_refl _, Nat.le_refl _, Nat.le_refl _⟩ (Q1 := fun r M' => WP k LAY m_X12_goesOn 296 [(3, vI y4), (2, vI (gi I 101 ((gi I 74 46) - 1).toNat)), (1, vI ((gi I 74 46) - 1)), (0, vR (some 74))] (r.toList ++ []) M' Q) (S_X12_isWord (by omega) (by decide) ?_) (fun r M' q => q)
                        change WP _ LAY m_X12_goesOn 296 [(3, vI y4), (2, vI (gi I 101 ((gi I 74 46) - 1).toNat)), (1, vI ((gi I 74 46) - 1)), (0, vR (some 74))] [vI (b2i (gi I 74 3 = 1 ∧ gl J 74 7 = 6385252))] (mem (P, some 5, some 22) I J) Q
                        refine st_if_ne (tg := 309) (pc' := 299) dX12_goesOn_296 (by decide) rfl (b2i_in _) (fun c => ?_) (fun c => ?_)
                        · replace h := h.1 (b2i_t.mp c)
                          refine WP_sub (L' := [(0, vR (some 74)), (1, vI ((gi I 74 46) - 1))]) [3, 2] rfl ?_
                          exact h
                        · replace h := h.2 (b2i_f.mp c)
                          refine st_aload_n (pc' := 300) dX12_goesOn_299 rfl rfl (j := 3) rfl ?_
                          refine st_ldc2 (pc' := 303) (z := 28530) dX12_goesOn_300 rfl q_X12_349 (by decide) ?_
                          refine st_callV (pc' := 306) (kc := k - 1) (E' := LAY) (cal := m_X12_isWord) (n := 1) (as := [vL 28530]) (S := []) dX12_goesOn_303 rfl l_X12_385 k_X12_isWord rfl L_74 c_X12 rfl rfl (Nat.le_of_ble_eq_true rfl) (by omega) ⟨Nat.le_refl _, Nat.le_refl _, Nat.le_refl _, Nat.le_refl _⟩ (Q1 := fun r M' => WP k LAY m_X12_goesOn 306 [(3, vI y4), (2, vI (gi I 101 ((gi I 74 46) - 1).toNat)), (1, vI ((gi I 74 46) - 1)), (0, vR (some 74))] (r.toList ++ []) M' Q) (S_X12_isWord (by omega) (by decide) ?_) (fun r M' q => q)
                          change WP _ LAY m_X12_goesOn 306 [(3, vI y4), (2, vI (gi I 101 ((gi I 74 46) - 1).toNat)), (1, vI ((gi I 74 46) - 1)), (0, vR (some 74))] [vI (b2i (gi I 74 3 = 1 ∧ gl J 74 7 = 28530))] (mem (P, some 5, some 22) I J) Q
                          refine st_if_eq (tg := 400) (pc' := 309) dX12_goesOn_306 (by decide) rfl (b2i_in _) (fun c => ?_) (fun c => ?_)
                          · replace h := h.1 (b2i_f.mp c)
                            refine WP_sub (L' := [(0, vR (some 74)), (1, vI ((gi I 74 46) - 1)), (2, vI (gi I 101 ((gi I 74 46) - 1).toNat)), (3, vI y4)]) [3, 2, 1, 0] rfl ?_
                            exact h
                          · replace h := h.2 (b2i_t.mp c)
                            refine WP_sub (L' := [(0, vR (some 74)), (1, vI ((gi I 74 46) - 1))]) [3, 2] rfl ?_
                            exact h
                    · replace h := h.2 c
                      refine st_aload_n (pc' := 193) dX12_goesOn_192 rfl rfl (j := 3) rfl ?_
                      refine G_X12_139_74 dX12_goesOn_193 (pc' := 196) rfl rfl ?_
                      refine st_iload_n (pc' := 197) dX12_goesOn_196 rfl rfl (j := 2) rfl ?_
                      refine st_iaload (pc' := 198) (v := (gi I 102 ((gi I 74 46) - 1).toNat)) dX12_goesOn_197 rfl L_102 (by decide) e3 (show gi I 102 ((gi I 74 46) - 1).toNat = (gi I 102 ((gi I 74 46) - 1).toNat) from rfl) ?_
                      refine st_if_ne (tg := 285) (pc' := 201) dX12_goesOn_198 (by decide) rfl (gi_in _ _ _) (fun c => ?_) (fun c => ?_)
                      · replace h := h.1 c
                        refine st_iload_n (pc' := 286) dX12_goesOn_285 rfl rfl (j := 0) rfl ?_
                        refine st_if_eq (tg := 400) (pc' := 289) dX12_goesOn_286 (by decide) rfl (by rw [hy4]; exact (b2i_in _)) (fun c => ?_) (fun c => ?_)
                        · replace h := h.1 c
                          refine WP_sub (L' := [(0, vR (some 74)), (1, vI ((gi I 74 46) - 1)), (2, vI (gi I 101 ((gi I 74 46) - 1).toNat)), (3, vI y4)]) [3, 2, 1, 0] rfl ?_
                          exact h
                        · replace h := h.2 c
                          refine st_aload_n (pc' := 290) dX12_goesOn_289 rfl rfl (j := 3) rfl ?_
                          refine st_ldc2 (pc' := 293) (z := 6385252) dX12_goesOn_290 rfl q_X12_351 (by decide) ?_
                          refine st_callV (pc' := 296) (kc := k - 1) (E' := LAY) (cal := m_X12_isWord) (n := 1) (as := [vL 6385252]) (S := []) dX12_goesOn_293 rfl l_X12_385 k_X12_isWord rfl L_74 c_X12 rfl rfl (Nat.le_of_ble_eq_true rfl) (by omega) ⟨Nat.le_refl _, Nat.le_refl _, Nat.le_refl _, Nat.le_refl _⟩ (Q1 := fun r M' => WP k LAY m_X12_goesOn 296 [(3, vI y4), (2, vI (gi I 101 ((gi I 74 46) - 1).toNat)), (1, vI ((gi I 74 46) - 1)), (0, vR (some 74))] (r.toList ++ []) M' Q) (S_X12_isWord (by omega) (by decide) ?_) (fun r M' q => q)
                          change WP _ LAY m_X12_goesOn 296 [(3, vI y4), (2, vI (gi I 101 ((gi I 74 46) - 1).toNat)), (1, vI ((gi I 74 46) - 1)), (0, vR (some 74))] [vI (b2i (gi I 74 3 = 1 ∧ gl J 74 7 = 6385252))] (mem (P, some 5, some 22) I J) Q
                          refine st_if_ne (tg := 309) (pc' := 299) dX12_goesOn_296 (by decide) rfl (b2i_in _) (fun c => ?_) (fun c => ?_)
                          · replace h := h.1 (b2i_t.mp c)
                            refine WP_sub (L' := [(0, vR (some 74)), (1, vI ((gi I 74 46) - 1))]) [3, 2] rfl ?_
                            exact h
                          · replace h := h.2 (b2i_f.mp c)
                            refine st_aload_n (pc' := 300) dX12_goesOn_299 rfl rfl (j := 3) rfl ?_
                            refine st_ldc2 (pc' := 303) (z := 28530) dX12_goesOn_300 rfl q_X12_349 (by decide) ?_
                            refine st_callV (pc' := 306) (kc := k - 1) (E' := LAY) (cal := m_X12_isWord) (n := 1) (as := [vL 28530]) (S := []) dX12_goesOn_303 rfl l_X12_385 k_X12_isWord rfl L_74 c_X12 rfl rfl (Nat.le_of_ble_eq_true rfl) (by omega) ⟨Nat.le_refl _, Nat.le_refl _, Nat.le_refl _, Nat.le_refl _⟩ (Q1 := fun r M' => WP k LAY m_X12_goesOn 306 [(3, vI y4), (2, vI (gi I 101 ((gi I 74 46) - 1).toNat)), (1, vI ((gi I 74 46) - 1)), (0, vR (some 74))] (r.toList ++ []) M' Q) (S_X12_isWord (by omega) (by decide) ?_) (fun r M' q => q)
                            change WP _ LAY m_X12_goesOn 306 [(3, vI y4), (2, vI (gi I 101 ((gi I 74 46) - 1).toNat)), (1, vI ((gi I 74 46) - 1)), (0, vR (some 74))] [vI (b2i (gi I 74 3 = 1 ∧ gl J 74 7 = 28530))] (mem (P, some 5, some 22) I J) Q
                            refine st_if_eq (tg := 400) (pc' := 309) dX12_goesOn_306 (by decide) rfl (b2i_in _) (fun c => ?_) (fun c => ?_)
                            · replace h := h.1 (b2i_f.mp c)
                              refine WP_sub (L' := [(0, vR (some 74)), (1, vI ((gi I 74 46) - 1)), (2, vI (gi I 101 ((gi I 74 46) - 1).toNat)), (3, vI y4)]) [3, 2, 1, 0] rfl ?_
                              exact h
                            · replace h := h.2 (b2i_t.mp c)
                              refine WP_sub (L' := [(0, vR (some 74)), (1, vI ((gi I 74 46) - 1))]) [3, 2] rfl ?_
                              exact h
                      · replace h := h.2 c
                        refine st_aload_n (pc' := 202) dX12_goesOn_201 rfl rfl (j := 3) rfl ?_
                        refine st_bipush (pc' := 204) dX12_goesOn_202 rfl (by decide) ?_
                        refine st_callV (pc' := 207) (kc := k - 1) (E' := LAY) (cal := m_X12_isSign) (n := 1) (as := [vI 60]) (S := []) dX12_goesOn_204 rfl l_X12_305 k_X12_isSign rfl L_74 c_X12 rfl rfl (Nat.le_of_ble_eq_true rfl) (by omega) ⟨Nat.le_refl _, Nat.le_refl _, Nat.le_refl _, Nat.le_refl _⟩ (Q1 := fun r M' => WP k LAY m_X12_goesOn 207 [(3, vI y4), (2, vI (gi I 101 ((gi I 74 46) - 1).toNat)), (1, vI ((gi I 74 46) - 1)), (0, vR (some 74))] (r.toList ++ []) M' Q) (S_X12_isSign (by omega) (by decide) ?_) (fun r M' q => q)
                        change WP _ LAY m_X12_goesOn 207 [(3, vI y4), (2, vI (gi I 101 ((gi I 74 46) - 1).toNat)), (1, vI ((gi I 74 46) - 1)), (0, vR (some 74))] [vI (b2i (gi I 74 3 = 3 ∧ gi I 74 6 = 60))] (mem (P, some 5, some 22) I J) Q
                        refine st_if_ne (tg := 228) (pc' := 210) dX12_goesOn_207 (by decide) rfl (b2i_in _) (fun c => ?_) (fun c => ?_)
                        · replace h := h.1 (b2i_t.mp c)
                          refine WP_sub (L' := [(0, vR (some 74)), (1, vI ((gi I 74 46) - 1))]) [3, 2] rfl ?_
                          exact h
                        · replace h := h.2 (b2i_f.mp c)
                          refine st_aload_n (pc' := 211) dX12_goesOn_210 rfl rfl (j := 3) rfl ?_
                          refine st_bipush (pc' := 213) dX12_goesOn_211 rfl (by decide) ?_
                          refine st_callV (pc' := 216) (kc := k - 1) (E' := LAY) (cal := m_X12_isSign) (n := 1) (as := [vI 62]) (S := []) dX12_goesOn_213 rfl l_X12_305 k_X12_isSign rfl L_74 c_X12 rfl rfl (Nat.le_of_ble_eq_true rfl) (by omega) ⟨Nat.le_refl _, Nat.le_refl _, Nat.le_refl _, Nat.le_refl _⟩ (Q1 := fun r M' => WP k LAY m_X12_goesOn 216 [(3, vI y4), (2, vI (gi I 101 ((gi I 74 46) - 1).toNat)), (1, vI ((gi I 74 46) - 1)), (0, vR (some 74))] (r.toList ++ []) M' Q) (S_X12_isSign (by omega) (by decide) ?_) (fun r M' q => q)
                          change WP _ LAY m_X12_goesOn 216 [(3, vI y4), (2, vI (gi I 101 ((gi I 74 46) - 1).toNat)), (1, vI ((gi I 74 46) - 1)), (0, vR (some 74))] [vI (b2i (gi I 74 3 = 3 ∧ gi I 74 6 = 62))] (mem (P, some 5, some 22) I J) Q
                          refine st_if_ne (tg := 228) (pc' := 219) dX12_goesOn_216 (by decide) rfl (b2i_in _) (fun c => ?_) (fun c => ?_)
                          · replace h := h.1 (b2i_t.mp c)
                            refine WP_sub (L' := [(0, vR (some 74)), (1, vI ((gi I 74 46) - 1))]) [3, 2] rfl ?_
                            exact h
                          · replace h := h.2 (b2i_f.mp c)
                            refine st_aload_n (pc' := 220) dX12_goesOn_219 rfl rfl (j := 3) rfl ?_
                            refine st_bipush (pc' := 222) dX12_goesOn_220 rfl (by decide) ?_
                            refine st_callV (pc' := 225) (kc := k - 1) (E' := LAY) (cal := m_X12_isSign) (n := 1) (as := [vI 61]) (S := []) dX12_goesOn_222 rfl l_X12_305 k_X12_isSign rfl L_74 c_X12 rfl rfl (Nat.le_of_ble_eq_true rfl) (by omega) ⟨Nat.le_refl _, Nat.le_refl _, Nat.le_refl _, Nat.le_refl _⟩ (Q1 := fun r M' => WP k LAY m_X12_goesOn 225 [(3, vI y4), (2, vI (gi I 101 ((gi I 74 46) - 1).toNat)), (1, vI ((gi I 74 46) - 1)), (0, vR (some 74))] (r.toList ++ []) M' Q) (S_X12_isSign (by omega) (by decide) ?_) (fun r M' q => q)
                            change WP _ LAY m_X12_goesOn 225 [(3, vI y4), (2, vI (gi I 101 ((gi I 74 46) - 1).toNat)), (1, vI ((gi I 74 46) - 1)), (0, vR (some 74))] [vI (b2i (gi I 74 3 = 3 ∧ gi I 74 6 = 61))] (mem (P, some 5, some 22) I J) Q
                            refine st_if_eq (tg := 285) (pc' := 228) dX12_goesOn_225 (by decide) rfl (b2i_in _) (fun c => ?_) (fun c => ?_)
                            · replace h := h.1 (b2i_f.mp c)
                              refine st_iload_n (pc' := 286) dX12_goesOn_285 rfl rfl (j := 0) rfl ?_
                              refine st_if_eq (tg := 400) (pc' := 289) dX12_goesOn_286 (by decide) rfl (by rw [hy4]; exact (b2i_in _)) (fun c => ?_) (fun c => ?_)
                              · replace h := h.1 c
                                refine WP_sub (L' := [(0, vR (some 74)), (1, vI ((gi I 74 46) - 1)), (2, vI (gi I 101 ((gi I 74 46) - 1).toNat)), (3, vI y4)]) [3, 2, 1, 0] rfl ?_
                                exact h
                              · replace h := h.2 c
                                refine st_aload_n (pc' := 290) dX12_goesOn_289 rfl rfl (j := 3) rfl ?_
                                refine st_ldc2 (pc' := 293) (z := 6385252) dX12_goesOn_290 rfl q_X12_351 (by decide) ?_
                                refine st_callV (pc' := 296) (kc := k - 1) (E' := LAY) (cal := m_X12_isWord) (n := 1) (as := [vL 6385252]) (S := []) dX12_goesOn_293 rfl l_X12_385 k_X12_isWord rfl L_74 c_X12 rfl rfl (Nat.le_of_ble_eq_true rfl) (by omega) ⟨Nat.le_refl _, Nat.le_refl _, Nat.le_refl _, Nat.le_refl _⟩ (Q1 := fun r M' => WP k LAY m_X12_goesOn 296 [(3, vI y4), (2, vI (gi I 101 ((gi I 74 46) - 1).toNat)), (1, vI ((gi I 74 46) - 1)), (0, vR (some 74))] (r.toList ++ []) M' Q) (S_X12_isWord (by omega) (by decide) ?_) (fun r M' q => q)
                                change WP _ LAY m_X12_goesOn 296 [(3, vI y4), (2, vI (gi I 101 ((gi I 74 46) - 1).toNat)), (1, vI ((gi I 74 46) - 1)), (0, vR (some 74))] [vI (b2i (gi I 74 3 = 1 ∧ gl J 74 7 = 6385252))] (mem (P, some 5, some 22) I J) Q
                                refine st_if_ne (tg := 309) (pc' := 299) dX12_goesOn_296 (by decide) rfl (b2i_in _) (fun c => ?_) (fun c => ?_)
                                · replace h := h.1 (b2i_t.mp c)
                                  refine WP_sub (L' := [(0, vR (some 74)), (1, vI ((gi I 74 46) - 1))]) [3, 2] rfl ?_
                                  exact h
                                · replace h := h.2 (b2i_f.mp c)
                                  refine st_aload_n (pc' := 300) dX12_goesOn_299 rfl rfl (j := 3) rfl ?_
                                  refine st_ldc2 (pc' := 303) (z := 28530) dX12_goesOn_300 rfl q_X12_349 (by decide) ?_
                                  refine st_callV (pc' := 306) (kc := k - 1) (E' := LAY) (cal := m_X12_isWord) (n := 1) (as := [vL 28530]) (S := []) dX12_goesOn_303 rfl l_X12_385 k_X12_isWord rfl L_74 c_X12 rfl rfl (Nat.le_of_ble_eq_true rfl) (by omega) ⟨Nat.le_refl _, Nat.le_refl _, Nat.le_refl _, Nat.le_refl _⟩ (Q1 := fun r M' => WP k LAY m_X12_goesOn 306 [(3, vI y4), (2, vI (gi I 101 ((gi I 74 46) - 1).toNat)), (1, vI ((gi I 74 46) - 1)), (0, vR (some 74))] (r.toList ++ []) M' Q) (S_X12_isWord (by omega) (by decide) ?_) (fun r M' q => q)
                                  change WP _ LAY m_X12_goesOn 306 [(3, vI y4), (2, vI (gi I 101 ((gi I 74 46) - 1).toNat)), (1, vI ((gi I 74 46) - 1)), (0, vR (some 74))] [vI (b2i (gi I 74 3 = 1 ∧ gl J 74 7 = 28530))] (mem (P, some 5, some 22) I J) Q
                                  refine st_if_eq (tg := 400) (pc' := 309) dX12_goesOn_306 (by decide) rfl (b2i_in _) (fun c => ?_) (fun c => ?_)
                                  · replace h := h.1 (b2i_f.mp c)
                                    refine WP_sub (L' := [(0, vR (some 74)), (1, vI ((gi I 74 46) - 1)), (2, vI (gi I 101 ((gi I 74 46) - 1).toNat)), (3, vI y4)]) [3, 2, 1, 0] rfl ?_
                                    exact h
                                  · replace h := h.2 (b2i_t.mp c)
                                    refine WP_sub (L' := [(0, vR (some 74)), (1, vI ((gi I 74 46) - 1))]) [3, 2] rfl ?_
                                    exact h
                            · replace h := h.2 (b2i_t.mp c)
                              refine WP_sub (L' := [(0, vR (some 74)), (1, vI ((gi I 74 46) - 1))]) [3, 2] rfl ?_
                              exact h
                  · replace h := h.2 (b2i_t.mp c)
                    refine WP_sub (L' := [(0, vR (some 74))]) [3] rfl ?_
                    exact h
      · replace h := h.2 c
        refine st_iconst (pc' := 12) dX12_goesOn_11 rfl ?_
        exact st_iret (ty := .boolean) dX12_goesOn_12 rfl (by decide) rfl h
set_option maxRecDepth 20000 in
set_option maxHeartbeats 4000000 in
theorem B_X12_goesOn_400 {k : Nat} {P : Option Nat} {I : Nat → Nat → Int32} {J : Nat → Nat → Int64} {x1 : Int} {x2 : Int} {x3 : Int} {Q : Option AV → Mem → Prop} (hk : 1 ≤ k) (h : inR x3 ∧ ((x3 = 0 → (inR x2 ∧ ((2 ≤ x2 → ((¬ x2 = 3 → ((¬ x2 = 5 → (((gi I 74 3 = 3 ∧ gi I 74 6 = 41) → (((gi I 74 8) ≤ 0 → (WPm (k - 1) LAY m_X12_joins [vR (some 74), vI 1] (mem (P, some 5, some 22) I J) (retV (fun I4 J5 => (¬ x2 = 4 → ((¬ x2 = 5 → (WPm (k - 1) LAY m_X12_ahead [vR (some 74)] (mem (P, some 5, some 22) (si (si I4 74 46 ((gi I4 74 46) - 1)) 74 47 ((gi I4 74 47) - 1)) J5) (retV (fun I7 J8 => Q (some (vI 1)) (mem (P, some 5, some 22) I7 J8)) (P, some 5, some 22)))) ∧ (x2 = 5 → ((0 ≤ ((gi (si I4 74 46 ((gi I4 74 46) - 1)) 74 46) - 1) ∧ ((gi (si I4 74 46 ((gi I4 74 46) - 1)) 74 46) - 1) < 20) ∧ (WPm (k - 1) LAY m_X12_ahead [vR (some 74)] (mem (P, some 5, some 22) (si (si (si I4 74 46 ((gi I4 74 46) - 1)) 74 47 ((gi I4 74 47) - 1)) 102 ((gi (si I4 74 46 ((gi I4 74 46) - 1)) 74 46) - 1).toNat 2) J5) (retV (fun I11 J12 => Q (some (vI 1)) (mem (P, some 5, some 22) I11 J12)) (P, some 5, some 22))))))) ∧ (x2 = 4 → ((0 ≤ x1 ∧ x1 < 20) ∧ ((0 ≤ ((1600 * (gi (si (si I4 74 46 ((gi I4 74 46) - 1)) 74 47 ((gi I4 74 47) - 1)) 74 40)) + (gi (si (si I4 74 46 ((gi I4 74 46) - 1)) 74 47 ((gi I4 74 47) - 1)) 74 39)) ∧ ((1600 * (gi (si (si I4 74 46 ((gi I4 74 46) - 1)) 74 47 ((gi I4 74 47) - 1)) 74 40)) + (gi (si (si I4 74 46 ((gi I4 74 46) - 1)) 74 47 ((gi I4 74 47) - 1)) 74 39)) < 3200) ∧ ((¬ x2 = 5 → (WPm (k - 1) LAY m_X12_ahead [vR (some 74)] (mem (P, some 5, some 22) (si (si (si (si (si I4 74 46 ((gi I4 74 46) - 1)) 74 47 ((gi I4 74 47) - 1)) 95 ((1600 * (gi (si (si I4 74 46 ((gi I4 74 46) - 1)) 74 47 ((gi I4 74 47) - 1)) 74 40)) + (gi (si (si I4 74 46 ((gi I4 74 46) - 1)) 74 47 ((gi I4 74 47) - 1)) 74 39)).toNat (gi I4 104 (x1).toNat)) 96 ((1600 * (gi (si (si I4 74 46 ((gi I4 74 46) - 1)) 74 47 ((gi I4 74 47) - 1)) 74 40)) + (gi (si (si I4 74 46 ((gi I4 74 46) - 1)) 74 47 ((gi I4 74 47) - 1)) 74 39)).toNat 0) 74 39 ((gi (si (si I4 74 46 ((gi I4 74 46) - 1)) 74 47 ((gi I4 74 47) - 1)) 74 39) + 1)) J5) (retV (fun I16 J17 => Q (some (vI 1)) (mem (P, some 5, some 22) I16 J17)) (P, some 5, some 22)))) ∧ (x2 = 5 → ((0 ≤ ((gi (si I4 74 46 ((gi I4 74 46) - 1)) 74 46) - 1) ∧ ((gi (si I4 74 46 ((gi I4 74 46) - 1)) 74 46) - 1) < 20) ∧ (WPm (k - 1) LAY m_X12_ahead [vR (some 74)] (mem (P, some 5, some 22) (si (si (si (si (si (si I4 74 46 ((gi I4 74 46) - 1)) 74 47 ((gi I4 74 47) - 1)) 95 ((1600 * (gi (si (si I4 74 46 ((gi I4 74 46) - 1)) 74 47 ((gi I4 74 47) - 1)) 74 40)) + (gi (si (si I4 74 46 ((gi I4 74 46) - 1)) 74 47 ((gi I4 74 47) - 1)) 74 39)).toNat (gi I4 104 (x1).toNat)) 96 ((1600 * (gi (si (si I4 74 46 ((gi I4 74 46) - 1)) 74 47 ((gi I4 74 47) - 1)) 74 40)) + (gi (si (si I4 74 46 ((gi I4 74 46) - 1)) 74 47 ((gi I4 74 47) - 1)) 74 39)).toNat 0) 74 39 ((gi (si (si I4 74 46 ((gi I4 74 46) - 1)) 74 47 ((gi I4 74 47) - 1)) 74 39) + 1)) 102 ((gi (si I4 74 46 ((gi I4 74 46) - 1)) 74 46) - 1).toNat 2) J5) (retV (fun I20 J21 => Q (some (vI 1)) (mem (P, some 5, some 22) I20 J21)) (P, some 5, some 22)))))))))) (P, some 5, some 22)))) ∧ (¬ (gi I 74 8) ≤ 0 → (Q (some (vI 0)) (mem (P, some 5, some 22) I J))))) ∧ (¬ (gi I 74 3 = 3 ∧ gi I 74 6 = 41) → (((gi I 74 8) ≤ 0 → (Q (some (vI 0)) (mem (P, some 5, some 22) (si (si I 74 8 1) 74 9 (gi I 74 4)) J))) ∧ (¬ (gi I 74 8) ≤ 0 → (((gi I 74 8) ≤ 0 → (WPm (k - 1) LAY m_X12_joins [vR (some 74), vI 1] (mem (P, some 5, some 22) I J) (retV (fun I23 J24 => (¬ x2 = 4 → ((¬ x2 = 5 → (WPm (k - 1) LAY m_X12_ahead [vR (some 74)] (mem (P, some 5, some 22) (si (si I23 74 46 ((gi I23 74 46) - 1)) 74 47 ((gi I23 74 47) - 1)) J24) (retV (fun I26 J27 => Q (some (vI 1)) (mem (P, some 5, some 22) I26 J27)) (P, some 5, some 22)))) ∧ (x2 = 5 → ((0 ≤ ((gi (si I23 74 46 ((gi I23 74 46) - 1)) 74 46) - 1) ∧ ((gi (si I23 74 46 ((gi I23 74 46) - 1)) 74 46) - 1) < 20) ∧ (WPm (k - 1) LAY m_X12_ahead [vR (some 74)] (mem (P, some 5, some 22) (si (si (si I23 74 46 ((gi I23 74 46) - 1)) 74 47 ((gi I23 74 47) - 1)) 102 ((gi (si I23 74 46 ((gi I23 74 46) - 1)) 74 46) - 1).toNat 2) J24) (retV (fun I30 J31 => Q (some (vI 1)) (mem (P, some 5, some 22) I30 J31)) (P, some 5, some 22))))))) ∧ (x2 = 4 → ((0 ≤ x1 ∧ x1 < 20) ∧ ((0 ≤ ((1600 * (gi (si (si I23 74 46 ((gi I23 74 46) - 1)) 74 47 ((gi I23 74 47) - 1)) 74 40)) + (gi (si (si I23 74 46 ((gi I23 74 46) - 1)) 74 47 ((gi I23 74 47) - 1)) 74 39)) ∧ ((1600 * (gi (si (si I23 74 46 ((gi I23 74 46) - 1)) 74 47 ((gi I23 74 47) - 1)) 74 40)) + (gi (si (si I23 74 46 ((gi I23 74 46) - 1)) 74 47 ((gi I23 74 47) - 1)) 74 39)) < 3200) ∧ ((¬ x2 = 5 → (WPm (k - 1) LAY m_X12_ahead [vR (some 74)] (mem (P, some 5, some 22) (si (si (si (si (si I23 74 46 ((gi I23 74 46) - 1)) 74 47 ((gi I23 74 47) - 1)) 95 ((1600 * (gi (si (si I23 74 46 ((gi I23 74 46) - 1)) 74 47 ((gi I23 74 47) - 1)) 74 40)) + (gi (si (si I23 74 46 ((gi I23 74 46) - 1)) 74 47 ((gi I23 74 47) - 1)) 74 39)).toNat (gi I23 104 (x1).toNat)) 96 ((1600 * (gi (si (si I23 74 46 ((gi I23 74 46) - 1)) 74 47 ((gi I23 74 47) - 1)) 74 40)) + (gi (si (si I23 74 46 ((gi I23 74 46) - 1)) 74 47 ((gi I23 74 47) - 1)) 74 39)).toNat 0) 74 39 ((gi (si (si I23 74 46 ((gi I23 74 46) - 1)) 74 47 ((gi I23 74 47) - 1)) 74 39) + 1)) J24) (retV (fun I35 J36 => Q (some (vI 1)) (mem (P, some 5, some 22) I35 J36)) (P, some 5, some 22)))) ∧ (x2 = 5 → ((0 ≤ ((gi (si I23 74 46 ((gi I23 74 46) - 1)) 74 46) - 1) ∧ ((gi (si I23 74 46 ((gi I23 74 46) - 1)) 74 46) - 1) < 20) ∧ (WPm (k - 1) LAY m_X12_ahead [vR (some 74)] (mem (P, some 5, some 22) (si (si (si (si (si (si I23 74 46 ((gi I23 74 46) - 1)) 74 47 ((gi I23 74 47) - 1)) 95 ((1600 * (gi (si (si I23 74 46 ((gi I23 74 46) - 1)) 74 47 ((gi I23 74 47) - 1)) 74 40)) + (gi (si (si I23 74 46 ((gi I23 74 46) - 1)) 74 47 ((gi I23 74 47) - 1)) 74 39)).toNat (gi I23 104 (x1).toNat)) 96 ((1600 * (gi (si (si I23 74 46 ((gi I23 74 46) - 1)) 74 47 ((gi I23 74 47) - 1)) 74 40)) + (gi (si (si I23 74 46 ((gi I23 74 46) - 1)) 74 47 ((gi I23 74 47) - 1)) 74 39)).toNat 0) 74 39 ((gi (si (si I23 74 46 ((gi I23 74 46) - 1)) 74 47 ((gi I23 74 47) - 1)) 74 39) + 1)) 102 ((gi (si I23 74 46 ((gi I23 74 46) - 1)) 74 46) - 1).toNat 2) J24) (retV (fun I39 J40 => Q (some (vI 1)) (mem (P, some 5, some 22) I39 J40)) (P, some 5, some 22)))))))))) (P, some 5, some 22)))) ∧ (¬ (gi I 74 8) ≤ 0 → (Q (some (vI 0)) (mem (P, some 5, some 22) I J))))))))) ∧ (x2 = 5 → (((gi I 74 3 = 3 ∧ gi I 74 6 = 93) → (((gi I 74 8) ≤ 0 → (WPm (k - 1) LAY m_X12_joins [vR (some 74), vI 1] (mem (P, some 5, some 22) I J) (retV (fun I42 J43 => (¬ x2 = 4 → ((¬ x2 = 5 → (WPm (k - 1) LAY m_X12_ahead [vR (some 74)] (mem (P, some 5, some 22) (si (si I42 74 46 ((gi I42 74 46) - 1)) 74 47 ((gi I42 74 47) - 1)) J43) (retV (fun I45 J46 => Q (some (vI 1)) (mem (P, some 5, some 22) I45 J46)) (P, some 5, some 22)))) ∧ (x2 = 5 → ((0 ≤ ((gi (si I42 74 46 ((gi I42 74 46) - 1)) 74 46) - 1) ∧ ((gi (si I42 74 46 ((gi I42 74 46) - 1)) 74 46) - 1) < 20) ∧ (WPm (k - 1) LAY m_X12_ahead [vR (some 74)] (mem (P, some 5, some 22) (si (si (si I42 74 46 ((gi I42 74 46) - 1)) 74 47 ((gi I42 74 47) - 1)) 102 ((gi (si I42 74 46 ((gi I42 74 46) - 1)) 74 46) - 1).toNat 2) J43) (retV (fun I49 J50 => Q (some (vI 1)) (mem (P, some 5, some 22) I49 J50)) (P, some 5, some 22))))))) ∧ (x2 = 4 → ((0 ≤ x1 ∧ x1 < 20) ∧ ((0 ≤ ((1600 * (gi (si (si I42 74 46 ((gi I42 74 46) - 1)) 74 47 ((gi I42 74 47) - 1)) 74 40)) + (gi (si (si I42 74 46 ((gi I42 74 46) - 1)) 74 47 ((gi I42 74 47) - 1)) 74 39)) ∧ ((1600 * (gi (si (si I42 74 46 ((gi I42 74 46) - 1)) 74 47 ((gi I42 74 47) - 1)) 74 40)) + (gi (si (si I42 74 46 ((gi I42 74 46) - 1)) 74 47 ((gi I42 74 47) - 1)) 74 39)) < 3200) ∧ ((¬ x2 = 5 → (WPm (k - 1) LAY m_X12_ahead [vR (some 74)] (mem (P, some 5, some 22) (si (si (si (si (si I42 74 46 ((gi I42 74 46) - 1)) 74 47 ((gi I42 74 47) - 1)) 95 ((1600 * (gi (si (si I42 74 46 ((gi I42 74 46) - 1)) 74 47 ((gi I42 74 47) - 1)) 74 40)) + (gi (si (si I42 74 46 ((gi I42 74 46) - 1)) 74 47 ((gi I42 74 47) - 1)) 74 39)).toNat (gi I42 104 (x1).toNat)) 96 ((1600 * (gi (si (si I42 74 46 ((gi I42 74 46) - 1)) 74 47 ((gi I42 74 47) - 1)) 74 40)) + (gi (si (si I42 74 46 ((gi I42 74 46) - 1)) 74 47 ((gi I42 74 47) - 1)) 74 39)).toNat 0) 74 39 ((gi (si (si I42 74 46 ((gi I42 74 46) - 1)) 74 47 ((gi I42 74 47) - 1)) 74 39) + 1)) J43) (retV (fun I54 J55 => Q (some (vI 1)) (mem (P, some 5, some 22) I54 J55)) (P, some 5, some 22)))) ∧ (x2 = 5 → ((0 ≤ ((gi (si I42 74 46 ((gi I42 74 46) - 1)) 74 46) - 1) ∧ ((gi (si I42 74 46 ((gi I42 74 46) - 1)) 74 46) - 1) < 20) ∧ (WPm (k - 1) LAY m_X12_ahead [vR (some 74)] (mem (P, some 5, some 22) (si (si (si (si (si (si I42 74 46 ((gi I42 74 46) - 1)) 74 47 ((gi I42 74 47) - 1)) 95 ((1600 * (gi (si (si I42 74 46 ((gi I42 74 46) - 1)) 74 47 ((gi I42 74 47) - 1)) 74 40)) + (gi (si (si I42 74 46 ((gi I42 74 46) - 1)) 74 47 ((gi I42 74 47) - 1)) 74 39)).toNat (gi I42 104 (x1).toNat)) 96 ((1600 * (gi (si (si I42 74 46 ((gi I42 74 46) - 1)) 74 47 ((gi I42 74 47) - 1)) 74 40)) + (gi (si (si I42 74 46 ((gi I42 74 46) - 1)) 74 47 ((gi I42 74 47) - 1)) 74 39)).toNat 0) 74 39 ((gi (si (si I42 74 46 ((gi I42 74 46) - 1)) 74 47 ((gi I42 74 47) - 1)) 74 39) + 1)) 102 ((gi (si I42 74 46 ((gi I42 74 46) - 1)) 74 46) - 1).toNat 2) J43) (retV (fun I58 J59 => Q (some (vI 1)) (mem (P, some 5, some 22) I58 J59)) (P, some 5, some 22)))))))))) (P, some 5, some 22)))) ∧ (¬ (gi I 74 8) ≤ 0 → (Q (some (vI 0)) (mem (P, some 5, some 22) I J))))) ∧ (¬ (gi I 74 3 = 3 ∧ gi I 74 6 = 93) → (((gi I 74 8) ≤ 0 → (Q (some (vI 0)) (mem (P, some 5, some 22) (si (si I 74 8 1) 74 9 (gi I 74 4)) J))) ∧ (¬ (gi I 74 8) ≤ 0 → (((gi I 74 8) ≤ 0 → (WPm (k - 1) LAY m_X12_joins [vR (some 74), vI 1] (mem (P, some 5, some 22) I J) (retV (fun I61 J62 => (¬ x2 = 4 → ((¬ x2 = 5 → (WPm (k - 1) LAY m_X12_ahead [vR (some 74)] (mem (P, some 5, some 22) (si (si I61 74 46 ((gi I61 74 46) - 1)) 74 47 ((gi I61 74 47) - 1)) J62) (retV (fun I64 J65 => Q (some (vI 1)) (mem (P, some 5, some 22) I64 J65)) (P, some 5, some 22)))) ∧ (x2 = 5 → ((0 ≤ ((gi (si I61 74 46 ((gi I61 74 46) - 1)) 74 46) - 1) ∧ ((gi (si I61 74 46 ((gi I61 74 46) - 1)) 74 46) - 1) < 20) ∧ (WPm (k - 1) LAY m_X12_ahead [vR (some 74)] (mem (P, some 5, some 22) (si (si (si I61 74 46 ((gi I61 74 46) - 1)) 74 47 ((gi I61 74 47) - 1)) 102 ((gi (si I61 74 46 ((gi I61 74 46) - 1)) 74 46) - 1).toNat 2) J62) (retV (fun I68 J69 => Q (some (vI 1)) (mem (P, some 5, some 22) I68 J69)) (P, some 5, some 22))))))) ∧ (x2 = 4 → ((0 ≤ x1 ∧ x1 < 20) ∧ ((0 ≤ ((1600 * (gi (si (si I61 74 46 ((gi I61 74 46) - 1)) 74 47 ((gi I61 74 47) - 1)) 74 40)) + (gi (si (si I61 74 46 ((gi I61 74 46) - 1)) 74 47 ((gi I61 74 47) - 1)) 74 39)) ∧ ((1600 * (gi (si (si I61 74 46 ((gi I61 74 46) - 1)) 74 47 ((gi I61 74 47) - 1)) 74 40)) + (gi (si (si I61 74 46 ((gi I61 74 46) - 1)) 74 47 ((gi I61 74 47) - 1)) 74 39)) < 3200) ∧ ((¬ x2 = 5 → (WPm (k - 1) LAY m_X12_ahead [vR (some 74)] (mem (P, some 5, some 22) (si (si (si (si (si I61 74 46 ((gi I61 74 46) - 1)) 74 47 ((gi I61 74 47) - 1)) 95 ((1600 * (gi (si (si I61 74 46 ((gi I61 74 46) - 1)) 74 47 ((gi I61 74 47) - 1)) 74 40)) + (gi (si (si I61 74 46 ((gi I61 74 46) - 1)) 74 47 ((gi I61 74 47) - 1)) 74 39)).toNat (gi I61 104 (x1).toNat)) 96 ((1600 * (gi (si (si I61 74 46 ((gi I61 74 46) - 1)) 74 47 ((gi I61 74 47) - 1)) 74 40)) + (gi (si (si I61 74 46 ((gi I61 74 46) - 1)) 74 47 ((gi I61 74 47) - 1)) 74 39)).toNat 0) 74 39 ((gi (si (si I61 74 46 ((gi I61 74 46) - 1)) 74 47 ((gi I61 74 47) - 1)) 74 39) + 1)) J62) (retV (fun I73 J74 => Q (some (vI 1)) (mem (P, some 5, some 22) I73 J74)) (P, some 5, some 22)))) ∧ (x2 = 5 → ((0 ≤ ((gi (si I61 74 46 ((gi I61 74 46) - 1)) 74 46) - 1) ∧ ((gi (si I61 74 46 ((gi I61 74 46) - 1)) 74 46) - 1) < 20) ∧ (WPm (k - 1) LAY m_X12_ahead [vR (some 74)] (mem (P, some 5, some 22) (si (si (si (si (si (si I61 74 46 ((gi I61 74 46) - 1)) 74 47 ((gi I61 74 47) - 1)) 95 ((1600 * (gi (si (si I61 74 46 ((gi I61 74 46) - 1)) 74 47 ((gi I61 74 47) - 1)) 74 40)) + (gi (si (si I61 74 46 ((gi I61 74 46) - 1)) 74 47 ((gi I61 74 47) - 1)) 74 39)).toNat (gi I61 104 (x1).toNat)) 96 ((1600 * (gi (si (si I61 74 46 ((gi I61 74 46) - 1)) 74 47 ((gi I61 74 47) - 1)) 74 40)) + (gi (si (si I61 74 46 ((gi I61 74 46) - 1)) 74 47 ((gi I61 74 47) - 1)) 74 39)).toNat 0) 74 39 ((gi (si (si I61 74 46 ((gi I61 74 46) - 1)) 74 47 ((gi I61 74 47) - 1)) 74 39) + 1)) 102 ((gi (si I61 74 46 ((gi I61 74 46) - 1)) 74 46) - 1).toNat 2) J62) (retV (fun I77 J78 => Q (some (vI 1)) (mem (P, some 5, some 22) I77 J78)) (P, some 5, some 22)))))))))) (P, some 5, some 22)))) ∧ (¬ (gi I 74 8) ≤ 0 → (Q (some (vI 0)) (mem (P, some 5, some 22) I J))))))))))) ∧ (x2 = 3 → (((gi I 74 3 = 3 ∧ gi I 74 6 = 44) → (WP k LAY m_X12_goesOn 464 [(0, vR (some 74)), (1, vI x1)] [] (mem (P, some 5, some 22) I J) Q)) ∧ (¬ (gi I 74 3 = 3 ∧ gi I 74 6 = 44) → (((gi I 74 8) ≤ 0 → (WP k LAY m_X12_goesOn 464 [(0, vR (some 74)), (1, vI x1)] [] (mem (P, some 5, some 22) (si (si I 74 8 1) 74 9 (gi I 74 4)) J) Q)) ∧ (¬ (gi I 74 8) ≤ 0 → (WP k LAY m_X12_goesOn 464 [(0, vR (some 74)), (1, vI x1)] [] (mem (P, some 5, some 22) I J) Q)))))))) ∧ (¬ 2 ≤ x2 → ((¬ (gi I 74 8) = 0 → (WP k LAY m_X12_goesOn 439 [] [] (mem (P, some 5, some 22) I J) Q)) ∧ ((gi I 74 8) = 0 → (WPm (k - 1) LAY m_X12_joins [vR (some 74), vI 1] (mem (P, some 5, some 22) I J) (retV (fun I80 J81 => WP k LAY m_X12_goesOn 439 [] [] (mem (P, some 5, some 22) I80 J81) Q) (P, some 5, some 22))))))))) ∧ (¬ x3 = 0 → ((0 ≤ x1 ∧ x1 < 20) ∧ ((¬ (gi I 102 (x1).toNat) = 0 → (inR x2 ∧ ((2 ≤ x2 → ((¬ x2 = 3 → ((¬ x2 = 5 → (((gi I 74 3 = 3 ∧ gi I 74 6 = 41) → (((gi I 74 8) ≤ 0 → (WPm (k - 1) LAY m_X12_joins [vR (some 74), vI 1] (mem (P, some 5, some 22) I J) (retV (fun I85 J86 => (¬ x2 = 4 → ((¬ x2 = 5 → (WPm (k - 1) LAY m_X12_ahead [vR (some 74)] (mem (P, some 5, some 22) (si (si I85 74 46 ((gi I85 74 46) - 1)) 74 47 ((gi I85 74 47) - 1)) J86) (retV (fun I88 J89 => Q (some (vI 1)) (mem (P, some 5, some 22) I88 J89)) (P, some 5, some 22)))) ∧ (x2 = 5 → ((0 ≤ ((gi (si I85 74 46 ((gi I85 74 46) - 1)) 74 46) - 1) ∧ ((gi (si I85 74 46 ((gi I85 74 46) - 1)) 74 46) - 1) < 20) ∧ (WPm (k - 1) LAY m_X12_ahead [vR (some 74)] (mem (P, some 5, some 22) (si (si (si I85 74 46 ((gi I85 74 46) - 1)) 74 47 ((gi I85 74 47) - 1)) 102 ((gi (si I85 74 46 ((gi I85 74 46) - 1)) 74 46) - 1).toNat 2) J86) (retV (fun I92 J93 => Q (some (vI 1)) (mem (P, some 5, some 22) I92 J93)) (P, some 5, some 22))))))) ∧ (x2 = 4 → ((0 ≤ ((1600 * (gi (si (si I85 74 46 ((gi I85 74 46) - 1)) 74 47 ((gi I85 74 47) - 1)) 74 40)) + (gi (si (si I85 74 46 ((gi I85 74 46) - 1)) 74 47 ((gi I85 74 47) - 1)) 74 39)) ∧ ((1600 * (gi (si (si I85 74 46 ((gi I85 74 46) - 1)) 74 47 ((gi I85 74 47) - 1)) 74 40)) + (gi (si (si I85 74 46 ((gi I85 74 46) - 1)) 74 47 ((gi I85 74 47) - 1)) 74 39)) < 3200) ∧ ((¬ x2 = 5 → (WPm (k - 1) LAY m_X12_ahead [vR (some 74)] (mem (P, some 5, some 22) (si (si (si (si (si I85 74 46 ((gi I85 74 46) - 1)) 74 47 ((gi I85 74 47) - 1)) 95 ((1600 * (gi (si (si I85 74 46 ((gi I85 74 46) - 1)) 74 47 ((gi I85 74 47) - 1)) 74 40)) + (gi (si (si I85 74 46 ((gi I85 74 46) - 1)) 74 47 ((gi I85 74 47) - 1)) 74 39)).toNat (gi I85 104 (x1).toNat)) 96 ((1600 * (gi (si (si I85 74 46 ((gi I85 74 46) - 1)) 74 47 ((gi I85 74 47) - 1)) 74 40)) + (gi (si (si I85 74 46 ((gi I85 74 46) - 1)) 74 47 ((gi I85 74 47) - 1)) 74 39)).toNat 0) 74 39 ((gi (si (si I85 74 46 ((gi I85 74 46) - 1)) 74 47 ((gi I85 74 47) - 1)) 74 39) + 1)) J86) (retV (fun I96 J97 => Q (some (vI 1)) (mem (P, some 5, some 22) I96 J97)) (P, some 5, some 22)))) ∧ (x2 = 5 → ((0 ≤ ((gi (si I85 74 46 ((gi I85 74 46) - 1)) 74 46) - 1) ∧ ((gi (si I85 74 46 ((gi I85 74 46) - 1)) 74 46) - 1) < 20) ∧ (WPm (k - 1) LAY m_X12_ahead [vR (some 74)] (mem (P, some 5, some 22) (si (si (si (si (si (si I85 74 46 ((gi I85 74 46) - 1)) 74 47 ((gi I85 74 47) - 1)) 95 ((1600 * (gi (si (si I85 74 46 ((gi I85 74 46) - 1)) 74 47 ((gi I85 74 47) - 1)) 74 40)) + (gi (si (si I85 74 46 ((gi I85 74 46) - 1)) 74 47 ((gi I85 74 47) - 1)) 74 39)).toNat (gi I85 104 (x1).toNat)) 96 ((1600 * (gi (si (si I85 74 46 ((gi I85 74 46) - 1)) 74 47 ((gi I85 74 47) - 1)) 74 40)) + (gi (si (si I85 74 46 ((gi I85 74 46) - 1)) 74 47 ((gi I85 74 47) - 1)) 74 39)).toNat 0) 74 39 ((gi (si (si I85 74 46 ((gi I85 74 46) - 1)) 74 47 ((gi I85 74 47) - 1)) 74 39) + 1)) 102 ((gi (si I85 74 46 ((gi I85 74 46) - 1)) 74 46) - 1).toNat 2) J86) (retV (fun I100 J101 => Q (some (vI 1)) (mem (P, some 5, some 22) I100 J101)) (P, some 5, some 22))))))))) (P, some 5, some 22)))) ∧ (¬ (gi I 74 8) ≤ 0 → (Q (some (vI 0)) (mem (P, some 5, some 22) I J))))) ∧ (¬ (gi I 74 3 = 3 ∧ gi I 74 6 = 41) → (((gi I 74 8) ≤ 0 → (Q (some (vI 0)) (mem (P, some 5, some 22) (si (si I 74 8 1) 74 9 (gi I 74 4)) J))) ∧ (¬ (gi I 74 8) ≤ 0 → (((gi I 74 8) ≤ 0 → (WPm (k - 1) LAY m_X12_joins [vR (some 74), vI 1] (mem (P, some 5, some 22) I J) (retV (fun I103 J104 => (¬ x2 = 4 → ((¬ x2 = 5 → (WPm (k - 1) LAY m_X12_ahead [vR (some 74)] (mem (P, some 5, some 22) (si (si I103 74 46 ((gi I103 74 46) - 1)) 74 47 ((gi I103 74 47) - 1)) J104) (retV (fun I106 J107 => Q (some (vI 1)) (mem (P, some 5, some 22) I106 J107)) (P, some 5, some 22)))) ∧ (x2 = 5 → ((0 ≤ ((gi (si I103 74 46 ((gi I103 74 46) - 1)) 74 46) - 1) ∧ ((gi (si I103 74 46 ((gi I103 74 46) - 1)) 74 46) - 1) < 20) ∧ (WPm (k - 1) LAY m_X12_ahead [vR (some 74)] (mem (P, some 5, some 22) (si (si (si I103 74 46 ((gi I103 74 46) - 1)) 74 47 ((gi I103 74 47) - 1)) 102 ((gi (si I103 74 46 ((gi I103 74 46) - 1)) 74 46) - 1).toNat 2) J104) (retV (fun I110 J111 => Q (some (vI 1)) (mem (P, some 5, some 22) I110 J111)) (P, some 5, some 22))))))) ∧ (x2 = 4 → ((0 ≤ ((1600 * (gi (si (si I103 74 46 ((gi I103 74 46) - 1)) 74 47 ((gi I103 74 47) - 1)) 74 40)) + (gi (si (si I103 74 46 ((gi I103 74 46) - 1)) 74 47 ((gi I103 74 47) - 1)) 74 39)) ∧ ((1600 * (gi (si (si I103 74 46 ((gi I103 74 46) - 1)) 74 47 ((gi I103 74 47) - 1)) 74 40)) + (gi (si (si I103 74 46 ((gi I103 74 46) - 1)) 74 47 ((gi I103 74 47) - 1)) 74 39)) < 3200) ∧ ((¬ x2 = 5 → (WPm (k - 1) LAY m_X12_ahead [vR (some 74)] (mem (P, some 5, some 22) (si (si (si (si (si I103 74 46 ((gi I103 74 46) - 1)) 74 47 ((gi I103 74 47) - 1)) 95 ((1600 * (gi (si (si I103 74 46 ((gi I103 74 46) - 1)) 74 47 ((gi I103 74 47) - 1)) 74 40)) + (gi (si (si I103 74 46 ((gi I103 74 46) - 1)) 74 47 ((gi I103 74 47) - 1)) 74 39)).toNat (gi I103 104 (x1).toNat)) 96 ((1600 * (gi (si (si I103 74 46 ((gi I103 74 46) - 1)) 74 47 ((gi I103 74 47) - 1)) 74 40)) + (gi (si (si I103 74 46 ((gi I103 74 46) - 1)) 74 47 ((gi I103 74 47) - 1)) 74 39)).toNat 0) 74 39 ((gi (si (si I103 74 46 ((gi I103 74 46) - 1)) 74 47 ((gi I103 74 47) - 1)) 74 39) + 1)) J104) (retV (fun I114 J115 => Q (some (vI 1)) (mem (P, some 5, some 22) I114 J115)) (P, some 5, some 22)))) ∧ (x2 = 5 → ((0 ≤ ((gi (si I103 74 46 ((gi I103 74 46) - 1)) 74 46) - 1) ∧ ((gi (si I103 74 46 ((gi I103 74 46) - 1)) 74 46) - 1) < 20) ∧ (WPm (k - 1) LAY m_X12_ahead [vR (some 74)] (mem (P, some 5, some 22) (si (si (si (si (si (si I103 74 46 ((gi I103 74 46) - 1)) 74 47 ((gi I103 74 47) - 1)) 95 ((1600 * (gi (si (si I103 74 46 ((gi I103 74 46) - 1)) 74 47 ((gi I103 74 47) - 1)) 74 40)) + (gi (si (si I103 74 46 ((gi I103 74 46) - 1)) 74 47 ((gi I103 74 47) - 1)) 74 39)).toNat (gi I103 104 (x1).toNat)) 96 ((1600 * (gi (si (si I103 74 46 ((gi I103 74 46) - 1)) 74 47 ((gi I103 74 47) - 1)) 74 40)) + (gi (si (si I103 74 46 ((gi I103 74 46) - 1)) 74 47 ((gi I103 74 47) - 1)) 74 39)).toNat 0) 74 39 ((gi (si (si I103 74 46 ((gi I103 74 46) - 1)) 74 47 ((gi I103 74 47) - 1)) 74 39) + 1)) 102 ((gi (si I103 74 46 ((gi I103 74 46) - 1)) 74 46) - 1).toNat 2) J104) (retV (fun I118 J119 => Q (some (vI 1)) (mem (P, some 5, some 22) I118 J119)) (P, some 5, some 22))))))))) (P, some 5, some 22)))) ∧ (¬ (gi I 74 8) ≤ 0 → (Q (some (vI 0)) (mem (P, some 5, some 22) I J))))))))) ∧ (x2 = 5 → (((gi I 74 3 = 3 ∧ gi I 74 6 = 93) → (((gi I 74 8) ≤ 0 → (WPm (k - 1) LAY m_X12_joins [vR (some 74), vI 1] (mem (P, some 5, some 22) I J) (retV (fun I121 J122 => (¬ x2 = 4 → ((¬ x2 = 5 → (WPm (k - 1) LAY m_X12_ahead [vR (some 74)] (mem (P, some 5, some 22) (si (si I121 74 46 ((gi I121 74 46) - 1)) 74 47 ((gi I121 74 47) - 1)) J122) (retV (fun I124 J125 => Q (some (vI 1)) (mem (P, some 5, some 22) I124 J125)) (P, some 5, some 22)))) ∧ (x2 = 5 → ((0 ≤ ((gi (si I121 74 46 ((gi I121 74 46) - 1)) 74 46) - 1) ∧ ((gi (si I121 74 46 ((gi I121 74 46) - 1)) 74 46) - 1) < 20) ∧ (WPm (k - 1) LAY m_X12_ahead [vR (some 74)] (mem (P, some 5, some 22) (si (si (si I121 74 46 ((gi I121 74 46) - 1)) 74 47 ((gi I121 74 47) - 1)) 102 ((gi (si I121 74 46 ((gi I121 74 46) - 1)) 74 46) - 1).toNat 2) J122) (retV (fun I128 J129 => Q (some (vI 1)) (mem (P, some 5, some 22) I128 J129)) (P, some 5, some 22))))))) ∧ (x2 = 4 → ((0 ≤ ((1600 * (gi (si (si I121 74 46 ((gi I121 74 46) - 1)) 74 47 ((gi I121 74 47) - 1)) 74 40)) + (gi (si (si I121 74 46 ((gi I121 74 46) - 1)) 74 47 ((gi I121 74 47) - 1)) 74 39)) ∧ ((1600 * (gi (si (si I121 74 46 ((gi I121 74 46) - 1)) 74 47 ((gi I121 74 47) - 1)) 74 40)) + (gi (si (si I121 74 46 ((gi I121 74 46) - 1)) 74 47 ((gi I121 74 47) - 1)) 74 39)) < 3200) ∧ ((¬ x2 = 5 → (WPm (k - 1) LAY m_X12_ahead [vR (some 74)] (mem (P, some 5, some 22) (si (si (si (si (si I121 74 46 ((gi I121 74 46) - 1)) 74 47 ((gi I121 74 47) - 1)) 95 ((1600 * (gi (si (si I121 74 46 ((gi I121 74 46) - 1)) 74 47 ((gi I121 74 47) - 1)) 74 40)) + (gi (si (si I121 74 46 ((gi I121 74 46) - 1)) 74 47 ((gi I121 74 47) - 1)) 74 39)).toNat (gi I121 104 (x1).toNat)) 96 ((1600 * (gi (si (si I121 74 46 ((gi I121 74 46) - 1)) 74 47 ((gi I121 74 47) - 1)) 74 40)) + (gi (si (si I121 74 46 ((gi I121 74 46) - 1)) 74 47 ((gi I121 74 47) - 1)) 74 39)).toNat 0) 74 39 ((gi (si (si I121 74 46 ((gi I121 74 46) - 1)) 74 47 ((gi I121 74 47) - 1)) 74 39) + 1)) J122) (retV (fun I132 J133 => Q (some (vI 1)) (mem (P, some 5, some 22) I132 J133)) (P, some 5, some 22)))) ∧ (x2 = 5 → ((0 ≤ ((gi (si I121 74 46 ((gi I121 74 46) - 1)) 74 46) - 1) ∧ ((gi (si I121 74 46 ((gi I121 74 46) - 1)) 74 46) - 1) < 20) ∧ (WPm (k - 1) LAY m_X12_ahead [vR (some 74)] (mem (P, some 5, some 22) (si (si (si (si (si (si I121 74 46 ((gi I121 74 46) - 1)) 74 47 ((gi I121 74 47) - 1)) 95 ((1600 * (gi (si (si I121 74 46 ((gi I121 74 46) - 1)) 74 47 ((gi I121 74 47) - 1)) 74 40)) + (gi (si (si I121 74 46 ((gi I121 74 46) - 1)) 74 47 ((gi I121 74 47) - 1)) 74 39)).toNat (gi I121 104 (x1).toNat)) 96 ((1600 * (gi (si (si I121 74 46 ((gi I121 74 46) - 1)) 74 47 ((gi I121 74 47) - 1)) 74 40)) + (gi (si (si I121 74 46 ((gi I121 74 46) - 1)) 74 47 ((gi I121 74 47) - 1)) 74 39)).toNat 0) 74 39 ((gi (si (si I121 74 46 ((gi I121 74 46) - 1)) 74 47 ((gi I121 74 47) - 1)) 74 39) + 1)) 102 ((gi (si I121 74 46 ((gi I121 74 46) - 1)) 74 46) - 1).toNat 2) J122) (retV (fun I136 J137 => Q (some (vI 1)) (mem (P, some 5, some 22) I136 J137)) (P, some 5, some 22))))))))) (P, some 5, some 22)))) ∧ (¬ (gi I 74 8) ≤ 0 → (Q (some (vI 0)) (mem (P, some 5, some 22) I J))))) ∧ (¬ (gi I 74 3 = 3 ∧ gi I 74 6 = 93) → (((gi I 74 8) ≤ 0 → (Q (some (vI 0)) (mem (P, some 5, some 22) (si (si I 74 8 1) 74 9 (gi I 74 4)) J))) ∧ (¬ (gi I 74 8) ≤ 0 → (((gi I 74 8) ≤ 0 → (WPm (k - 1) LAY m_X12_joins [vR (some 74), vI 1] (mem (P, some 5, some 22) I J) (retV (fun I139 J140 => (¬ x2 = 4 → ((¬ x2 = 5 → (WPm (k - 1) LAY m_X12_ahead [vR (some 74)] (mem (P, some 5, some 22) (si (si I139 74 46 ((gi I139 74 46) - 1)) 74 47 ((gi I139 74 47) - 1)) J140) (retV (fun I142 J143 => Q (some (vI 1)) (mem (P, some 5, some 22) I142 J143)) (P, some 5, some 22)))) ∧ (x2 = 5 → ((0 ≤ ((gi (si I139 74 46 ((gi I139 74 46) - 1)) 74 46) - 1) ∧ ((gi (si I139 74 46 ((gi I139 74 46) - 1)) 74 46) - 1) < 20) ∧ (WPm (k - 1) LAY m_X12_ahead [vR (some 74)] (mem (P, some 5, some 22) (si (si (si I139 74 46 ((gi I139 74 46) - 1)) 74 47 ((gi I139 74 47) - 1)) 102 ((gi (si I139 74 46 ((gi I139 74 46) - 1)) 74 46) - 1).toNat 2) J140) (retV (fun I146 J147 => Q (some (vI 1)) (mem (P, some 5, some 22) I146 J147)) (P, some 5, some 22))))))) ∧ (x2 = 4 → ((0 ≤ ((1600 * (gi (si (si I139 74 46 ((gi I139 74 46) - 1)) 74 47 ((gi I139 74 47) - 1)) 74 40)) + (gi (si (si I139 74 46 ((gi I139 74 46) - 1)) 74 47 ((gi I139 74 47) - 1)) 74 39)) ∧ ((1600 * (gi (si (si I139 74 46 ((gi I139 74 46) - 1)) 74 47 ((gi I139 74 47) - 1)) 74 40)) + (gi (si (si I139 74 46 ((gi I139 74 46) - 1)) 74 47 ((gi I139 74 47) - 1)) 74 39)) < 3200) ∧ ((¬ x2 = 5 → (WPm (k - 1) LAY m_X12_ahead [vR (some 74)] (mem (P, some 5, some 22) (si (si (si (si (si I139 74 46 ((gi I139 74 46) - 1)) 74 47 ((gi I139 74 47) - 1)) 95 ((1600 * (gi (si (si I139 74 46 ((gi I139 74 46) - 1)) 74 47 ((gi I139 74 47) - 1)) 74 40)) + (gi (si (si I139 74 46 ((gi I139 74 46) - 1)) 74 47 ((gi I139 74 47) - 1)) 74 39)).toNat (gi I139 104 (x1).toNat)) 96 ((1600 * (gi (si (si I139 74 46 ((gi I139 74 46) - 1)) 74 47 ((gi I139 74 47) - 1)) 74 40)) + (gi (si (si I139 74 46 ((gi I139 74 46) - 1)) 74 47 ((gi I139 74 47) - 1)) 74 39)).toNat 0) 74 39 ((gi (si (si I139 74 46 ((gi I139 74 46) - 1)) 74 47 ((gi I139 74 47) - 1)) 74 39) + 1)) J140) (retV (fun I150 J151 => Q (some (vI 1)) (mem (P, some 5, some 22) I150 J151)) (P, some 5, some 22)))) ∧ (x2 = 5 → ((0 ≤ ((gi (si I139 74 46 ((gi I139 74 46) - 1)) 74 46) - 1) ∧ ((gi (si I139 74 46 ((gi I139 74 46) - 1)) 74 46) - 1) < 20) ∧ (WPm (k - 1) LAY m_X12_ahead [vR (some 74)] (mem (P, some 5, some 22) (si (si (si (si (si (si I139 74 46 ((gi I139 74 46) - 1)) 74 47 ((gi I139 74 47) - 1)) 95 ((1600 * (gi (si (si I139 74 46 ((gi I139 74 46) - 1)) 74 47 ((gi I139 74 47) - 1)) 74 40)) + (gi (si (si I139 74 46 ((gi I139 74 46) - 1)) 74 47 ((gi I139 74 47) - 1)) 74 39)).toNat (gi I139 104 (x1).toNat)) 96 ((1600 * (gi (si (si I139 74 46 ((gi I139 74 46) - 1)) 74 47 ((gi I139 74 47) - 1)) 74 40)) + (gi (si (si I139 74 46 ((gi I139 74 46) - 1)) 74 47 ((gi I139 74 47) - 1)) 74 39)).toNat 0) 74 39 ((gi (si (si I139 74 46 ((gi I139 74 46) - 1)) 74 47 ((gi I139 74 47) - 1)) 74 39) + 1)) 102 ((gi (si I139 74 46 ((gi I139 74 46) - 1)) 74 46) - 1).toNat 2) J140) (retV (fun I154 J155 => Q (some (vI 1)) (mem (P, some 5, some 22) I154 J155)) (P, some 5, some 22))))))))) (P, some 5, some 22)))) ∧ (¬ (gi I 74 8) ≤ 0 → (Q (some (vI 0)) (mem (P, some 5, some 22) I J))))))))))) ∧ (x2 = 3 → (((gi I 74 3 = 3 ∧ gi I 74 6 = 44) → (WP k LAY m_X12_goesOn 464 [(0, vR (some 74)), (1, vI x1)] [] (mem (P, some 5, some 22) I J) Q)) ∧ (¬ (gi I 74 3 = 3 ∧ gi I 74 6 = 44) → (((gi I 74 8) ≤ 0 → (WP k LAY m_X12_goesOn 464 [(0, vR (some 74)), (1, vI x1)] [] (mem (P, some 5, some 22) (si (si I 74 8 1) 74 9 (gi I 74 4)) J) Q)) ∧ (¬ (gi I 74 8) ≤ 0 → (WP k LAY m_X12_goesOn 464 [(0, vR (some 74)), (1, vI x1)] [] (mem (P, some 5, some 22) I J) Q)))))))) ∧ (¬ 2 ≤ x2 → ((¬ (gi I 74 8) = 0 → (WP k LAY m_X12_goesOn 439 [] [] (mem (P, some 5, some 22) I J) Q)) ∧ ((gi I 74 8) = 0 → (WPm (k - 1) LAY m_X12_joins [vR (some 74), vI 1] (mem (P, some 5, some 22) I J) (retV (fun I157 J158 => WP k LAY m_X12_goesOn 439 [] [] (mem (P, some 5, some 22) I157 J158) Q) (P, some 5, some 22))))))))) ∧ ((gi I 102 (x1).toNat) = 0 → (((gi I 74 8) ≤ 0 → (inR x2 ∧ ((2 ≤ x2 → ((¬ x2 = 3 → ((¬ x2 = 5 → (((gi (si (si I 74 8 1) 74 9 (gi I 74 4)) 74 3 = 3 ∧ gi (si (si I 74 8 1) 74 9 (gi I 74 4)) 74 6 = 41) → (Q (some (vI 0)) (mem (P, some 5, some 22) (si (si I 74 8 1) 74 9 (gi I 74 4)) J))) ∧ (¬ (gi (si (si I 74 8 1) 74 9 (gi I 74 4)) 74 3 = 3 ∧ gi (si (si I 74 8 1) 74 9 (gi I 74 4)) 74 6 = 41) → (((gi (si (si I 74 8 1) 74 9 (gi I 74 4)) 74 8) ≤ 0 → (Q (some (vI 0)) (mem (P, some 5, some 22) (si (si (si (si I 74 8 1) 74 9 (gi I 74 4)) 74 8 1) 74 9 (gi I 74 4)) J))) ∧ (¬ (gi (si (si I 74 8 1) 74 9 (gi I 74 4)) 74 8) ≤ 0 → (Q (some (vI 0)) (mem (P, some 5, some 22) (si (si I 74 8 1) 74 9 (gi I 74 4)) J))))))) ∧ (x2 = 5 → (((gi (si (si I 74 8 1) 74 9 (gi I 74 4)) 74 3 = 3 ∧ gi (si (si I 74 8 1) 74 9 (gi I 74 4)) 74 6 = 93) → (Q (some (vI 0)) (mem (P, some 5, some 22) (si (si I 74 8 1) 74 9 (gi I 74 4)) J))) ∧ (¬ (gi (si (si I 74 8 1) 74 9 (gi I 74 4)) 74 3 = 3 ∧ gi (si (si I 74 8 1) 74 9 (gi I 74 4)) 74 6 = 93) → (((gi (si (si I 74 8 1) 74 9 (gi I 74 4)) 74 8) ≤ 0 → (Q (some (vI 0)) (mem (P, some 5, some 22) (si (si (si (si I 74 8 1) 74 9 (gi I 74 4)) 74 8 1) 74 9 (gi I 74 4)) J))) ∧ (¬ (gi (si (si I 74 8 1) 74 9 (gi I 74 4)) 74 8) ≤ 0 → (Q (some (vI 0)) (mem (P, some 5, some 22) (si (si I 74 8 1) 74 9 (gi I 74 4)) J))))))))) ∧ (x2 = 3 → (((gi (si (si I 74 8 1) 74 9 (gi I 74 4)) 74 3 = 3 ∧ gi (si (si I 74 8 1) 74 9 (gi I 74 4)) 74 6 = 44) → (WP k LAY m_X12_goesOn 464 [(0, vR (some 74)), (1, vI x1)] [] (mem (P, some 5, some 22) (si (si I 74 8 1) 74 9 (gi I 74 4)) J) Q)) ∧ (¬ (gi (si (si I 74 8 1) 74 9 (gi I 74 4)) 74 3 = 3 ∧ gi (si (si I 74 8 1) 74 9 (gi I 74 4)) 74 6 = 44) → (((gi (si (si I 74 8 1) 74 9 (gi I 74 4)) 74 8) ≤ 0 → (WP k LAY m_X12_goesOn 464 [(0, vR (some 74)), (1, vI x1)] [] (mem (P, some 5, some 22) (si (si (si (si I 74 8 1) 74 9 (gi I 74 4)) 74 8 1) 74 9 (gi I 74 4)) J) Q)) ∧ (¬ (gi (si (si I 74 8 1) 74 9 (gi I 74 4)) 74 8) ≤ 0 → (WP k LAY m_X12_goesOn 464 [(0, vR (some 74)), (1, vI x1)] [] (mem (P, some 5, some 22) (si (si I 74 8 1) 74 9 (gi I 74 4)) J) Q)))))))) ∧ (¬ 2 ≤ x2 → (WP k LAY m_X12_goesOn 439 [] [] (mem (P, some 5, some 22) (si (si I 74 8 1) 74 9 (gi I 74 4)) J) Q))))) ∧ (¬ (gi I 74 8) ≤ 0 → (inR x2 ∧ ((2 ≤ x2 → ((¬ x2 = 3 → ((¬ x2 = 5 → (((gi I 74 3 = 3 ∧ gi I 74 6 = 41) → (((gi I 74 8) ≤ 0 → (WPm (k - 1) LAY m_X12_joins [vR (some 74), vI 1] (mem (P, some 5, some 22) I J) (retV (fun I162 J163 => (¬ x2 = 4 → ((¬ x2 = 5 → (WPm (k - 1) LAY m_X12_ahead [vR (some 74)] (mem (P, some 5, some 22) (si (si I162 74 46 ((gi I162 74 46) - 1)) 74 47 ((gi I162 74 47) - 1)) J163) (retV (fun I165 J166 => Q (some (vI 1)) (mem (P, some 5, some 22) I165 J166)) (P, some 5, some 22)))) ∧ (x2 = 5 → ((0 ≤ ((gi (si I162 74 46 ((gi I162 74 46) - 1)) 74 46) - 1) ∧ ((gi (si I162 74 46 ((gi I162 74 46) - 1)) 74 46) - 1) < 20) ∧ (WPm (k - 1) LAY m_X12_ahead [vR (some 74)] (mem (P, some 5, some 22) (si (si (si I162 74 46 ((gi I162 74 46) - 1)) 74 47 ((gi I162 74 47) - 1)) 102 ((gi (si I162 74 46 ((gi I162 74 46) - 1)) 74 46) - 1).toNat 2) J163) (retV (fun I169 J170 => Q (some (vI 1)) (mem (P, some 5, some 22) I169 J170)) (P, some 5, some 22))))))) ∧ (x2 = 4 → ((0 ≤ ((1600 * (gi (si (si I162 74 46 ((gi I162 74 46) - 1)) 74 47 ((gi I162 74 47) - 1)) 74 40)) + (gi (si (si I162 74 46 ((gi I162 74 46) - 1)) 74 47 ((gi I162 74 47) - 1)) 74 39)) ∧ ((1600 * (gi (si (si I162 74 46 ((gi I162 74 46) - 1)) 74 47 ((gi I162 74 47) - 1)) 74 40)) + (gi (si (si I162 74 46 ((gi I162 74 46) - 1)) 74 47 ((gi I162 74 47) - 1)) 74 39)) < 3200) ∧ ((¬ x2 = 5 → (WPm (k - 1) LAY m_X12_ahead [vR (some 74)] (mem (P, some 5, some 22) (si (si (si (si (si I162 74 46 ((gi I162 74 46) - 1)) 74 47 ((gi I162 74 47) - 1)) 95 ((1600 * (gi (si (si I162 74 46 ((gi I162 74 46) - 1)) 74 47 ((gi I162 74 47) - 1)) 74 40)) + (gi (si (si I162 74 46 ((gi I162 74 46) - 1)) 74 47 ((gi I162 74 47) - 1)) 74 39)).toNat (gi I162 104 (x1).toNat)) 96 ((1600 * (gi (si (si I162 74 46 ((gi I162 74 46) - 1)) 74 47 ((gi I162 74 47) - 1)) 74 40)) + (gi (si (si I162 74 46 ((gi I162 74 46) - 1)) 74 47 ((gi I162 74 47) - 1)) 74 39)).toNat 0) 74 39 ((gi (si (si I162 74 46 ((gi I162 74 46) - 1)) 74 47 ((gi I162 74 47) - 1)) 74 39) + 1)) J163) (retV (fun I173 J174 => Q (some (vI 1)) (mem (P, some 5, some 22) I173 J174)) (P, some 5, some 22)))) ∧ (x2 = 5 → ((0 ≤ ((gi (si I162 74 46 ((gi I162 74 46) - 1)) 74 46) - 1) ∧ ((gi (si I162 74 46 ((gi I162 74 46) - 1)) 74 46) - 1) < 20) ∧ (WPm (k - 1) LAY m_X12_ahead [vR (some 74)] (mem (P, some 5, some 22) (si (si (si (si (si (si I162 74 46 ((gi I162 74 46) - 1)) 74 47 ((gi I162 74 47) - 1)) 95 ((1600 * (gi (si (si I162 74 46 ((gi I162 74 46) - 1)) 74 47 ((gi I162 74 47) - 1)) 74 40)) + (gi (si (si I162 74 46 ((gi I162 74 46) - 1)) 74 47 ((gi I162 74 47) - 1)) 74 39)).toNat (gi I162 104 (x1).toNat)) 96 ((1600 * (gi (si (si I162 74 46 ((gi I162 74 46) - 1)) 74 47 ((gi I162 74 47) - 1)) 74 40)) + (gi (si (si I162 74 46 ((gi I162 74 46) - 1)) 74 47 ((gi I162 74 47) - 1)) 74 39)).toNat 0) 74 39 ((gi (si (si I162 74 46 ((gi I162 74 46) - 1)) 74 47 ((gi I162 74 47) - 1)) 74 39) + 1)) 102 ((gi (si I162 74 46 ((gi I162 74 46) - 1)) 74 46) - 1).toNat 2) J163) (retV (fun I177 J178 => Q (some (vI 1)) (mem (P, some 5, some 22) I177 J178)) (P, some 5, some 22))))))))) (P, some 5, some 22)))) ∧ (¬ (gi I 74 8) ≤ 0 → (Q (some (vI 0)) (mem (P, some 5, some 22) I J))))) ∧ (¬ (gi I 74 3 = 3 ∧ gi I 74 6 = 41) → (((gi I 74 8) ≤ 0 → (Q (some (vI 0)) (mem (P, some 5, some 22) (si (si I 74 8 1) 74 9 (gi I 74 4)) J))) ∧ (¬ (gi I 74 8) ≤ 0 → (((gi I 74 8) ≤ 0 → (WPm (k - 1) LAY m_X12_joins [vR (some 74), vI 1] (mem (P, some 5, some 22) I J) (retV (fun I180 J181 => (¬ x2 = 4 → ((¬ x2 = 5 → (WPm (k - 1) LAY m_X12_ahead [vR (some 74)] (mem (P, some 5, some 22) (si (si I180 74 46 ((gi I180 74 46) - 1)) 74 47 ((gi I180 74 47) - 1)) J181) (retV (fun I183 J184 => Q (some (vI 1)) (mem (P, some 5, some 22) I183 J184)) (P, some 5, some 22)))) ∧ (x2 = 5 → ((0 ≤ ((gi (si I180 74 46 ((gi I180 74 46) - 1)) 74 46) - 1) ∧ ((gi (si I180 74 46 ((gi I180 74 46) - 1)) 74 46) - 1) < 20) ∧ (WPm (k - 1) LAY m_X12_ahead [vR (some 74)] (mem (P, some 5, some 22) (si (si (si I180 74 46 ((gi I180 74 46) - 1)) 74 47 ((gi I180 74 47) - 1)) 102 ((gi (si I180 74 46 ((gi I180 74 46) - 1)) 74 46) - 1).toNat 2) J181) (retV (fun I187 J188 => Q (some (vI 1)) (mem (P, some 5, some 22) I187 J188)) (P, some 5, some 22))))))) ∧ (x2 = 4 → ((0 ≤ ((1600 * (gi (si (si I180 74 46 ((gi I180 74 46) - 1)) 74 47 ((gi I180 74 47) - 1)) 74 40)) + (gi (si (si I180 74 46 ((gi I180 74 46) - 1)) 74 47 ((gi I180 74 47) - 1)) 74 39)) ∧ ((1600 * (gi (si (si I180 74 46 ((gi I180 74 46) - 1)) 74 47 ((gi I180 74 47) - 1)) 74 40)) + (gi (si (si I180 74 46 ((gi I180 74 46) - 1)) 74 47 ((gi I180 74 47) - 1)) 74 39)) < 3200) ∧ ((¬ x2 = 5 → (WPm (k - 1) LAY m_X12_ahead [vR (some 74)] (mem (P, some 5, some 22) (si (si (si (si (si I180 74 46 ((gi I180 74 46) - 1)) 74 47 ((gi I180 74 47) - 1)) 95 ((1600 * (gi (si (si I180 74 46 ((gi I180 74 46) - 1)) 74 47 ((gi I180 74 47) - 1)) 74 40)) + (gi (si (si I180 74 46 ((gi I180 74 46) - 1)) 74 47 ((gi I180 74 47) - 1)) 74 39)).toNat (gi I180 104 (x1).toNat)) 96 ((1600 * (gi (si (si I180 74 46 ((gi I180 74 46) - 1)) 74 47 ((gi I180 74 47) - 1)) 74 40)) + (gi (si (si I180 74 46 ((gi I180 74 46) - 1)) 74 47 ((gi I180 74 47) - 1)) 74 39)).toNat 0) 74 39 ((gi (si (si I180 74 46 ((gi I180 74 46) - 1)) 74 47 ((gi I180 74 47) - 1)) 74 39) + 1)) J181) (retV (fun I191 J192 => Q (some (vI 1)) (mem (P, some 5, some 22) I191 J192)) (P, some 5, some 22)))) ∧ (x2 = 5 → ((0 ≤ ((gi (si I180 74 46 ((gi I180 74 46) - 1)) 74 46) - 1) ∧ ((gi (si I180 74 46 ((gi I180 74 46) - 1)) 74 46) - 1) < 20) ∧ (WPm (k - 1) LAY m_X12_ahead [vR (some 74)] (mem (P, some 5, some 22) (si (si (si (si (si (si I180 74 46 ((gi I180 74 46) - 1)) 74 47 ((gi I180 74 47) - 1)) 95 ((1600 * (gi (si (si I180 74 46 ((gi I180 74 46) - 1)) 74 47 ((gi I180 74 47) - 1)) 74 40)) + (gi (si (si I180 74 46 ((gi I180 74 46) - 1)) 74 47 ((gi I180 74 47) - 1)) 74 39)).toNat (gi I180 104 (x1).toNat)) 96 ((1600 * (gi (si (si I180 74 46 ((gi I180 74 46) - 1)) 74 47 ((gi I180 74 47) - 1)) 74 40)) + (gi (si (si I180 74 46 ((gi I180 74 46) - 1)) 74 47 ((gi I180 74 47) - 1)) 74 39)).toNat 0) 74 39 ((gi (si (si I180 74 46 ((gi I180 74 46) - 1)) 74 47 ((gi I180 74 47) - 1)) 74 39) + 1)) 102 ((gi (si I180 74 46 ((gi I180 74 46) - 1)) 74 46) - 1).toNat 2) J181) (retV (fun I195 J196 => Q (some (vI 1)) (mem (P, some 5, some 22) I195 J196)) (P, some 5, some 22))))))))) (P, some 5, some 22)))) ∧ (¬ (gi I 74 8) ≤ 0 → (Q (some (vI 0)) (mem (P, some 5, some 22) I J))))))))) ∧ (x2 = 5 → (((gi I 74 3 = 3 ∧ gi I 74 6 = 93) → (((gi I 74 8) ≤ 0 → (WPm (k - 1) LAY m_X12_joins [vR (some 74), vI 1] (mem (P, some 5, some 22) I J) (retV (fun I198 J199 => (¬ x2 = 4 → ((¬ x2 = 5 → (WPm (k - 1) LAY m_X12_ahead [vR (some 74)] (mem (P, some 5, some 22) (si (si I198 74 46 ((gi I198 74 46) - 1)) 74 47 ((gi I198 74 47) - 1)) J199) (retV (fun I201 J202 => Q (some (vI 1)) (mem (P, some 5, some 22) I201 J202)) (P, some 5, some 22)))) ∧ (x2 = 5 → ((0 ≤ ((gi (si I198 74 46 ((gi I198 74 46) - 1)) 74 46) - 1) ∧ ((gi (si I198 74 46 ((gi I198 74 46) - 1)) 74 46) - 1) < 20) ∧ (WPm (k - 1) LAY m_X12_ahead [vR (some 74)] (mem (P, some 5, some 22) (si (si (si I198 74 46 ((gi I198 74 46) - 1)) 74 47 ((gi I198 74 47) - 1)) 102 ((gi (si I198 74 46 ((gi I198 74 46) - 1)) 74 46) - 1).toNat 2) J199) (retV (fun I205 J206 => Q (some (vI 1)) (mem (P, some 5, some 22) I205 J206)) (P, some 5, some 22))))))) ∧ (x2 = 4 → ((0 ≤ ((1600 * (gi (si (si I198 74 46 ((gi I198 74 46) - 1)) 74 47 ((gi I198 74 47) - 1)) 74 40)) + (gi (si (si I198 74 46 ((gi I198 74 46) - 1)) 74 47 ((gi I198 74 47) - 1)) 74 39)) ∧ ((1600 * (gi (si (si I198 74 46 ((gi I198 74 46) - 1)) 74 47 ((gi I198 74 47) - 1)) 74 40)) + (gi (si (si I198 74 46 ((gi I198 74 46) - 1)) 74 47 ((gi I198 74 47) - 1)) 74 39)) < 3200) ∧ ((¬ x2 = 5 → (WPm (k - 1) LAY m_X12_ahead [vR (some 74)] (mem (P, some 5, some 22) (si (si (si (si (si I198 74 46 ((gi I198 74 46) - 1)) 74 47 ((gi I198 74 47) - 1)) 95 ((1600 * (gi (si (si I198 74 46 ((gi I198 74 46) - 1)) 74 47 ((gi I198 74 47) - 1)) 74 40)) + (gi (si (si I198 74 46 ((gi I198 74 46) - 1)) 74 47 ((gi I198 74 47) - 1)) 74 39)).toNat (gi I198 104 (x1).toNat)) 96 ((1600 * (gi (si (si I198 74 46 ((gi I198 74 46) - 1)) 74 47 ((gi I198 74 47) - 1)) 74 40)) + (gi (si (si I198 74 46 ((gi I198 74 46) - 1)) 74 47 ((gi I198 74 47) - 1)) 74 39)).toNat 0) 74 39 ((gi (si (si I198 74 46 ((gi I198 74 46) - 1)) 74 47 ((gi I198 74 47) - 1)) 74 39) + 1)) J199) (retV (fun I209 J210 => Q (some (vI 1)) (mem (P, some 5, some 22) I209 J210)) (P, some 5, some 22)))) ∧ (x2 = 5 → ((0 ≤ ((gi (si I198 74 46 ((gi I198 74 46) - 1)) 74 46) - 1) ∧ ((gi (si I198 74 46 ((gi I198 74 46) - 1)) 74 46) - 1) < 20) ∧ (WPm (k - 1) LAY m_X12_ahead [vR (some 74)] (mem (P, some 5, some 22) (si (si (si (si (si (si I198 74 46 ((gi I198 74 46) - 1)) 74 47 ((gi I198 74 47) - 1)) 95 ((1600 * (gi (si (si I198 74 46 ((gi I198 74 46) - 1)) 74 47 ((gi I198 74 47) - 1)) 74 40)) + (gi (si (si I198 74 46 ((gi I198 74 46) - 1)) 74 47 ((gi I198 74 47) - 1)) 74 39)).toNat (gi I198 104 (x1).toNat)) 96 ((1600 * (gi (si (si I198 74 46 ((gi I198 74 46) - 1)) 74 47 ((gi I198 74 47) - 1)) 74 40)) + (gi (si (si I198 74 46 ((gi I198 74 46) - 1)) 74 47 ((gi I198 74 47) - 1)) 74 39)).toNat 0) 74 39 ((gi (si (si I198 74 46 ((gi I198 74 46) - 1)) 74 47 ((gi I198 74 47) - 1)) 74 39) + 1)) 102 ((gi (si I198 74 46 ((gi I198 74 46) - 1)) 74 46) - 1).toNat 2) J199) (retV (fun I213 J214 => Q (some (vI 1)) (mem (P, some 5, some 22) I213 J214)) (P, some 5, some 22))))))))) (P, some 5, some 22)))) ∧ (¬ (gi I 74 8) ≤ 0 → (Q (some (vI 0)) (mem (P, some 5, some 22) I J))))) ∧ (¬ (gi I 74 3 = 3 ∧ gi I 74 6 = 93) → (((gi I 74 8) ≤ 0 → (Q (some (vI 0)) (mem (P, some 5, some 22) (si (si I 74 8 1) 74 9 (gi I 74 4)) J))) ∧ (¬ (gi I 74 8) ≤ 0 → (((gi I 74 8) ≤ 0 → (WPm (k - 1) LAY m_X12_joins [vR (some 74), vI 1] (mem (P, some 5, some 22) I J) (retV (fun I216 J217 => (¬ x2 = 4 → ((¬ x2 = 5 → (WPm (k - 1) LAY m_X12_ahead [vR (some 74)] (mem (P, some 5, some 22) (si (si I216 74 46 ((gi I216 74 46) - 1)) 74 47 ((gi I216 74 47) - 1)) J217) (retV (fun I219 J220 => Q (some (vI 1)) (mem (P, some 5, some 22) I219 J220)) (P, some 5, some 22)))) ∧ (x2 = 5 → ((0 ≤ ((gi (si I216 74 46 ((gi I216 74 46) - 1)) 74 46) - 1) ∧ ((gi (si I216 74 46 ((gi I216 74 46) - 1)) 74 46) - 1) < 20) ∧ (WPm (k - 1) LAY m_X12_ahead [vR (some 74)] (mem (P, some 5, some 22) (si (si (si I216 74 46 ((gi I216 74 46) - 1)) 74 47 ((gi I216 74 47) - 1)) 102 ((gi (si I216 74 46 ((gi I216 74 46) - 1)) 74 46) - 1).toNat 2) J217) (retV (fun I223 J224 => Q (some (vI 1)) (mem (P, some 5, some 22) I223 J224)) (P, some 5, some 22))))))) ∧ (x2 = 4 → ((0 ≤ ((1600 * (gi (si (si I216 74 46 ((gi I216 74 46) - 1)) 74 47 ((gi I216 74 47) - 1)) 74 40)) + (gi (si (si I216 74 46 ((gi I216 74 46) - 1)) 74 47 ((gi I216 74 47) - 1)) 74 39)) ∧ ((1600 * (gi (si (si I216 74 46 ((gi I216 74 46) - 1)) 74 47 ((gi I216 74 47) - 1)) 74 40)) + (gi (si (si I216 74 46 ((gi I216 74 46) - 1)) 74 47 ((gi I216 74 47) - 1)) 74 39)) < 3200) ∧ ((¬ x2 = 5 → (WPm (k - 1) LAY m_X12_ahead [vR (some 74)] (mem (P, some 5, some 22) (si (si (si (si (si I216 74 46 ((gi I216 74 46) - 1)) 74 47 ((gi I216 74 47) - 1)) 95 ((1600 * (gi (si (si I216 74 46 ((gi I216 74 46) - 1)) 74 47 ((gi I216 74 47) - 1)) 74 40)) + (gi (si (si I216 74 46 ((gi I216 74 46) - 1)) 74 47 ((gi I216 74 47) - 1)) 74 39)).toNat (gi I216 104 (x1).toNat)) 96 ((1600 * (gi (si (si I216 74 46 ((gi I216 74 46) - 1)) 74 47 ((gi I216 74 47) - 1)) 74 40)) + (gi (si (si I216 74 46 ((gi I216 74 46) - 1)) 74 47 ((gi I216 74 47) - 1)) 74 39)).toNat 0) 74 39 ((gi (si (si I216 74 46 ((gi I216 74 46) - 1)) 74 47 ((gi I216 74 47) - 1)) 74 39) + 1)) J217) (retV (fun I227 J228 => Q (some (vI 1)) (mem (P, some 5, some 22) I227 J228)) (P, some 5, some 22)))) ∧ (x2 = 5 → ((0 ≤ ((gi (si I216 74 46 ((gi I216 74 46) - 1)) 74 46) - 1) ∧ ((gi (si I216 74 46 ((gi I216 74 46) - 1)) 74 46) - 1) < 20) ∧ (WPm (k - 1) LAY m_X12_ahead [vR (some 74)] (mem (P, some 5, some 22) (si (si (si (si (si (si I216 74 46 ((gi I216 74 46) - 1)) 74 47 ((gi I216 74 47) - 1)) 95 ((1600 * (gi (si (si I216 74 46 ((gi I216 74 46) - 1)) 74 47 ((gi I216 74 47) - 1)) 74 40)) + (gi (si (si I216 74 46 ((gi I216 74 46) - 1)) 74 47 ((gi I216 74 47) - 1)) 74 39)).toNat (gi I216 104 (x1).toNat)) 96 ((1600 * (gi (si (si I216 74 46 ((gi I216 74 46) - 1)) 74 47 ((gi I216 74 47) - 1)) 74 40)) + (gi (si (si I216 74 46 ((gi I216 74 46) - 1)) 74 47 ((gi I216 74 47) - 1)) 74 39)).toNat 0) 74 39 ((gi (si (si I216 74 46 ((gi I216 74 46) - 1)) 74 47 ((gi I216 74 47) - 1)) 74 39) + 1)) 102 ((gi (si I216 74 46 ((gi I216 74 46) - 1)) 74 46) - 1).toNat 2) J217) (retV (fun I231 J232 => Q (some (vI 1)) (mem (P, some 5, some 22) I231 J232)) (P, some 5, some 22))))))))) (P, some 5, some 22)))) ∧ (¬ (gi I 74 8) ≤ 0 → (Q (some (vI 0)) (mem (P, some 5, some 22) I J))))))))))) ∧ (x2 = 3 → (((gi I 74 3 = 3 ∧ gi I 74 6 = 44) → (WP k LAY m_X12_goesOn 464 [(0, vR (some 74)), (1, vI x1)] [] (mem (P, some 5, some 22) I J) Q)) ∧ (¬ (gi I 74 3 = 3 ∧ gi I 74 6 = 44) → (((gi I 74 8) ≤ 0 → (WP k LAY m_X12_goesOn 464 [(0, vR (some 74)), (1, vI x1)] [] (mem (P, some 5, some 22) (si (si I 74 8 1) 74 9 (gi I 74 4)) J) Q)) ∧ (¬ (gi I 74 8) ≤ 0 → (WP k LAY m_X12_goesOn 464 [(0, vR (some 74)), (1, vI x1)] [] (mem (P, some 5, some 22) I J) Q)))))))) ∧ (¬ 2 ≤ x2 → ((¬ (gi I 74 8) = 0 → (WP k LAY m_X12_goesOn 439 [] [] (mem (P, some 5, some 22) I J) Q)) ∧ ((gi I 74 8) = 0 → (WPm (k - 1) LAY m_X12_joins [vR (some 74), vI 1] (mem (P, some 5, some 22) I J) (retV (fun I234 J235 => WP k LAY m_X12_goesOn 439 [] [] (mem (P, some 5, some 22) I234 J235) Q) (P, some 5, some 22)))))))))))))))) : WP k LAY m_X12_goesOn 400 [(0, vR (some 74)), (1, vI x1), (2, vI x2), (3, vI x3)] [] (mem (P, some 5, some 22) I J) Q := by
  refine st_iload_n (pc' := 401) dX12_goesOn_400 rfl rfl (j := 3) rfl ?_
  obtain ⟨e1, h⟩ := h
  refine st_if_eq (tg := 422) (pc' := 404) dX12_goesOn_401 (by decide) rfl e1 (fun c => ?_) (fun c => ?_)
  · replace h := h.1 c
    refine st_iload_n (pc' := 423) dX12_goesOn_422 rfl rfl (j := 2) rfl ?_
    refine st_iconst (pc' := 424) dX12_goesOn_423 rfl ?_
    obtain ⟨e2, h⟩ := h
    refine st_icmp_ge (tg := 441) (pc' := 427) dX12_goesOn_424 (by decide) rfl e2 (by decide) (fun c => ?_) (fun c => ?_)
    · replace h := h.1 c
      refine st_iload_n (pc' := 442) dX12_goesOn_441 rfl rfl (j := 2) rfl ?_
      refine st_iconst (pc' := 443) dX12_goesOn_442 rfl ?_
      refine st_icmp_ne (tg := 496) (pc' := 446) dX12_goesOn_443 (by decide) rfl e2 (by decide) (fun c => ?_) (fun c => ?_)
      · replace h := h.1 c
        refine st_aload_n (pc' := 497) dX12_goesOn_496 rfl rfl (j := 0) rfl ?_
        refine st_iload_n (pc' := 498) dX12_goesOn_497 rfl rfl (j := 2) rfl ?_
        refine st_iconst (pc' := 499) dX12_goesOn_498 rfl ?_
        refine st_icmp_ne (tg := 507) (pc' := 502) dX12_goesOn_499 (by decide) rfl e2 (by decide) (fun c => ?_) (fun c => ?_)
        · replace h := h.1 c
          refine st_bipush (pc' := 509) dX12_goesOn_507 rfl (by decide) ?_
          refine st_callV (pc' := 512) (kc := k - 1) (E' := LAY) (cal := m_X12_isSign) (n := 1) (as := [vI 41]) (S := []) dX12_goesOn_509 rfl l_X12_305 k_X12_isSign rfl L_74 c_X12 rfl rfl (Nat.le_of_ble_eq_true rfl) (by omega) ⟨Nat.le_refl _, Nat.le_refl _, Nat.le_refl _, Nat.le_refl _⟩ (Q1 := fun r M' => WP k LAY m_X12_goesOn 512 [(0, vR (some 74)), (1, vI x1), (2, vI x2), (3, vI x3)] (r.toList ++ []) M' Q) (S_X12_isSign (by omega) (by decide) ?_) (fun r M' q => q)
          change WP _ LAY m_X12_goesOn 512 [(0, vR (some 74)), (1, vI x1), (2, vI x2), (3, vI x3)] [vI (b2i (gi I 74 3 = 3 ∧ gi I 74 6 = 41))] (mem (P, some 5, some 22) I J) Q
          refine st_if_ne (tg := 524) (pc' := 515) dX12_goesOn_512 (by decide) rfl (b2i_in _) (fun c => ?_) (fun c => ?_)
          · replace h := h.1 (b2i_t.mp c)
            refine st_aload_n (pc' := 525) dX12_goesOn_524 rfl rfl (j := 0) rfl ?_
            refine G_X12_36_74 dX12_goesOn_525 (pc' := 528) rfl rfl ?_
            refine st_if_le (tg := 533) (pc' := 531) dX12_goesOn_528 (by decide) rfl (gi_in _ _ _) (fun c => ?_) (fun c => ?_)
            · replace h := h.1 c
              refine st_aload_n (pc' := 534) dX12_goesOn_533 rfl rfl (j := 0) rfl ?_
              refine st_iconst (pc' := 535) dX12_goesOn_534 rfl ?_
              refine st_callV (pc' := 538) (kc := k - 1) (E' := LAY) (cal := m_X12_joins) (n := 1) (as := [vI 1]) (S := []) dX12_goesOn_535 rfl l_X12_394 k_X12_joins rfl L_74 c_X12 rfl rfl (Nat.le_of_ble_eq_true rfl) (by omega) ⟨Nat.le_refl _, Nat.le_refl _, Nat.le_refl _, Nat.le_refl _⟩ h (fun r M' q => ?_)
              obtain ⟨I4, J5, rfl, rfl, h⟩ := q
              change WP _ LAY m_X12_goesOn 538 [(0, vR (some 74)), (1, vI x1), (2, vI x2), (3, vI x3)] [] (mem (P, some 5, some 22) I4 J5) Q
              refine st_aload_n (pc' := 539) dX12_goesOn_538 rfl rfl (j := 0) rfl ?_
              refine st_dup (pc' := 540) dX12_goesOn_539 rfl rfl ?_
              refine G_X12_152_74 dX12_goesOn_540 (pc' := 543) rfl rfl ?_
              refine st_iconst (pc' := 544) dX12_goesOn_543 rfl ?_
              refine st_isub (pc' := 545) dX12_goesOn_544 rfl ?_
              refine P_X12_152_74 dX12_goesOn_545 (pc' := 548) rfl rfl ?_
              refine st_aload_n (pc' := 549) dX12_goesOn_548 rfl rfl (j := 0) rfl ?_
              refine st_dup (pc' := 550) dX12_goesOn_549 rfl rfl ?_
              refine G_X12_155_74 dX12_goesOn_550 (pc' := 553) rfl rfl ?_
              rw [show gi (si I4 74 46 ((gi I4 74 46) - 1)) 74 47 = (gi I4 74 47) from (gi_idx _ _ _ (by decide))]
              refine st_iconst (pc' := 554) dX12_goesOn_553 rfl ?_
              refine st_isub (pc' := 555) dX12_goesOn_554 rfl ?_
              refine P_X12_155_74 dX12_goesOn_555 (pc' := 558) rfl rfl ?_
              refine st_iload_n (pc' := 559) dX12_goesOn_558 rfl rfl (j := 2) rfl ?_
              refine st_iconst (pc' := 560) dX12_goesOn_559 rfl ?_
              refine st_icmp_ne (tg := 574) (pc' := 563) dX12_goesOn_560 (by decide) rfl e2 (by decide) (fun c => ?_) (fun c => ?_)
              · replace h := h.1 c
                refine st_iload_n (pc' := 575) dX12_goesOn_574 rfl rfl (j := 2) rfl ?_
                refine st_iconst (pc' := 576) dX12_goesOn_575 rfl ?_
                refine st_icmp_ne (tg := 591) (pc' := 579) dX12_goesOn_576 (by decide) rfl e2 (by decide) (fun c => ?_) (fun c => ?_)
                · replace h := h.1 c
                  refine st_aload_n (pc' := 592) dX12_goesOn_591 rfl rfl (j := 0) rfl ?_
                  refine st_callV (pc' := 595) (kc := k - 1) (E' := LAY) (cal := m_X12_ahead) (n := 0) (as := []) (S := []) dX12_goesOn_592 rfl l_X12_308 k_X12_ahead rfl L_74 c_X12 rfl rfl (Nat.le_of_ble_eq_true rfl) (by omega) ⟨Nat.le_refl _, Nat.le_refl _, Nat.le_refl _, Nat.le_refl _⟩ h (fun r M' q => ?_)
                  obtain ⟨I7, J8, rfl, rfl, h⟩ := q
                  change WP _ LAY m_X12_goesOn 595 [(0, vR (some 74)), (1, vI x1), (2, vI x2), (3, vI x3)] [] (mem (P, some 5, some 22) I7 J8) Q
                  refine st_iconst (pc' := 596) dX12_goesOn_595 rfl ?_
                  exact st_iret (ty := .boolean) dX12_goesOn_596 rfl (by decide) rfl h
                · replace h := h.2 c
                  refine st_aload_n (pc' := 580) dX12_goesOn_579 rfl rfl (j := 0) rfl ?_
                  refine G_X12_139_74 dX12_goesOn_580 (pc' := 583) rfl rfl ?_
                  refine st_aload_n (pc' := 584) dX12_goesOn_583 rfl rfl (j := 0) rfl ?_
                  refine G_X12_152_74 dX12_goesOn_584 (pc' := 587) rfl rfl ?_
                  rw [show gi (si (si I4 74 46 ((gi I4 74 46) - 1)) 74 47 ((gi I4 74 47) - 1)) 74 46 = (gi (si I4 74 46 ((gi I4 74 46) - 1)) 74 46) from (gi_idx _ _ _ (by decide))]
                  refine st_iconst (pc' := 588) dX12_goesOn_587 rfl ?_
                  refine st_isub (pc' := 589) dX12_goesOn_588 rfl ?_
                  refine st_iconst (pc' := 590) dX12_goesOn_589 rfl ?_
                  obtain ⟨e9, h⟩ := h
                  refine st_iastore (pc' := 591) (M' := (mem (P, some 5, some 22) (si (si (si I4 74 46 ((gi I4 74 46) - 1)) 74 47 ((gi I4 74 47) - 1)) 102 ((gi (si I4 74 46 ((gi I4 74 46) - 1)) 74 46) - 1).toNat 2) J5)) dX12_goesOn_590 rfl L_102 (by decide) e9 rfl ?_
                  refine st_aload_n (pc' := 592) dX12_goesOn_591 rfl rfl (j := 0) rfl ?_
                  refine st_callV (pc' := 595) (kc := k - 1) (E' := LAY) (cal := m_X12_ahead) (n := 0) (as := []) (S := []) dX12_goesOn_592 rfl l_X12_308 k_X12_ahead rfl L_74 c_X12 rfl rfl (Nat.le_of_ble_eq_true rfl) (by omega) ⟨Nat.le_refl _, Nat.le_refl _, Nat.le_refl _, Nat.le_refl _⟩ h (fun r M' q => ?_)
                  obtain ⟨I11, J12, rfl, rfl, h⟩ := q
                  change WP _ LAY m_X12_goesOn 595 [(0, vR (some 74)), (1, vI x1), (2, vI x2), (3, vI x3)] [] (mem (P, some 5, some 22) I11 J12) Q
                  refine st_iconst (pc' := 596) dX12_goesOn_595 rfl ?_
                  exact st_iret (ty := .boolean) dX12_goesOn_596 rfl (by decide) rfl h
              · replace h := h.2 c
                refine st_aload_n (pc' := 564) dX12_goesOn_563 rfl rfl (j := 0) rfl ?_
                refine st_aload_n (pc' := 565) dX12_goesOn_564 rfl rfl (j := 0) rfl ?_
                refine G_X12_146_74 dX12_goesOn_565 (pc' := 568) rfl rfl ?_
                refine st_iload_n (pc' := 569) dX12_goesOn_568 rfl rfl (j := 1) rfl ?_
                obtain ⟨e13, h⟩ := h
                refine st_iaload (pc' := 570) (v := (gi I4 104 (x1).toNat)) dX12_goesOn_569 rfl L_104 (by decide) e13 (show gi (si (si I4 74 46 ((gi I4 74 46) - 1)) 74 47 ((gi I4 74 47) - 1)) 104 (x1).toNat = (gi I4 104 (x1).toNat) from ((gi_cell _ _ _ _ (by decide)).trans (gi_cell _ _ _ _ (by decide)))) ?_
                refine st_iconst (pc' := 571) dX12_goesOn_570 rfl ?_
                refine st_callV (pc' := 574) (kc := k - 1) (E' := LAY) (cal := m_X12_add) (n := 2) (as := [vI (gi I4 104 (x1).toNat), vI 0]) (S := []) dX12_goesOn_571 rfl l_X12_376 k_X12_add rfl L_74 c_X12 rfl rfl (Nat.le_of_ble_eq_true rfl) (by omega) ⟨Nat.le_refl _, Nat.le_refl _, Nat.le_refl _, Nat.le_refl _⟩ (Q1 := fun r M' => WP k LAY m_X12_goesOn 574 [(0, vR (some 74)), (1, vI x1), (2, vI x2), (3, vI x3)] (r.toList ++ []) M' Q) (WPm.of k_X12_add.1 (Nat.le_of_ble_eq_true rfl) (B_X12_add_0 (by omega) ?_)) (fun r M' q => q)
                obtain ⟨e14, h⟩ := h
                refine ⟨e14, ?_⟩
                change WP _ LAY m_X12_goesOn 574 [(0, vR (some 74)), (1, vI x1), (2, vI x2), (3, vI x3)] [] (mem (P, some 5, some 22) (si (si (si (si (si I4 74 46 ((gi I4 74 46) - 1)) 74 47 ((gi I4 74 47) - 1)) 95 ((1600 * (gi (si (si I4 74 46 ((gi I4 74 46) - 1)) 74 47 ((gi I4 74 47) - 1)) 74 40)) + (gi (si (si I4 74 46 ((gi I4 74 46) - 1)) 74 47 ((gi I4 74 47) - 1)) 74 39)).toNat (gi I4 104 (x1).toNat)) 96 ((1600 * (gi (si (si I4 74 46 ((gi I4 74 46) - 1)) 74 47 ((gi I4 74 47) - 1)) 74 40)) + (gi (si (si I4 74 46 ((gi I4 74 46) - 1)) 74 47 ((gi I4 74 47) - 1)) 74 39)).toNat 0) 74 39 ((gi (si (si I4 74 46 ((gi I4 74 46) - 1)) 74 47 ((gi I4 74 47) - 1)) 74 39) + 1)) J5) Q
                refine st_iload_n (pc' := 575) dX12_goesOn_574 rfl rfl (j := 2) rfl ?_
                refine st_iconst (pc' := 576) dX12_goesOn_575 rfl ?_
                refine st_icmp_ne (tg := 591) (pc' := 579) dX12_goesOn_576 (by decide) rfl e2 (by decide) (fun c => ?_) (fun c => ?_)
                · replace h := h.1 c
                  refine st_aload_n (pc' := 592) dX12_goesOn_591 rfl rfl (j := 0) rfl ?_
                  refine st_callV (pc' := 595) (kc := k - 1) (E' := LAY) (cal := m_X12_ahead) (n := 0) (as := []) (S := []) dX12_goesOn_592 rfl l_X12_308 k_X12_ahead rfl L_74 c_X12 rfl rfl (Nat.le_of_ble_eq_true rfl) (by omega) ⟨Nat.le_refl _, Nat.le_refl _, Nat.le_refl _, Nat.le_refl _⟩ h (fun r M' q => ?_)
                  obtain ⟨I16, J17, rfl, rfl, h⟩ := q
                  change WP _ LAY m_X12_goesOn 595 [(0, vR (some 74)), (1, vI x1), (2, vI x2), (3, vI x3)] [] (mem (P, some 5, some 22) I16 J17) Q
                  refine st_iconst (pc' := 596) dX12_goesOn_595 rfl ?_
                  exact st_iret (ty := .boolean) dX12_goesOn_596 rfl (by decide) rfl h
                · replace h := h.2 c
                  refine st_aload_n (pc' := 580) dX12_goesOn_579 rfl rfl (j := 0) rfl ?_
                  refine G_X12_139_74 dX12_goesOn_580 (pc' := 583) rfl rfl ?_
                  refine st_aload_n (pc' := 584) dX12_goesOn_583 rfl rfl (j := 0) rfl ?_
                  refine G_X12_152_74 dX12_goesOn_584 (pc' := 587) rfl rfl ?_
                  rw [show gi (si (si (si (si (si I4 74 46 ((gi I4 74 46) - 1)) 74 47 ((gi I4 74 47) - 1)) 95 ((1600 * (gi (si (si I4 74 46 ((gi I4 74 46) - 1)) 74 47 ((gi I4 74 47) - 1)) 74 40)) + (gi (si (si I4 74 46 ((gi I4 74 46) - 1)) 74 47 ((gi I4 74 47) - 1)) 74 39)).toNat (gi I4 104 (x1).toNat)) 96 ((1600 * (gi (si (si I4 74 46 ((gi I4 74 46) - 1)) 74 47 ((gi I4 74 47) - 1)) 74 40)) + (gi (si (si I4 74 46 ((gi I4 74 46) - 1)) 74 47 ((gi I4 74 47) - 1)) 74 39)).toNat 0) 74 39 ((gi (si (si I4 74 46 ((gi I4 74 46) - 1)) 74 47 ((gi I4 74 47) - 1)) 74 39) + 1)) 74 46 = (gi (si I4 74 46 ((gi I4 74 46) - 1)) 74 46) from ((gi_idx _ _ _ (by decide)).trans ((gi_cell _ _ _ _ (by decide)).trans ((gi_cell _ _ _ _ (by decide)).trans (gi_idx _ _ _ (by decide)))))]
                  refine st_iconst (pc' := 588) dX12_goesOn_587 rfl ?_
                  refine st_isub (pc' := 589) dX12_goesOn_588 rfl ?_
                  refine st_iconst (pc' := 590) dX12_goesOn_589 rfl ?_
                  obtain ⟨e18, h⟩ := h
                  refine st_iastore (pc' := 591) (M' := (mem (P, some 5, some 22) (si (si (si (si (si (si I4 74 46 ((gi I4 74 46) - 1)) 74 47 ((gi I4 74 47) - 1)) 95 ((1600 * (gi (si (si I4 74 46 ((gi I4 74 46) - 1)) 74 47 ((gi I4 74 47) - 1)) 74 40)) + (gi (si (si I4 74 46 ((gi I4 74 46) - 1)) 74 47 ((gi I4 74 47) - 1)) 74 39)).toNat (gi I4 104 (x1).toNat)) 96 ((1600 * (gi (si (si I4 74 46 ((gi I4 74 46) - 1)) 74 47 ((gi I4 74 47) - 1)) 74 40)) + (gi (si (si I4 74 46 ((gi I4 74 46) - 1)) 74 47 ((gi I4 74 47) - 1)) 74 39)).toNat 0) 74 39 ((gi (si (si I4 74 46 ((gi I4 74 46) - 1)) 74 47 ((gi I4 74 47) - 1)) 74 39) + 1)) 102 ((gi (si I4 74 46 ((gi I4 74 46) - 1)) 74 46) - 1).toNat 2) J5)) dX12_goesOn_590 rfl L_102 (by decide) e18 rfl ?_
                  refine st_aload_n (pc' := 592) dX12_goesOn_591 rfl rfl (j := 0) rfl ?_
                  refine st_callV (pc' := 595) (kc := k - 1) (E' := LAY) (cal := m_X12_ahead) (n := 0) (as := []) (S := []) dX12_goesOn_592 rfl l_X12_308 k_X12_ahead rfl L_74 c_X12 rfl rfl (Nat.le_of_ble_eq_true rfl) (by omega) ⟨Nat.le_refl _, Nat.le_refl _, Nat.le_refl _, Nat.le_refl _⟩ h (fun r M' q => ?_)
                  obtain ⟨I20, J21, rfl, rfl, h⟩ := q
                  change WP _ LAY m_X12_goesOn 595 [(0, vR (some 74)), (1, vI x1), (2, vI x2), (3, vI x3)] [] (mem (P, some 5, some 22) I20 J21) Q
                  refine st_iconst (pc' := 596) dX12_goesOn_595 rfl ?_
                  exact st_iret (ty := .boolean) dX12_goesOn_596 rfl (by decide) rfl h
            · replace h := h.2 c
              refine st_iconst (pc' := 532) dX12_goesOn_531 rfl ?_
              exact st_iret (ty := .boolean) dX12_goesOn_532 rfl (by decide) rfl h
          · replace h := h.2 (b2i_f.mp c)
            refine st_aload_n (pc' := 516) dX12_goesOn_515 rfl rfl (j := 0) rfl ?_
            refine st_iconst (pc' := 517) dX12_goesOn_516 rfl ?_
            refine st_aload_n (pc' := 518) dX12_goesOn_517 rfl rfl (j := 0) rfl ?_
            refine G_X12_23_74 dX12_goesOn_518 (pc' := 521) rfl rfl ?_
            refine st_callV (pc' := 524) (kc := k - 1) (E' := LAY) (cal := m_X12_blame) (n := 2) (as := [vI 1, vI (gi I 74 4)]) (S := []) dX12_goesOn_521 rfl l_X12_287 k_X12_blame rfl L_74 c_X12 rfl rfl (Nat.le_of_ble_eq_true rfl) (by omega) ⟨Nat.le_refl _, Nat.le_refl _, Nat.le_refl _, Nat.le_refl _⟩ (Q1 := fun r M' => WP k LAY m_X12_goesOn 524 [(0, vR (some 74)), (1, vI x1), (2, vI x2), (3, vI x3)] (r.toList ++ []) M' Q) (WPm.of k_X12_blame.1 (Nat.le_of_ble_eq_true rfl) (B_X12_blame_0 (by omega) ?_)) (fun r M' q => q)
            refine ⟨fun c => ?_, fun c => ?_⟩
            · replace h := h.1 c
              change WP _ LAY m_X12_goesOn 524 [(0, vR (some 74)), (1, vI x1), (2, vI x2), (3, vI x3)] [] (mem (P, some 5, some 22) (si (si I 74 8 1) 74 9 (gi I 74 4)) J) Q
              refine st_aload_n (pc' := 525) dX12_goesOn_524 rfl rfl (j := 0) rfl ?_
              refine G_X12_36_74 dX12_goesOn_525 (pc' := 528) rfl rfl ?_
              rw [show gi (si (si I 74 8 1) 74 9 (gi I 74 4)) 74 8 = 1 from ((gi_idx _ _ _ (by decide)).trans (gi_same _ _ _ (by decide)))]
              refine st_if_le (tg := 533) (pc' := 531) dX12_goesOn_528 (by decide) rfl (by decide) (fun c => ?_) (fun c => ?_)
              · exact absurd c (by decide)
              · refine st_iconst (pc' := 532) dX12_goesOn_531 rfl ?_
                exact st_iret (ty := .boolean) dX12_goesOn_532 rfl (by decide) rfl h
            · replace h := h.2 c
              change WP _ LAY m_X12_goesOn 524 [(0, vR (some 74)), (1, vI x1), (2, vI x2), (3, vI x3)] [] (mem (P, some 5, some 22) I J) Q
              refine st_aload_n (pc' := 525) dX12_goesOn_524 rfl rfl (j := 0) rfl ?_
              refine G_X12_36_74 dX12_goesOn_525 (pc' := 528) rfl rfl ?_
              refine st_if_le (tg := 533) (pc' := 531) dX12_goesOn_528 (by decide) rfl (gi_in _ _ _) (fun c => ?_) (fun c => ?_)
              · replace h := h.1 c
                refine st_aload_n (pc' := 534) dX12_goesOn_533 rfl rfl (j := 0) rfl ?_
                refine st_iconst (pc' := 535) dX12_goesOn_534 rfl ?_
                refine st_callV (pc' := 538) (kc := k - 1) (E' := LAY) (cal := m_X12_joins) (n := 1) (as := [vI 1]) (S := []) dX12_goesOn_535 rfl l_X12_394 k_X12_joins rfl L_74 c_X12 rfl rfl (Nat.le_of_ble_eq_true rfl) (by omega) ⟨Nat.le_refl _, Nat.le_refl _, Nat.le_refl _, Nat.le_refl _⟩ h (fun r M' q => ?_)
                obtain ⟨I23, J24, rfl, rfl, h⟩ := q
                change WP _ LAY m_X12_goesOn 538 [(0, vR (some 74)), (1, vI x1), (2, vI x2), (3, vI x3)] [] (mem (P, some 5, some 22) I23 J24) Q
                refine st_aload_n (pc' := 539) dX12_goesOn_538 rfl rfl (j := 0) rfl ?_
                refine st_dup (pc' := 540) dX12_goesOn_539 rfl rfl ?_
                refine G_X12_152_74 dX12_goesOn_540 (pc' := 543) rfl rfl ?_
                refine st_iconst (pc' := 544) dX12_goesOn_543 rfl ?_
                refine st_isub (pc' := 545) dX12_goesOn_544 rfl ?_
                refine P_X12_152_74 dX12_goesOn_545 (pc' := 548) rfl rfl ?_
                refine st_aload_n (pc' := 549) dX12_goesOn_548 rfl rfl (j := 0) rfl ?_
                refine st_dup (pc' := 550) dX12_goesOn_549 rfl rfl ?_
                refine G_X12_155_74 dX12_goesOn_550 (pc' := 553) rfl rfl ?_
                rw [show gi (si I23 74 46 ((gi I23 74 46) - 1)) 74 47 = (gi I23 74 47) from (gi_idx _ _ _ (by decide))]
                refine st_iconst (pc' := 554) dX12_goesOn_553 rfl ?_
                refine st_isub (pc' := 555) dX12_goesOn_554 rfl ?_
                refine P_X12_155_74 dX12_goesOn_555 (pc' := 558) rfl rfl ?_
                refine st_iload_n (pc' := 559) dX12_goesOn_558 rfl rfl (j := 2) rfl ?_
                refine st_iconst (pc' := 560) dX12_goesOn_559 rfl ?_
                refine st_icmp_ne (tg := 574) (pc' := 563) dX12_goesOn_560 (by decide) rfl e2 (by decide) (fun c => ?_) (fun c => ?_)
                · replace h := h.1 c
                  refine st_iload_n (pc' := 575) dX12_goesOn_574 rfl rfl (j := 2) rfl ?_
                  refine st_iconst (pc' := 576) dX12_goesOn_575 rfl ?_
                  refine st_icmp_ne (tg := 591) (pc' := 579) dX12_goesOn_576 (by decide) rfl e2 (by decide) (fun c => ?_) (fun c => ?_)
                  · replace h := h.1 c
                    refine st_aload_n (pc' := 592) dX12_goesOn_591 rfl rfl (j := 0) rfl ?_
                    refine st_callV (pc' := 595) (kc := k - 1) (E' := LAY) (cal := m_X12_ahead) (n := 0) (as := []) (S := []) dX12_goesOn_592 rfl l_X12_308 k_X12_ahead rfl L_74 c_X12 rfl rfl (Nat.le_of_ble_eq_true rfl) (by omega) ⟨Nat.le_refl _, Nat.le_refl _, Nat.le_refl _, Nat.le_refl _⟩ h (fun r M' q => ?_)
                    obtain ⟨I26, J27, rfl, rfl, h⟩ := q
                    change WP _ LAY m_X12_goesOn 595 [(0, vR (some 74)), (1, vI x1), (2, vI x2), (3, vI x3)] [] (mem (P, some 5, some 22) I26 J27) Q
                    refine st_iconst (pc' := 596) dX12_goesOn_595 rfl ?_
                    exact st_iret (ty := .boolean) dX12_goesOn_596 rfl (by decide) rfl h
                  · replace h := h.2 c
                    refine st_aload_n (pc' := 580) dX12_goesOn_579 rfl rfl (j := 0) rfl ?_
                    refine G_X12_139_74 dX12_goesOn_580 (pc' := 583) rfl rfl ?_
                    refine st_aload_n (pc' := 584) dX12_goesOn_583 rfl rfl (j := 0) rfl ?_
                    refine G_X12_152_74 dX12_goesOn_584 (pc' := 587) rfl rfl ?_
                    rw [show gi (si (si I23 74 46 ((gi I23 74 46) - 1)) 74 47 ((gi I23 74 47) - 1)) 74 46 = (gi (si I23 74 46 ((gi I23 74 46) - 1)) 74 46) from (gi_idx _ _ _ (by decide))]
                    refine st_iconst (pc' := 588) dX12_goesOn_587 rfl ?_
                    refine st_isub (pc' := 589) dX12_goesOn_588 rfl ?_
                    refine st_iconst (pc' := 590) dX12_goesOn_589 rfl ?_
                    obtain ⟨e28, h⟩ := h
                    refine st_iastore (pc' := 591) (M' := (mem (P, some 5, some 22) (si (si (si I23 74 46 ((gi I23 74 46) - 1)) 74 47 ((gi I23 74 47) - 1)) 102 ((gi (si I23 74 46 ((gi I23 74 46) - 1)) 74 46) - 1).toNat 2) J24)) dX12_goesOn_590 rfl L_102 (by decide) e28 rfl ?_
                    refine st_aload_n (pc' := 592) dX12_goesOn_591 rfl rfl (j := 0) rfl ?_
                    refine st_callV (pc' := 595) (kc := k - 1) (E' := LAY) (cal := m_X12_ahead) (n := 0) (as := []) (S := []) dX12_goesOn_592 rfl l_X12_308 k_X12_ahead rfl L_74 c_X12 rfl rfl (Nat.le_of_ble_eq_true rfl) (by omega) ⟨Nat.le_refl _, Nat.le_refl _, Nat.le_refl _, Nat.le_refl _⟩ h (fun r M' q => ?_)
                    obtain ⟨I30, J31, rfl, rfl, h⟩ := q
                    change WP _ LAY m_X12_goesOn 595 [(0, vR (some 74)), (1, vI x1), (2, vI x2), (3, vI x3)] [] (mem (P, some 5, some 22) I30 J31) Q
                    refine st_iconst (pc' := 596) dX12_goesOn_595 rfl ?_
                    exact st_iret (ty := .boolean) dX12_goesOn_596 rfl (by decide) rfl h
                · replace h := h.2 c
                  refine st_aload_n (pc' := 564) dX12_goesOn_563 rfl rfl (j := 0) rfl ?_
                  refine st_aload_n (pc' := 565) dX12_goesOn_564 rfl rfl (j := 0) rfl ?_
                  refine G_X12_146_74 dX12_goesOn_565 (pc' := 568) rfl rfl ?_
                  refine st_iload_n (pc' := 569) dX12_goesOn_568 rfl rfl (j := 1) rfl ?_
                  obtain ⟨e32, h⟩ := h
                  refine st_iaload (pc' := 570) (v := (gi I23 104 (x1).toNat)) dX12_goesOn_569 rfl L_104 (by decide) e32 (show gi (si (si I23 74 46 ((gi I23 74 46) - 1)) 74 47 ((gi I23 74 47) - 1)) 104 (x1).toNat = (gi I23 104 (x1).toNat) from ((gi_cell _ _ _ _ (by decide)).trans (gi_cell _ _ _ _ (by decide)))) ?_
                  refine st_iconst (pc' := 571) dX12_goesOn_570 rfl ?_
                  refine st_callV (pc' := 574) (kc := k - 1) (E' := LAY) (cal := m_X12_add) (n := 2) (as := [vI (gi I23 104 (x1).toNat), vI 0]) (S := []) dX12_goesOn_571 rfl l_X12_376 k_X12_add rfl L_74 c_X12 rfl rfl (Nat.le_of_ble_eq_true rfl) (by omega) ⟨Nat.le_refl _, Nat.le_refl _, Nat.le_refl _, Nat.le_refl _⟩ (Q1 := fun r M' => WP k LAY m_X12_goesOn 574 [(0, vR (some 74)), (1, vI x1), (2, vI x2), (3, vI x3)] (r.toList ++ []) M' Q) (WPm.of k_X12_add.1 (Nat.le_of_ble_eq_true rfl) (B_X12_add_0 (by omega) ?_)) (fun r M' q => q)
                  obtain ⟨e33, h⟩ := h
                  refine ⟨e33, ?_⟩
                  change WP _ LAY m_X12_goesOn 574 [(0, vR (some 74)), (1, vI x1), (2, vI x2), (3, vI x3)] [] (mem (P, some 5, some 22) (si (si (si (si (si I23 74 46 ((gi I23 74 46) - 1)) 74 47 ((gi I23 74 47) - 1)) 95 ((1600 * (gi (si (si I23 74 46 ((gi I23 74 46) - 1)) 74 47 ((gi I23 74 47) - 1)) 74 40)) + (gi (si (si I23 74 46 ((gi I23 74 46) - 1)) 74 47 ((gi I23 74 47) - 1)) 74 39)).toNat (gi I23 104 (x1).toNat)) 96 ((1600 * (gi (si (si I23 74 46 ((gi I23 74 46) - 1)) 74 47 ((gi I23 74 47) - 1)) 74 40)) + (gi (si (si I23 74 46 ((gi I23 74 46) - 1)) 74 47 ((gi I23 74 47) - 1)) 74 39)).toNat 0) 74 39 ((gi (si (si I23 74 46 ((gi I23 74 46) - 1)) 74 47 ((gi I23 74 47) - 1)) 74 39) + 1)) J24) Q
                  refine st_iload_n (pc' := 575) dX12_goesOn_574 rfl rfl (j := 2) rfl ?_
                  refine st_iconst (pc' := 576) dX12_goesOn_575 rfl ?_
                  refine st_icmp_ne (tg := 591) (pc' := 579) dX12_goesOn_576 (by decide) rfl e2 (by decide) (fun c => ?_) (fun c => ?_)
                  · replace h := h.1 c
                    refine st_aload_n (pc' := 592) dX12_goesOn_591 rfl rfl (j := 0) rfl ?_
                    refine st_callV (pc' := 595) (kc := k - 1) (E' := LAY) (cal := m_X12_ahead) (n := 0) (as := []) (S := []) dX12_goesOn_592 rfl l_X12_308 k_X12_ahead rfl L_74 c_X12 rfl rfl (Nat.le_of_ble_eq_true rfl) (by omega) ⟨Nat.le_refl _, Nat.le_refl _, Nat.le_refl _, Nat.le_refl _⟩ h (fun r M' q => ?_)
                    obtain ⟨I35, J36, rfl, rfl, h⟩ := q
                    change WP _ LAY m_X12_goesOn 595 [(0, vR (some 74)), (1, vI x1), (2, vI x2), (3, vI x3)] [] (mem (P, some 5, some 22) I35 J36) Q
                    refine st_iconst (pc' := 596) dX12_goesOn_595 rfl ?_
                    exact st_iret (ty := .boolean) dX12_goesOn_596 rfl (by decide) rfl h
                  · replace h := h.2 c
                    refine st_aload_n (pc' := 580) dX12_goesOn_579 rfl rfl (j := 0) rfl ?_
                    refine G_X12_139_74 dX12_goesOn_580 (pc' := 583) rfl rfl ?_
                    refine st_aload_n (pc' := 584) dX12_goesOn_583 rfl rfl (j := 0) rfl ?_
                    refine G_X12_152_74 dX12_goesOn_584 (pc' := 587) rfl rfl ?_
                    rw [show gi (si (si (si (si (si I23 74 46 ((gi I23 74 46) - 1)) 74 47 ((gi I23 74 47) - 1)) 95 ((1600 * (gi (si (si I23 74 46 ((gi I23 74 46) - 1)) 74 47 ((gi I23 74 47) - 1)) 74 40)) + (gi (si (si I23 74 46 ((gi I23 74 46) - 1)) 74 47 ((gi I23 74 47) - 1)) 74 39)).toNat (gi I23 104 (x1).toNat)) 96 ((1600 * (gi (si (si I23 74 46 ((gi I23 74 46) - 1)) 74 47 ((gi I23 74 47) - 1)) 74 40)) + (gi (si (si I23 74 46 ((gi I23 74 46) - 1)) 74 47 ((gi I23 74 47) - 1)) 74 39)).toNat 0) 74 39 ((gi (si (si I23 74 46 ((gi I23 74 46) - 1)) 74 47 ((gi I23 74 47) - 1)) 74 39) + 1)) 74 46 = (gi (si I23 74 46 ((gi I23 74 46) - 1)) 74 46) from ((gi_idx _ _ _ (by decide)).trans ((gi_cell _ _ _ _ (by decide)).trans ((gi_cell _ _ _ _ (by decide)).trans (gi_idx _ _ _ (by decide)))))]
                    refine st_iconst (pc' := 588) dX12_goesOn_587 rfl ?_
                    refine st_isub (pc' := 589) dX12_goesOn_588 rfl ?_
                    refine st_iconst (pc' := 590) dX12_goesOn_589 rfl ?_
                    obtain ⟨e37, h⟩ := h
                    refine st_iastore (pc' := 591) (M' := (mem (P, some 5, some 22) (si (si (si (si (si (si I23 74 46 ((gi I23 74 46) - 1)) 74 47 ((gi I23 74 47) - 1)) 95 ((1600 * (gi (si (si I23 74 46 ((gi I23 74 46) - 1)) 74 47 ((gi I23 74 47) - 1)) 74 40)) + (gi (si (si I23 74 46 ((gi I23 74 46) - 1)) 74 47 ((gi I23 74 47) - 1)) 74 39)).toNat (gi I23 104 (x1).toNat)) 96 ((1600 * (gi (si (si I23 74 46 ((gi I23 74 46) - 1)) 74 47 ((gi I23 74 47) - 1)) 74 40)) + (gi (si (si I23 74 46 ((gi I23 74 46) - 1)) 74 47 ((gi I23 74 47) - 1)) 74 39)).toNat 0) 74 39 ((gi (si (si I23 74 46 ((gi I23 74 46) - 1)) 74 47 ((gi I23 74 47) - 1)) 74 39) + 1)) 102 ((gi (si I23 74 46 ((gi I23 74 46) - 1)) 74 46) - 1).toNat 2) J24)) dX12_goesOn_590 rfl L_102 (by decide) e37 rfl ?_
                    refine st_aload_n (pc' := 592) dX12_goesOn_591 rfl rfl (j := 0) rfl ?_
                    refine st_callV (pc' := 595) (kc := k - 1) (E' := LAY) (cal := m_X12_ahead) (n := 0) (as := []) (S := []) dX12_goesOn_592 rfl l_X12_308 k_X12_ahead rfl L_74 c_X12 rfl rfl (Nat.le_of_ble_eq_true rfl) (by omega) ⟨Nat.le_refl _, Nat.le_refl _, Nat.le_refl _, Nat.le_refl _⟩ h (fun r M' q => ?_)
                    obtain ⟨I39, J40, rfl, rfl, h⟩ := q
                    change WP _ LAY m_X12_goesOn 595 [(0, vR (some 74)), (1, vI x1), (2, vI x2), (3, vI x3)] [] (mem (P, some 5, some 22) I39 J40) Q
                    refine st_iconst (pc' := 596) dX12_goesOn_595 rfl ?_
                    exact st_iret (ty := .boolean) dX12_goesOn_596 rfl (by decide) rfl h
              · replace h := h.2 c
                refine st_iconst (pc' := 532) dX12_goesOn_531 rfl ?_
                exact st_iret (ty := .boolean) dX12_goesOn_532 rfl (by decide) rfl h
        · replace h := h.2 c
          refine st_bipush (pc' := 504) dX12_goesOn_502 rfl (by decide) ?_
          refine st_goto (pc' := 509) dX12_goesOn_504 (by decide) ?_
          refine st_callV (pc' := 512) (kc := k - 1) (E' := LAY) (cal := m_X12_isSign) (n := 1) (as := [vI 93]) (S := []) dX12_goesOn_509 rfl l_X12_305 k_X12_isSign rfl L_74 c_X12 rfl rfl (Nat.le_of_ble_eq_true rfl) (by omega) ⟨Nat.le_refl _, Nat.le_refl _, Nat.le_refl _, Nat.le_refl _⟩ (Q1 := fun r M' => WP k LAY m_X12_goesOn 512 [(0, vR (some 74)), (1, vI x1), (2, vI x2), (3, vI x3)] (r.toList ++ []) M' Q) (S_X12_isSign (by omega) (by decide) ?_) (fun r M' q => q)
          change WP _ LAY m_X12_goesOn 512 [(0, vR (some 74)), (1, vI x1), (2, vI x2), (3, vI x3)] [vI (b2i (gi I 74 3 = 3 ∧ gi I 74 6 = 93))] (mem (P, some 5, some 22) I J) Q
          refine st_if_ne (tg := 524) (pc' := 515) dX12_goesOn_512 (by decide) rfl (b2i_in _) (fun c => ?_) (fun c => ?_)
          · replace h := h.1 (b2i_t.mp c)
            refine st_aload_n (pc' := 525) dX12_goesOn_524 rfl rfl (j := 0) rfl ?_
            refine G_X12_36_74 dX12_goesOn_525 (pc' := 528) rfl rfl ?_
            refine st_if_le (tg := 533) (pc' := 531) dX12_goesOn_528 (by decide) rfl (gi_in _ _ _) (fun c => ?_) (fun c => ?_)
            · replace h := h.1 c
              refine st_aload_n (pc' := 534) dX12_goesOn_533 rfl rfl (j := 0) rfl ?_
              refine st_iconst (pc' := 535) dX12_goesOn_534 rfl ?_
              refine st_callV (pc' := 538) (kc := k - 1) (E' := LAY) (cal := m_X12_joins) (n := 1) (as := [vI 1]) (S := []) dX12_goesOn_535 rfl l_X12_394 k_X12_joins rfl L_74 c_X12 rfl rfl (Nat.le_of_ble_eq_true rfl) (by omega) ⟨Nat.le_refl _, Nat.le_refl _, Nat.le_refl _, Nat.le_refl _⟩ h (fun r M' q => ?_)
              obtain ⟨I42, J43, rfl, rfl, h⟩ := q
              change WP _ LAY m_X12_goesOn 538 [(0, vR (some 74)), (1, vI x1), (2, vI x2), (3, vI x3)] [] (mem (P, some 5, some 22) I42 J43) Q
              refine st_aload_n (pc' := 539) dX12_goesOn_538 rfl rfl (j := 0) rfl ?_
              refine st_dup (pc' := 540) dX12_goesOn_539 rfl rfl ?_
              refine G_X12_152_74 dX12_goesOn_540 (pc' := 543) rfl rfl ?_
              refine st_iconst (pc' := 544) dX12_goesOn_543 rfl ?_
              refine st_isub (pc' := 545) dX12_goesOn_544 rfl ?_
              refine P_X12_152_74 dX12_goesOn_545 (pc' := 548) rfl rfl ?_
              refine st_aload_n (pc' := 549) dX12_goesOn_548 rfl rfl (j := 0) rfl ?_
              refine st_dup (pc' := 550) dX12_goesOn_549 rfl rfl ?_
              refine G_X12_155_74 dX12_goesOn_550 (pc' := 553) rfl rfl ?_
              rw [show gi (si I42 74 46 ((gi I42 74 46) - 1)) 74 47 = (gi I42 74 47) from (gi_idx _ _ _ (by decide))]
              refine st_iconst (pc' := 554) dX12_goesOn_553 rfl ?_
              refine st_isub (pc' := 555) dX12_goesOn_554 rfl ?_
              refine P_X12_155_74 dX12_goesOn_555 (pc' := 558) rfl rfl ?_
              refine st_iload_n (pc' := 559) dX12_goesOn_558 rfl rfl (j := 2) rfl ?_
              refine st_iconst (pc' := 560) dX12_goesOn_559 rfl ?_
              refine st_icmp_ne (tg := 574) (pc' := 563) dX12_goesOn_560 (by decide) rfl e2 (by decide) (fun c => ?_) (fun c => ?_)
              · replace h := h.1 c
                refine st_iload_n (pc' := 575) dX12_goesOn_574 rfl rfl (j := 2) rfl ?_
                refine st_iconst (pc' := 576) dX12_goesOn_575 rfl ?_
                refine st_icmp_ne (tg := 591) (pc' := 579) dX12_goesOn_576 (by decide) rfl e2 (by decide) (fun c => ?_) (fun c => ?_)
                · replace h := h.1 c
                  refine st_aload_n (pc' := 592) dX12_goesOn_591 rfl rfl (j := 0) rfl ?_
                  refine st_callV (pc' := 595) (kc := k - 1) (E' := LAY) (cal := m_X12_ahead) (n := 0) (as := []) (S := []) dX12_goesOn_592 rfl l_X12_308 k_X12_ahead rfl L_74 c_X12 rfl rfl (Nat.le_of_ble_eq_true rfl) (by omega) ⟨Nat.le_refl _, Nat.le_refl _, Nat.le_refl _, Nat.le_refl _⟩ h (fun r M' q => ?_)
                  obtain ⟨I45, J46, rfl, rfl, h⟩ := q
                  change WP _ LAY m_X12_goesOn 595 [(0, vR (some 74)), (1, vI x1), (2, vI x2), (3, vI x3)] [] (mem (P, some 5, some 22) I45 J46) Q
                  refine st_iconst (pc' := 596) dX12_goesOn_595 rfl ?_
                  exact st_iret (ty := .boolean) dX12_goesOn_596 rfl (by decide) rfl h
                · replace h := h.2 c
                  refine st_aload_n (pc' := 580) dX12_goesOn_579 rfl rfl (j := 0) rfl ?_
                  refine G_X12_139_74 dX12_goesOn_580 (pc' := 583) rfl rfl ?_
                  refine st_aload_n (pc' := 584) dX12_goesOn_583 rfl rfl (j := 0) rfl ?_
                  refine G_X12_152_74 dX12_goesOn_584 (pc' := 587) rfl rfl ?_
                  rw [show gi (si (si I42 74 46 ((gi I42 74 46) - 1)) 74 47 ((gi I42 74 47) - 1)) 74 46 = (gi (si I42 74 46 ((gi I42 74 46) - 1)) 74 46) from (gi_idx _ _ _ (by decide))]
                  refine st_iconst (pc' := 588) dX12_goesOn_587 rfl ?_
                  refine st_isub (pc' := 589) dX12_goesOn_588 rfl ?_
                  refine st_iconst (pc' := 590) dX12_goesOn_589 rfl ?_
                  obtain ⟨e47, h⟩ := h
                  refine st_iastore (pc' := 591) (M' := (mem (P, some 5, some 22) (si (si (si I42 74 46 ((gi I42 74 46) - 1)) 74 47 ((gi I42 74 47) - 1)) 102 ((gi (si I42 74 46 ((gi I42 74 46) - 1)) 74 46) - 1).toNat 2) J43)) dX12_goesOn_590 rfl L_102 (by decide) e47 rfl ?_
                  refine st_aload_n (pc' := 592) dX12_goesOn_591 rfl rfl (j := 0) rfl ?_
                  refine st_callV (pc' := 595) (kc := k - 1) (E' := LAY) (cal := m_X12_ahead) (n := 0) (as := []) (S := []) dX12_goesOn_592 rfl l_X12_308 k_X12_ahead rfl L_74 c_X12 rfl rfl (Nat.le_of_ble_eq_true rfl) (by omega) ⟨Nat.le_refl _, Nat.le_refl _, Nat.le_refl _, Nat.le_refl _⟩ h (fun r M' q => ?_)
                  obtain ⟨I49, J50, rfl, rfl, h⟩ := q
                  change WP _ LAY m_X12_goesOn 595 [(0, vR (some 74)), (1, vI x1), (2, vI x2), (3, vI x3)] [] (mem (P, some 5, some 22) I49 J50) Q
                  refine st_iconst (pc' := 596) dX12_goesOn_595 rfl ?_
                  exact st_iret (ty := .boolean) dX12_goesOn_596 rfl (by decide) rfl h
              · replace h := h.2 c
                refine st_aload_n (pc' := 564) dX12_goesOn_563 rfl rfl (j := 0) rfl ?_
                refine st_aload_n (pc' := 565) dX12_goesOn_564 rfl rfl (j := 0) rfl ?_
                refine G_X12_146_74 dX12_goesOn_565 (pc' := 568) rfl rfl ?_
                refine st_iload_n (pc' := 569) dX12_goesOn_568 rfl rfl (j := 1) rfl ?_
                obtain ⟨e51, h⟩ := h
                refine st_iaload (pc' := 570) (v := (gi I42 104 (x1).toNat)) dX12_goesOn_569 rfl L_104 (by decide) e51 (show gi (si (si I42 74 46 ((gi I42 74 46) - 1)) 74 47 ((gi I42 74 47) - 1)) 104 (x1).toNat = (gi I42 104 (x1).toNat) from ((gi_cell _ _ _ _ (by decide)).trans (gi_cell _ _ _ _ (by decide)))) ?_
                refine st_iconst (pc' := 571) dX12_goesOn_570 rfl ?_
                refine st_callV (pc' := 574) (kc := k - 1) (E' := LAY) (cal := m_X12_add) (n := 2) (as := [vI (gi I42 104 (x1).toNat), vI 0]) (S := []) dX12_goesOn_571 rfl l_X12_376 k_X12_add rfl L_74 c_X12 rfl rfl (Nat.le_of_ble_eq_true rfl) (by omega) ⟨Nat.le_refl _, Nat.le_refl _, Nat.le_refl _, Nat.le_refl _⟩ (Q1 := fun r M' => WP k LAY m_X12_goesOn 574 [(0, vR (some 74)), (1, vI x1), (2, vI x2), (3, vI x3)] (r.toList ++ []) M' Q) (WPm.of k_X12_add.1 (Nat.le_of_ble_eq_true rfl) (B_X12_add_0 (by omega) ?_)) (fun r M' q => q)
                obtain ⟨e52, h⟩ := h
                refine ⟨e52, ?_⟩
                change WP _ LAY m_X12_goesOn 574 [(0, vR (some 74)), (1, vI x1), (2, vI x2), (3, vI x3)] [] (mem (P, some 5, some 22) (si (si (si (si (si I42 74 46 ((gi I42 74 46) - 1)) 74 47 ((gi I42 74 47) - 1)) 95 ((1600 * (gi (si (si I42 74 46 ((gi I42 74 46) - 1)) 74 47 ((gi I42 74 47) - 1)) 74 40)) + (gi (si (si I42 74 46 ((gi I42 74 46) - 1)) 74 47 ((gi I42 74 47) - 1)) 74 39)).toNat (gi I42 104 (x1).toNat)) 96 ((1600 * (gi (si (si I42 74 46 ((gi I42 74 46) - 1)) 74 47 ((gi I42 74 47) - 1)) 74 40)) + (gi (si (si I42 74 46 ((gi I42 74 46) - 1)) 74 47 ((gi I42 74 47) - 1)) 74 39)).toNat 0) 74 39 ((gi (si (si I42 74 46 ((gi I42 74 46) - 1)) 74 47 ((gi I42 74 47) - 1)) 74 39) + 1)) J43) Q
                refine st_iload_n (pc' := 575) dX12_goesOn_574 rfl rfl (j := 2) rfl ?_
                refine st_iconst (pc' := 576) dX12_goesOn_575 rfl ?_
                refine st_icmp_ne (tg := 591) (pc' := 579) dX12_goesOn_576 (by decide) rfl e2 (by decide) (fun c => ?_) (fun c => ?_)
                · replace h := h.1 c
                  refine st_aload_n (pc' := 592) dX12_goesOn_591 rfl rfl (j := 0) rfl ?_
                  refine st_callV (pc' := 595) (kc := k - 1) (E' := LAY) (cal := m_X12_ahead) (n := 0) (as := []) (S := []) dX12_goesOn_592 rfl l_X12_308 k_X12_ahead rfl L_74 c_X12 rfl rfl (Nat.le_of_ble_eq_true rfl) (by omega) ⟨Nat.le_refl _, Nat.le_refl _, Nat.le_refl _, Nat.le_refl _⟩ h (fun r M' q => ?_)
                  obtain ⟨I54, J55, rfl, rfl, h⟩ := q
                  change WP _ LAY m_X12_goesOn 595 [(0, vR (some 74)), (1, vI x1), (2, vI x2), (3, vI x3)] [] (mem (P, some 5, some 22) I54 J55) Q
                  refine st_iconst (pc' := 596) dX12_goesOn_595 rfl ?_
                  exact st_iret (ty := .boolean) dX12_goesOn_596 rfl (by decide) rfl h
                · replace h := h.2 c
                  refine st_aload_n (pc' := 580) dX12_goesOn_579 rfl rfl (j := 0) rfl ?_
                  refine G_X12_139_74 dX12_goesOn_580 (pc' := 583) rfl rfl ?_
                  refine st_aload_n (pc' := 584) dX12_goesOn_583 rfl rfl (j := 0) rfl ?_
                  refine G_X12_152_74 dX12_goesOn_584 (pc' := 587) rfl rfl ?_
                  rw [show gi (si (si (si (si (si I42 74 46 ((gi I42 74 46) - 1)) 74 47 ((gi I42 74 47) - 1)) 95 ((1600 * (gi (si (si I42 74 46 ((gi I42 74 46) - 1)) 74 47 ((gi I42 74 47) - 1)) 74 40)) + (gi (si (si I42 74 46 ((gi I42 74 46) - 1)) 74 47 ((gi I42 74 47) - 1)) 74 39)).toNat (gi I42 104 (x1).toNat)) 96 ((1600 * (gi (si (si I42 74 46 ((gi I42 74 46) - 1)) 74 47 ((gi I42 74 47) - 1)) 74 40)) + (gi (si (si I42 74 46 ((gi I42 74 46) - 1)) 74 47 ((gi I42 74 47) - 1)) 74 39)).toNat 0) 74 39 ((gi (si (si I42 74 46 ((gi I42 74 46) - 1)) 74 47 ((gi I42 74 47) - 1)) 74 39) + 1)) 74 46 = (gi (si I42 74 46 ((gi I42 74 46) - 1)) 74 46) from ((gi_idx _ _ _ (by decide)).trans ((gi_cell _ _ _ _ (by decide)).trans ((gi_cell _ _ _ _ (by decide)).trans (gi_idx _ _ _ (by decide)))))]
                  refine st_iconst (pc' := 588) dX12_goesOn_587 rfl ?_
                  refine st_isub (pc' := 589) dX12_goesOn_588 rfl ?_
                  refine st_iconst (pc' := 590) dX12_goesOn_589 rfl ?_
                  obtain ⟨e56, h⟩ := h
                  refine st_iastore (pc' := 591) (M' := (mem (P, some 5, some 22) (si (si (si (si (si (si I42 74 46 ((gi I42 74 46) - 1)) 74 47 ((gi I42 74 47) - 1)) 95 ((1600 * (gi (si (si I42 74 46 ((gi I42 74 46) - 1)) 74 47 ((gi I42 74 47) - 1)) 74 40)) + (gi (si (si I42 74 46 ((gi I42 74 46) - 1)) 74 47 ((gi I42 74 47) - 1)) 74 39)).toNat (gi I42 104 (x1).toNat)) 96 ((1600 * (gi (si (si I42 74 46 ((gi I42 74 46) - 1)) 74 47 ((gi I42 74 47) - 1)) 74 40)) + (gi (si (si I42 74 46 ((gi I42 74 46) - 1)) 74 47 ((gi I42 74 47) - 1)) 74 39)).toNat 0) 74 39 ((gi (si (si I42 74 46 ((gi I42 74 46) - 1)) 74 47 ((gi I42 74 47) - 1)) 74 39) + 1)) 102 ((gi (si I42 74 46 ((gi I42 74 46) - 1)) 74 46) - 1).toNat 2) J43)) dX12_goesOn_590 rfl L_102 (by decide) e56 rfl ?_
                  refine st_aload_n (pc' := 592) dX12_goesOn_591 rfl rfl (j := 0) rfl ?_
                  refine st_callV (pc' := 595) (kc := k - 1) (E' := LAY) (cal := m_X12_ahead) (n := 0) (as := []) (S := []) dX12_goesOn_592 rfl l_X12_308 k_X12_ahead rfl L_74 c_X12 rfl rfl (Nat.le_of_ble_eq_true rfl) (by omega) ⟨Nat.le_refl _, Nat.le_refl _, Nat.le_refl _, Nat.le_refl _⟩ h (fun r M' q => ?_)
                  obtain ⟨I58, J59, rfl, rfl, h⟩ := q
                  change WP _ LAY m_X12_goesOn 595 [(0, vR (some 74)), (1, vI x1), (2, vI x2), (3, vI x3)] [] (mem (P, some 5, some 22) I58 J59) Q
                  refine st_iconst (pc' := 596) dX12_goesOn_595 rfl ?_
                  exact st_iret (ty := .boolean) dX12_goesOn_596 rfl (by decide) rfl h
            · replace h := h.2 c
              refine st_iconst (pc' := 532) dX12_goesOn_531 rfl ?_
              exact st_iret (ty := .boolean) dX12_goesOn_532 rfl (by decide) rfl h
          · replace h := h.2 (b2i_f.mp c)
            refine st_aload_n (pc' := 516) dX12_goesOn_515 rfl rfl (j := 0) rfl ?_
            refine st_iconst (pc' := 517) dX12_goesOn_516 rfl ?_
            refine st_aload_n (pc' := 518) dX12_goesOn_517 rfl rfl (j := 0) rfl ?_
            refine G_X12_23_74 dX12_goesOn_518 (pc' := 521) rfl rfl ?_
            refine st_callV (pc' := 524) (kc := k - 1) (E' := LAY) (cal := m_X12_blame) (n := 2) (as := [vI 1, vI (gi I 74 4)]) (S := []) dX12_goesOn_521 rfl l_X12_287 k_X12_blame rfl L_74 c_X12 rfl rfl (Nat.le_of_ble_eq_true rfl) (by omega) ⟨Nat.le_refl _, Nat.le_refl _, Nat.le_refl _, Nat.le_refl _⟩ (Q1 := fun r M' => WP k LAY m_X12_goesOn 524 [(0, vR (some 74)), (1, vI x1), (2, vI x2), (3, vI x3)] (r.toList ++ []) M' Q) (WPm.of k_X12_blame.1 (Nat.le_of_ble_eq_true rfl) (B_X12_blame_0 (by omega) ?_)) (fun r M' q => q)
            refine ⟨fun c => ?_, fun c => ?_⟩
            · replace h := h.1 c
              change WP _ LAY m_X12_goesOn 524 [(0, vR (some 74)), (1, vI x1), (2, vI x2), (3, vI x3)] [] (mem (P, some 5, some 22) (si (si I 74 8 1) 74 9 (gi I 74 4)) J) Q
              refine st_aload_n (pc' := 525) dX12_goesOn_524 rfl rfl (j := 0) rfl ?_
              refine G_X12_36_74 dX12_goesOn_525 (pc' := 528) rfl rfl ?_
              rw [show gi (si (si I 74 8 1) 74 9 (gi I 74 4)) 74 8 = 1 from ((gi_idx _ _ _ (by decide)).trans (gi_same _ _ _ (by decide)))]
              refine st_if_le (tg := 533) (pc' := 531) dX12_goesOn_528 (by decide) rfl (by decide) (fun c => ?_) (fun c => ?_)
              · exact absurd c (by decide)
              · refine st_iconst (pc' := 532) dX12_goesOn_531 rfl ?_
                exact st_iret (ty := .boolean) dX12_goesOn_532 rfl (by decide) rfl h
            · replace h := h.2 c
              change WP _ LAY m_X12_goesOn 524 [(0, vR (some 74)), (1, vI x1), (2, vI x2), (3, vI x3)] [] (mem (P, some 5, some 22) I J) Q
              refine st_aload_n (pc' := 525) dX12_goesOn_524 rfl rfl (j := 0) rfl ?_
              refine G_X12_36_74 dX12_goesOn_525 (pc' := 528) rfl rfl ?_
              refine st_if_le (tg := 533) (pc' := 531) dX12_goesOn_528 (by decide) rfl (gi_in _ _ _) (fun c => ?_) (fun c => ?_)
              · replace h := h.1 c
                refine st_aload_n (pc' := 534) dX12_goesOn_533 rfl rfl (j := 0) rfl ?_
                refine st_iconst (pc' := 535) dX12_goesOn_534 rfl ?_
                refine st_callV (pc' := 538) (kc := k - 1) (E' := LAY) (cal := m_X12_joins) (n := 1) (as := [vI 1]) (S := []) dX12_goesOn_535 rfl l_X12_394 k_X12_joins rfl L_74 c_X12 rfl rfl (Nat.le_of_ble_eq_true rfl) (by omega) ⟨Nat.le_refl _, Nat.le_refl _, Nat.le_refl _, Nat.le_refl _⟩ h (fun r M' q => ?_)
                obtain ⟨I61, J62, rfl, rfl, h⟩ := q
                change WP _ LAY m_X12_goesOn 538 [(0, vR (some 74)), (1, vI x1), (2, vI x2), (3, vI x3)] [] (mem (P, some 5, some 22) I61 J62) Q
                refine st_aload_n (pc' := 539) dX12_goesOn_538 rfl rfl (j := 0) rfl ?_
                refine st_dup (pc' := 540) dX12_goesOn_539 rfl rfl ?_
                refine G_X12_152_74 dX12_goesOn_540 (pc' := 543) rfl rfl ?_
                refine st_iconst (pc' := 544) dX12_goesOn_543 rfl ?_
                refine st_isub (pc' := 545) dX12_goesOn_544 rfl ?_
                refine P_X12_152_74 dX12_goesOn_545 (pc' := 548) rfl rfl ?_
                refine st_aload_n (pc' := 549) dX12_goesOn_548 rfl rfl (j := 0) rfl ?_
                refine st_dup (pc' := 550) dX12_goesOn_549 rfl rfl ?_
                refine G_X12_155_74 dX12_goesOn_550 (pc' := 553) rfl rfl ?_
                rw [show gi (si I61 74 46 ((gi I61 74 46) - 1)) 74 47 = (gi I61 74 47) from (gi_idx _ _ _ (by decide))]
                refine st_iconst (pc' := 554) dX12_goesOn_553 rfl ?_
                refine st_isub (pc' := 555) dX12_goesOn_554 rfl ?_
                refine P_X12_155_74 dX12_goesOn_555 (pc' := 558) rfl rfl ?_
                refine st_iload_n (pc' := 559) dX12_goesOn_558 rfl rfl (j := 2) rfl ?_
                refine st_iconst (pc' := 560) dX12_goesOn_559 rfl ?_
                refine st_icmp_ne (tg := 574) (pc' := 563) dX12_goesOn_560 (by decide) rfl e2 (by decide) (fun c => ?_) (fun c => ?_)
                · replace h := h.1 c
                  refine st_iload_n (pc' := 575) dX12_goesOn_574 rfl rfl (j := 2) rfl ?_
                  refine st_iconst (pc' := 576) dX12_goesOn_575 rfl ?_
                  refine st_icmp_ne (tg := 591) (pc' := 579) dX12_goesOn_576 (by decide) rfl e2 (by decide) (fun c => ?_) (fun c => ?_)
                  · replace h := h.1 c
                    refine st_aload_n (pc' := 592) dX12_goesOn_591 rfl rfl (j := 0) rfl ?_
                    refine st_callV (pc' := 595) (kc := k - 1) (E' := LAY) (cal := m_X12_ahead) (n := 0) (as := []) (S := []) dX12_goesOn_592 rfl l_X12_308 k_X12_ahead rfl L_74 c_X12 rfl rfl (Nat.le_of_ble_eq_true rfl) (by omega) ⟨Nat.le_refl _, Nat.le_refl _, Nat.le_refl _, Nat.le_refl _⟩ h (fun r M' q => ?_)
                    obtain ⟨I64, J65, rfl, rfl, h⟩ := q
                    change WP _ LAY m_X12_goesOn 595 [(0, vR (some 74)), (1, vI x1), (2, vI x2), (3, vI x3)] [] (mem (P, some 5, some 22) I64 J65) Q
                    refine st_iconst (pc' := 596) dX12_goesOn_595 rfl ?_
                    exact st_iret (ty := .boolean) dX12_goesOn_596 rfl (by decide) rfl h
                  · replace h := h.2 c
                    refine st_aload_n (pc' := 580) dX12_goesOn_579 rfl rfl (j := 0) rfl ?_
                    refine G_X12_139_74 dX12_goesOn_580 (pc' := 583) rfl rfl ?_
                    refine st_aload_n (pc' := 584) dX12_goesOn_583 rfl rfl (j := 0) rfl ?_
                    refine G_X12_152_74 dX12_goesOn_584 (pc' := 587) rfl rfl ?_
                    rw [show gi (si (si I61 74 46 ((gi I61 74 46) - 1)) 74 47 ((gi I61 74 47) - 1)) 74 46 = (gi (si I61 74 46 ((gi I61 74 46) - 1)) 74 46) from (gi_idx _ _ _ (by decide))]
                    refine st_iconst (pc' := 588) dX12_goesOn_587 rfl ?_
                    refine st_isub (pc' := 589) dX12_goesOn_588 rfl ?_
                    refine st_iconst (pc' := 590) dX12_goesOn_589 rfl ?_
                    obtain ⟨e66, h⟩ := h
                    refine st_iastore (pc' := 591) (M' := (mem (P, some 5, some 22) (si (si (si I61 74 46 ((gi I61 74 46) - 1)) 74 47 ((gi I61 74 47) - 1)) 102 ((gi (si I61 74 46 ((gi I61 74 46) - 1)) 74 46) - 1).toNat 2) J62)) dX12_goesOn_590 rfl L_102 (by decide) e66 rfl ?_
                    refine st_aload_n (pc' := 592) dX12_goesOn_591 rfl rfl (j := 0) rfl ?_
                    refine st_callV (pc' := 595) (kc := k - 1) (E' := LAY) (cal := m_X12_ahead) (n := 0) (as := []) (S := []) dX12_goesOn_592 rfl l_X12_308 k_X12_ahead rfl L_74 c_X12 rfl rfl (Nat.le_of_ble_eq_true rfl) (by omega) ⟨Nat.le_refl _, Nat.le_refl _, Nat.le_refl _, Nat.le_refl _⟩ h (fun r M' q => ?_)
                    obtain ⟨I68, J69, rfl, rfl, h⟩ := q
                    change WP _ LAY m_X12_goesOn 595 [(0, vR (some 74)), (1, vI x1), (2, vI x2), (3, vI x3)] [] (mem (P, some 5, some 22) I68 J69) Q
                    refine st_iconst (pc' := 596) dX12_goesOn_595 rfl ?_
                    exact st_iret (ty := .boolean) dX12_goesOn_596 rfl (by decide) rfl h
                · replace h := h.2 c
                  refine st_aload_n (pc' := 564) dX12_goesOn_563 rfl rfl (j := 0) rfl ?_
                  refine st_aload_n (pc' := 565) dX12_goesOn_564 rfl rfl (j := 0) rfl ?_
                  refine G_X12_146_74 dX12_goesOn_565 (pc' := 568) rfl rfl ?_
                  refine st_iload_n (pc' := 569) dX12_goesOn_568 rfl rfl (j := 1) rfl ?_
                  obtain ⟨e70, h⟩ := h
                  refine st_iaload (pc' := 570) (v := (gi I61 104 (x1).toNat)) dX12_goesOn_569 rfl L_104 (by decide) e70 (show gi (si (si I61 74 46 ((gi I61 74 46) - 1)) 74 47 ((gi I61 74 47) - 1)) 104 (x1).toNat = (gi I61 104 (x1).toNat) from ((gi_cell _ _ _ _ (by decide)).trans (gi_cell _ _ _ _ (by decide)))) ?_
                  refine st_iconst (pc' := 571) dX12_goesOn_570 rfl ?_
                  refine st_callV (pc' := 574) (kc := k - 1) (E' := LAY) (cal := m_X12_add) (n := 2) (as := [vI (gi I61 104 (x1).toNat), vI 0]) (S := []) dX12_goesOn_571 rfl l_X12_376 k_X12_add rfl L_74 c_X12 rfl rfl (Nat.le_of_ble_eq_true rfl) (by omega) ⟨Nat.le_refl _, Nat.le_refl _, Nat.le_refl _, Nat.le_refl _⟩ (Q1 := fun r M' => WP k LAY m_X12_goesOn 574 [(0, vR (some 74)), (1, vI x1), (2, vI x2), (3, vI x3)] (r.toList ++ []) M' Q) (WPm.of k_X12_add.1 (Nat.le_of_ble_eq_true rfl) (B_X12_add_0 (by omega) ?_)) (fun r M' q => q)
                  obtain ⟨e71, h⟩ := h
                  refine ⟨e71, ?_⟩
                  change WP _ LAY m_X12_goesOn 574 [(0, vR (some 74)), (1, vI x1), (2, vI x2), (3, vI x3)] [] (mem (P, some 5, some 22) (si (si (si (si (si I61 74 46 ((gi I61 74 46) - 1)) 74 47 ((gi I61 74 47) - 1)) 95 ((1600 * (gi (si (si I61 74 46 ((gi I61 74 46) - 1)) 74 47 ((gi I61 74 47) - 1)) 74 40)) + (gi (si (si I61 74 46 ((gi I61 74 46) - 1)) 74 47 ((gi I61 74 47) - 1)) 74 39)).toNat (gi I61 104 (x1).toNat)) 96 ((1600 * (gi (si (si I61 74 46 ((gi I61 74 46) - 1)) 74 47 ((gi I61 74 47) - 1)) 74 40)) + (gi (si (si I61 74 46 ((gi I61 74 46) - 1)) 74 47 ((gi I61 74 47) - 1)) 74 39)).toNat 0) 74 39 ((gi (si (si I61 74 46 ((gi I61 74 46) - 1)) 74 47 ((gi I61 74 47) - 1)) 74 39) + 1)) J62) Q
                  refine st_iload_n (pc' := 575) dX12_goesOn_574 rfl rfl (j := 2) rfl ?_
                  refine st_iconst (pc' := 576) dX12_goesOn_575 rfl ?_
                  refine st_icmp_ne (tg := 591) (pc' := 579) dX12_goesOn_576 (by decide) rfl e2 (by decide) (fun c => ?_) (fun c => ?_)
                  · replace h := h.1 c
                    refine st_aload_n (pc' := 592) dX12_goesOn_591 rfl rfl (j := 0) rfl ?_
                    refine st_callV (pc' := 595) (kc := k - 1) (E' := LAY) (cal := m_X12_ahead) (n := 0) (as := []) (S := []) dX12_goesOn_592 rfl l_X12_308 k_X12_ahead rfl L_74 c_X12 rfl rfl (Nat.le_of_ble_eq_true rfl) (by omega) ⟨Nat.le_refl _, Nat.le_refl _, Nat.le_refl _, Nat.le_refl _⟩ h (fun r M' q => ?_)
                    obtain ⟨I73, J74, rfl, rfl, h⟩ := q
                    change WP _ LAY m_X12_goesOn 595 [(0, vR (some 74)), (1, vI x1), (2, vI x2), (3, vI x3)] [] (mem (P, some 5, some 22) I73 J74) Q
                    refine st_iconst (pc' := 596) dX12_goesOn_595 rfl ?_
                    exact st_iret (ty := .boolean) dX12_goesOn_596 rfl (by decide) rfl h
                  · replace h := h.2 c
                    refine st_aload_n (pc' := 580) dX12_goesOn_579 rfl rfl (j := 0) rfl ?_
                    refine G_X12_139_74 dX12_goesOn_580 (pc' := 583) rfl rfl ?_
                    refine st_aload_n (pc' := 584) dX12_goesOn_583 rfl rfl (j := 0) rfl ?_
                    refine G_X12_152_74 dX12_goesOn_584 (pc' := 587) rfl rfl ?_
                    rw [show gi (si (si (si (si (si I61 74 46 ((gi I61 74 46) - 1)) 74 47 ((gi I61 74 47) - 1)) 95 ((1600 * (gi (si (si I61 74 46 ((gi I61 74 46) - 1)) 74 47 ((gi I61 74 47) - 1)) 74 40)) + (gi (si (si I61 74 46 ((gi I61 74 46) - 1)) 74 47 ((gi I61 74 47) - 1)) 74 39)).toNat (gi I61 104 (x1).toNat)) 96 ((1600 * (gi (si (si I61 74 46 ((gi I61 74 46) - 1)) 74 47 ((gi I61 74 47) - 1)) 74 40)) + (gi (si (si I61 74 46 ((gi I61 74 46) - 1)) 74 47 ((gi I61 74 47) - 1)) 74 39)).toNat 0) 74 39 ((gi (si (si I61 74 46 ((gi I61 74 46) - 1)) 74 47 ((gi I61 74 47) - 1)) 74 39) + 1)) 74 46 = (gi (si I61 74 46 ((gi I61 74 46) - 1)) 74 46) from ((gi_idx _ _ _ (by decide)).trans ((gi_cell _ _ _ _ (by decide)).trans ((gi_cell _ _ _ _ (by decide)).trans (gi_idx _ _ _ (by decide)))))]
                    refine st_iconst (pc' := 588) dX12_goesOn_587 rfl ?_
                    refine st_isub (pc' := 589) dX12_goesOn_588 rfl ?_
                    refine st_iconst (pc' := 590) dX12_goesOn_589 rfl ?_
                    obtain ⟨e75, h⟩ := h
                    refine st_iastore (pc' := 591) (M' := (mem (P, some 5, some 22) (si (si (si (si (si (si I61 74 46 ((gi I61 74 46) - 1)) 74 47 ((gi I61 74 47) - 1)) 95 ((1600 * (gi (si (si I61 74 46 ((gi I61 74 46) - 1)) 74 47 ((gi I61 74 47) - 1)) 74 40)) + (gi (si (si I61 74 46 ((gi I61 74 46) - 1)) 74 47 ((gi I61 74 47) - 1)) 74 39)).toNat (gi I61 104 (x1).toNat)) 96 ((1600 * (gi (si (si I61 74 46 ((gi I61 74 46) - 1)) 74 47 ((gi I61 74 47) - 1)) 74 40)) + (gi (si (si I61 74 46 ((gi I61 74 46) - 1)) 74 47 ((gi I61 74 47) - 1)) 74 39)).toNat 0) 74 39 ((gi (si (si I61 74 46 ((gi I61 74 46) - 1)) 74 47 ((gi I61 74 47) - 1)) 74 39) + 1)) 102 ((gi (si I61 74 46 ((gi I61 74 46) - 1)) 74 46) - 1).toNat 2) J62)) dX12_goesOn_590 rfl L_102 (by decide) e75 rfl ?_
                    refine st_aload_n (pc' := 592) dX12_goesOn_591 rfl rfl (j := 0) rfl ?_
                    refine st_callV (pc' := 595) (kc := k - 1) (E' := LAY) (cal := m_X12_ahead) (n := 0) (as := []) (S := []) dX12_goesOn_592 rfl l_X12_308 k_X12_ahead rfl L_74 c_X12 rfl rfl (Nat.le_of_ble_eq_true rfl) (by omega) ⟨Nat.le_refl _, Nat.le_refl _, Nat.le_refl _, Nat.le_refl _⟩ h (fun r M' q => ?_)
                    obtain ⟨I77, J78, rfl, rfl, h⟩ := q
                    change WP _ LAY m_X12_goesOn 595 [(0, vR (some 74)), (1, vI x1), (2, vI x2), (3, vI x3)] [] (mem (P, some 5, some 22) I77 J78) Q
                    refine st_iconst (pc' := 596) dX12_goesOn_595 rfl ?_
                    exact st_iret (ty := .boolean) dX12_goesOn_596 rfl (by decide) rfl h
              · replace h := h.2 c
                refine st_iconst (pc' := 532) dX12_goesOn_531 rfl ?_
                exact st_iret (ty := .boolean) dX12_goesOn_532 rfl (by decide) rfl h
      · replace h := h.2 c
        refine st_aload_n (pc' := 447) dX12_goesOn_446 rfl rfl (j := 0) rfl ?_
        refine st_bipush (pc' := 449) dX12_goesOn_447 rfl (by decide) ?_
        refine st_callV (pc' := 452) (kc := k - 1) (E' := LAY) (cal := m_X12_isSign) (n := 1) (as := [vI 44]) (S := []) dX12_goesOn_449 rfl l_X12_305 k_X12_isSign rfl L_74 c_X12 rfl rfl (Nat.le_of_ble_eq_true rfl) (by omega) ⟨Nat.le_refl _, Nat.le_refl _, Nat.le_refl _, Nat.le_refl _⟩ (Q1 := fun r M' => WP k LAY m_X12_goesOn 452 [(0, vR (some 74)), (1, vI x1), (2, vI x2), (3, vI x3)] (r.toList ++ []) M' Q) (S_X12_isSign (by omega) (by decide) ?_) (fun r M' q => q)
        change WP _ LAY m_X12_goesOn 452 [(0, vR (some 74)), (1, vI x1), (2, vI x2), (3, vI x3)] [vI (b2i (gi I 74 3 = 3 ∧ gi I 74 6 = 44))] (mem (P, some 5, some 22) I J) Q
        refine st_if_ne (tg := 464) (pc' := 455) dX12_goesOn_452 (by decide) rfl (b2i_in _) (fun c => ?_) (fun c => ?_)
        · replace h := h.1 (b2i_t.mp c)
          refine WP_sub (L' := [(0, vR (some 74)), (1, vI x1)]) [0, 1] rfl ?_
          exact h
        · replace h := h.2 (b2i_f.mp c)
          refine st_aload_n (pc' := 456) dX12_goesOn_455 rfl rfl (j := 0) rfl ?_
          refine st_iconst (pc' := 457) dX12_goesOn_456 rfl ?_
          refine st_aload_n (pc' := 458) dX12_goesOn_457 rfl rfl (j := 0) rfl ?_
          refine G_X12_23_74 dX12_goesOn_458 (pc' := 461) rfl rfl ?_
          refine st_callV (pc' := 464) (kc := k - 1) (E' := LAY) (cal := m_X12_blame) (n := 2) (as := [vI 1, vI (gi I 74 4)]) (S := []) dX12_goesOn_461 rfl l_X12_287 k_X12_blame rfl L_74 c_X12 rfl rfl (Nat.le_of_ble_eq_true rfl) (by omega) ⟨Nat.le_refl _, Nat.le_refl _, Nat.le_refl _, Nat.le_refl _⟩ (Q1 := fun r M' => WP k LAY m_X12_goesOn 464 [(0, vR (some 74)), (1, vI x1), (2, vI x2), (3, vI x3)] (r.toList ++ []) M' Q) (WPm.of k_X12_blame.1 (Nat.le_of_ble_eq_true rfl) (B_X12_blame_0 (by omega) ?_)) (fun r M' q => q)
          refine ⟨fun c => ?_, fun c => ?_⟩
          · replace h := h.1 c
            change WP _ LAY m_X12_goesOn 464 [(0, vR (some 74)), (1, vI x1), (2, vI x2), (3, vI x3)] [] (mem (P, some 5, some 22) (si (si I 74 8 1) 74 9 (gi I 74 4)) J) Q
            refine WP_sub (L' := [(0, vR (some 74)), (1, vI x1)]) [0, 1] rfl ?_
            exact h
          · replace h := h.2 c
            change WP _ LAY m_X12_goesOn 464 [(0, vR (some 74)), (1, vI x1), (2, vI x2), (3, vI x3)] [] (mem (P, some 5, some 22) I J) Q
            refine WP_sub (L' := [(0, vR (some 74)), (1, vI x1)]) [0, 1] rfl ?_
            exact h
    · replace h := h.2 c
      refine st_aload_n (pc' := 428) dX12_goesOn_427 rfl rfl (j := 0) rfl ?_
      refine G_X12_36_74 dX12_goesOn_428 (pc' := 431) rfl rfl ?_
      refine st_if_ne (tg := 439) (pc' := 434) dX12_goesOn_431 (by decide) rfl (gi_in _ _ _) (fun c => ?_) (fun c => ?_)
      · replace h := h.1 c
        refine WP_sub (L' := []) [] rfl ?_
        exact h
      · replace h := h.2 c
        refine st_aload_n (pc' := 435) dX12_goesOn_434 rfl rfl (j := 0) rfl ?_
        refine st_iconst (pc' := 436) dX12_goesOn_435 rfl ?_
        refine st_callV (pc' := 439) (kc := k - 1) (E' := LAY) (cal := m_X12_joins) (n := 1) (as := [vI 1]) (S := []) dX12_goesOn_436 rfl l_X12_394 k_X12_joins rfl L_74 c_X12 rfl rfl (Nat.le_of_ble_eq_true rfl) (by omega) ⟨Nat.le_refl _, Nat.le_refl _, Nat.le_refl _, Nat.le_refl _⟩ h (fun r M' q => ?_)
        obtain ⟨I80, J81, rfl, rfl, h⟩ := q
        change WP _ LAY m_X12_goesOn 439 [(0, vR (some 74)), (1, vI x1), (2, vI x2), (3, vI x3)] [] (mem (P, some 5, some 22) I80 J81) Q
        refine WP_sub (L' := []) [] rfl ?_
        exact h
  · replace h := h.2 c
    refine st_aload_n (pc' := 405) dX12_goesOn_404 rfl rfl (j := 0) rfl ?_
    refine G_X12_139_74 dX12_goesOn_405 (pc' := 408) rfl rfl ?_
    refine st_iload_n (pc' := 409) dX12_goesOn_408 rfl rfl (j := 1) rfl ?_
    obtain ⟨e82, h⟩ := h
    refine st_iaload (pc' := 410) (v := (gi I 102 (x1).toNat)) dX12_goesOn_409 rfl L_102 (by decide) e82 (show gi I 102 (x1).toNat = (gi I 102 (x1).toNat) from rfl) ?_
    refine st_if_ne (tg := 422) (pc' := 413) dX12_goesOn_410 (by decide) rfl (gi_in _ _ _) (fun c => ?_) (fun c => ?_)
    · replace h := h.1 c
      refine st_iload_n (pc' := 423) dX12_goesOn_422 rfl rfl (j := 2) rfl ?_
      refine st_iconst (pc' := 424) dX12_goesOn_423 rfl ?_
      obtain ⟨e83, h⟩ := h
      refine st_icmp_ge (tg := 441) (pc' := 427) dX12_goesOn_424 (by decide) rfl e83 (by decide) (fun c => ?_) (fun c => ?_)
      · replace h := h.1 c
        refine st_iload_n (pc' := 442) dX12_goesOn_441 rfl rfl (j := 2) rfl ?_
        refine st_iconst (pc' := 443) dX12_goesOn_442 rfl ?_
        refine st_icmp_ne (tg := 496) (pc' := 446) dX12_goesOn_443 (by decide) rfl e83 (by decide) (fun c => ?_) (fun c => ?_)
        · replace h := h.1 c
          refine st_aload_n (pc' := 497) dX12_goesOn_496 rfl rfl (j := 0) rfl ?_
          refine st_iload_n (pc' := 498) dX12_goesOn_497 rfl rfl (j := 2) rfl ?_
          refine st_iconst (pc' := 499) dX12_goesOn_498 rfl ?_
          refine st_icmp_ne (tg := 507) (pc' := 502) dX12_goesOn_499 (by decide) rfl e83 (by decide) (fun c => ?_) (fun c => ?_)
          · replace h := h.1 c
            refine st_bipush (pc' := 509) dX12_goesOn_507 rfl (by decide) ?_
            refine st_callV (pc' := 512) (kc := k - 1) (E' := LAY) (cal := m_X12_isSign) (n := 1) (as := [vI 41]) (S := []) dX12_goesOn_509 rfl l_X12_305 k_X12_isSign rfl L_74 c_X12 rfl rfl (Nat.le_of_ble_eq_true rfl) (by omega) ⟨Nat.le_refl _, Nat.le_refl _, Nat.le_refl _, Nat.le_refl _⟩ (Q1 := fun r M' => WP k LAY m_X12_goesOn 512 [(0, vR (some 74)), (1, vI x1), (2, vI x2), (3, vI x3)] (r.toList ++ []) M' Q) (S_X12_isSign (by omega) (by decide) ?_) (fun r M' q => q)
            change WP _ LAY m_X12_goesOn 512 [(0, vR (some 74)), (1, vI x1), (2, vI x2), (3, vI x3)] [vI (b2i (gi I 74 3 = 3 ∧ gi I 74 6 = 41))] (mem (P, some 5, some 22) I J) Q
            refine st_if_ne (tg := 524) (pc' := 515) dX12_goesOn_512 (by decide) rfl (b2i_in _) (fun c => ?_) (fun c => ?_)
            · replace h := h.1 (b2i_t.mp c)
              refine st_aload_n (pc' := 525) dX12_goesOn_524 rfl rfl (j := 0) rfl ?_
              refine G_X12_36_74 dX12_goesOn_525 (pc' := 528) rfl rfl ?_
              refine st_if_le (tg := 533) (pc' := 531) dX12_goesOn_528 (by decide) rfl (gi_in _ _ _) (fun c => ?_) (fun c => ?_)
              · replace h := h.1 c
                refine st_aload_n (pc' := 534) dX12_goesOn_533 rfl rfl (j := 0) rfl ?_
                refine st_iconst (pc' := 535) dX12_goesOn_534 rfl ?_
                refine st_callV (pc' := 538) (kc := k - 1) (E' := LAY) (cal := m_X12_joins) (n := 1) (as := [vI 1]) (S := []) dX12_goesOn_535 rfl l_X12_394 k_X12_joins rfl L_74 c_X12 rfl rfl (Nat.le_of_ble_eq_true rfl) (by omega) ⟨Nat.le_refl _, Nat.le_refl _, Nat.le_refl _, Nat.le_refl _⟩ h (fun r M' q => ?_)
                obtain ⟨I85, J86, rfl, rfl, h⟩ := q
                change WP _ LAY m_X12_goesOn 538 [(0, vR (some 74)), (1, vI x1), (2, vI x2), (3, vI x3)] [] (mem (P, some 5, some 22) I85 J86) Q
                refine st_aload_n (pc' := 539) dX12_goesOn_538 rfl rfl (j := 0) rfl ?_
                refine st_dup (pc' := 540) dX12_goesOn_539 rfl rfl ?_
                refine G_X12_152_74 dX12_goesOn_540 (pc' := 543) rfl rfl ?_
                refine st_iconst (pc' := 544) dX12_goesOn_543 rfl ?_
                refine st_isub (pc' := 545) dX12_goesOn_544 rfl ?_
                refine P_X12_152_74 dX12_goesOn_545 (pc' := 548) rfl rfl ?_
                refine st_aload_n (pc' := 549) dX12_goesOn_548 rfl rfl (j := 0) rfl ?_
                refine st_dup (pc' := 550) dX12_goesOn_549 rfl rfl ?_
                refine G_X12_155_74 dX12_goesOn_550 (pc' := 553) rfl rfl ?_
                rw [show gi (si I85 74 46 ((gi I85 74 46) - 1)) 74 47 = (gi I85 74 47) from (gi_idx _ _ _ (by decide))]
                refine st_iconst (pc' := 554) dX12_goesOn_553 rfl ?_
                refine st_isub (pc' := 555) dX12_goesOn_554 rfl ?_
                refine P_X12_155_74 dX12_goesOn_555 (pc' := 558) rfl rfl ?_
                refine st_iload_n (pc' := 559) dX12_goesOn_558 rfl rfl (j := 2) rfl ?_
                refine st_iconst (pc' := 560) dX12_goesOn_559 rfl ?_
                refine st_icmp_ne (tg := 574) (pc' := 563) dX12_goesOn_560 (by decide) rfl e83 (by decide) (fun c => ?_) (fun c => ?_)
                · replace h := h.1 c
                  refine st_iload_n (pc' := 575) dX12_goesOn_574 rfl rfl (j := 2) rfl ?_
                  refine st_iconst (pc' := 576) dX12_goesOn_575 rfl ?_
                  refine st_icmp_ne (tg := 591) (pc' := 579) dX12_goesOn_576 (by decide) rfl e83 (by decide) (fun c => ?_) (fun c => ?_)
                  · replace h := h.1 c
                    refine st_aload_n (pc' := 592) dX12_goesOn_591 rfl rfl (j := 0) rfl ?_
                    refine st_callV (pc' := 595) (kc := k - 1) (E' := LAY) (cal := m_X12_ahead) (n := 0) (as := []) (S := []) dX12_goesOn_592 rfl l_X12_308 k_X12_ahead rfl L_74 c_X12 rfl rfl (Nat.le_of_ble_eq_true rfl) (by omega) ⟨Nat.le_refl _, Nat.le_refl _, Nat.le_refl _, Nat.le_refl _⟩ h (fun r M' q => ?_)
                    obtain ⟨I88, J89, rfl, rfl, h⟩ := q
                    change WP _ LAY m_X12_goesOn 595 [(0, vR (some 74)), (1, vI x1), (2, vI x2), (3, vI x3)] [] (mem (P, some 5, some 22) I88 J89) Q
                    refine st_iconst (pc' := 596) dX12_goesOn_595 rfl ?_
                    exact st_iret (ty := .boolean) dX12_goesOn_596 rfl (by decide) rfl h
                  · replace h := h.2 c
                    refine st_aload_n (pc' := 580) dX12_goesOn_579 rfl rfl (j := 0) rfl ?_
                    refine G_X12_139_74 dX12_goesOn_580 (pc' := 583) rfl rfl ?_
                    refine st_aload_n (pc' := 584) dX12_goesOn_583 rfl rfl (j := 0) rfl ?_
                    refine G_X12_152_74 dX12_goesOn_584 (pc' := 587) rfl rfl ?_
                    rw [show gi (si (si I85 74 46 ((gi I85 74 46) - 1)) 74 47 ((gi I85 74 47) - 1)) 74 46 = (gi (si I85 74 46 ((gi I85 74 46) - 1)) 74 46) from (gi_idx _ _ _ (by decide))]
                    refine st_iconst (pc' := 588) dX12_goesOn_587 rfl ?_
                    refine st_isub (pc' := 589) dX12_goesOn_588 rfl ?_
                    refine st_iconst (pc' := 590) dX12_goesOn_589 rfl ?_
                    obtain ⟨e90, h⟩ := h
                    refine st_iastore (pc' := 591) (M' := (mem (P, some 5, some 22) (si (si (si I85 74 46 ((gi I85 74 46) - 1)) 74 47 ((gi I85 74 47) - 1)) 102 ((gi (si I85 74 46 ((gi I85 74 46) - 1)) 74 46) - 1).toNat 2) J86)) dX12_goesOn_590 rfl L_102 (by decide) e90 rfl ?_
                    refine st_aload_n (pc' := 592) dX12_goesOn_591 rfl rfl (j := 0) rfl ?_
                    refine st_callV (pc' := 595) (kc := k - 1) (E' := LAY) (cal := m_X12_ahead) (n := 0) (as := []) (S := []) dX12_goesOn_592 rfl l_X12_308 k_X12_ahead rfl L_74 c_X12 rfl rfl (Nat.le_of_ble_eq_true rfl) (by omega) ⟨Nat.le_refl _, Nat.le_refl _, Nat.le_refl _, Nat.le_refl _⟩ h (fun r M' q => ?_)
                    obtain ⟨I92, J93, rfl, rfl, h⟩ := q
                    change WP _ LAY m_X12_goesOn 595 [(0, vR (some 74)), (1, vI x1), (2, vI x2), (3, vI x3)] [] (mem (P, some 5, some 22) I92 J93) Q
                    refine st_iconst (pc' := 596) dX12_goesOn_595 rfl ?_
                    exact st_iret (ty := .boolean) dX12_goesOn_596 rfl (by decide) rfl h
                · replace h := h.2 c
                  refine st_aload_n (pc' := 564) dX12_goesOn_563 rfl rfl (j := 0) rfl ?_
                  refine st_aload_n (pc' := 565) dX12_goesOn_564 rfl rfl (j := 0) rfl ?_
                  refine G_X12_146_74 dX12_goesOn_565 (pc' := 568) rfl rfl ?_
                  refine st_iload_n (pc' := 569) dX12_goesOn_568 rfl rfl (j := 1) rfl ?_
                  refine st_iaload (pc' := 570) (v := (gi I85 104 (x1).toNat)) dX12_goesOn_569 rfl L_104 (by decide) e82 (show gi (si (si I85 74 46 ((gi I85 74 46) - 1)) 74 47 ((gi I85 74 47) - 1)) 104 (x1).toNat = (gi I85 104 (x1).toNat) from ((gi_cell _ _ _ _ (by decide)).trans (gi_cell _ _ _ _ (by decide)))) ?_
                  refine st_iconst (pc' := 571) dX12_goesOn_570 rfl ?_
                  refine st_callV (pc' := 574) (kc := k - 1) (E' := LAY) (cal := m_X12_add) (n := 2) (as := [vI (gi I85 104 (x1).toNat), vI 0]) (S := []) dX12_goesOn_571 rfl l_X12_376 k_X12_add rfl L_74 c_X12 rfl rfl (Nat.le_of_ble_eq_true rfl) (by omega) ⟨Nat.le_refl _, Nat.le_refl _, Nat.le_refl _, Nat.le_refl _⟩ (Q1 := fun r M' => WP k LAY m_X12_goesOn 574 [(0, vR (some 74)), (1, vI x1), (2, vI x2), (3, vI x3)] (r.toList ++ []) M' Q) (WPm.of k_X12_add.1 (Nat.le_of_ble_eq_true rfl) (B_X12_add_0 (by omega) ?_)) (fun r M' q => q)
                  obtain ⟨e94, h⟩ := h
                  refine ⟨e94, ?_⟩
                  change WP _ LAY m_X12_goesOn 574 [(0, vR (some 74)), (1, vI x1), (2, vI x2), (3, vI x3)] [] (mem (P, some 5, some 22) (si (si (si (si (si I85 74 46 ((gi I85 74 46) - 1)) 74 47 ((gi I85 74 47) - 1)) 95 ((1600 * (gi (si (si I85 74 46 ((gi I85 74 46) - 1)) 74 47 ((gi I85 74 47) - 1)) 74 40)) + (gi (si (si I85 74 46 ((gi I85 74 46) - 1)) 74 47 ((gi I85 74 47) - 1)) 74 39)).toNat (gi I85 104 (x1).toNat)) 96 ((1600 * (gi (si (si I85 74 46 ((gi I85 74 46) - 1)) 74 47 ((gi I85 74 47) - 1)) 74 40)) + (gi (si (si I85 74 46 ((gi I85 74 46) - 1)) 74 47 ((gi I85 74 47) - 1)) 74 39)).toNat 0) 74 39 ((gi (si (si I85 74 46 ((gi I85 74 46) - 1)) 74 47 ((gi I85 74 47) - 1)) 74 39) + 1)) J86) Q
                  refine st_iload_n (pc' := 575) dX12_goesOn_574 rfl rfl (j := 2) rfl ?_
                  refine st_iconst (pc' := 576) dX12_goesOn_575 rfl ?_
                  refine st_icmp_ne (tg := 591) (pc' := 579) dX12_goesOn_576 (by decide) rfl e83 (by decide) (fun c => ?_) (fun c => ?_)
                  · replace h := h.1 c
                    refine st_aload_n (pc' := 592) dX12_goesOn_591 rfl rfl (j := 0) rfl ?_
                    refine st_callV (pc' := 595) (kc := k - 1) (E' := LAY) (cal := m_X12_ahead) (n := 0) (as := []) (S := []) dX12_goesOn_592 rfl l_X12_308 k_X12_ahead rfl L_74 c_X12 rfl rfl (Nat.le_of_ble_eq_true rfl) (by omega) ⟨Nat.le_refl _, Nat.le_refl _, Nat.le_refl _, Nat.le_refl _⟩ h (fun r M' q => ?_)
                    obtain ⟨I96, J97, rfl, rfl, h⟩ := q
                    change WP _ LAY m_X12_goesOn 595 [(0, vR (some 74)), (1, vI x1), (2, vI x2), (3, vI x3)] [] (mem (P, some 5, some 22) I96 J97) Q
                    refine st_iconst (pc' := 596) dX12_goesOn_595 rfl ?_
                    exact st_iret (ty := .boolean) dX12_goesOn_596 rfl (by decide) rfl h
                  · replace h := h.2 c
                    refine st_aload_n (pc' := 580) dX12_goesOn_579 rfl rfl (j := 0) rfl ?_
                    refine G_X12_139_74 dX12_goesOn_580 (pc' := 583) rfl rfl ?_
                    refine st_aload_n (pc' := 584) dX12_goesOn_583 rfl rfl (j := 0) rfl ?_
                    refine G_X12_152_74 dX12_goesOn_584 (pc' := 587) rfl rfl ?_
                    rw [show gi (si (si (si (si (si I85 74 46 ((gi I85 74 46) - 1)) 74 47 ((gi I85 74 47) - 1)) 95 ((1600 * (gi (si (si I85 74 46 ((gi I85 74 46) - 1)) 74 47 ((gi I85 74 47) - 1)) 74 40)) + (gi (si (si I85 74 46 ((gi I85 74 46) - 1)) 74 47 ((gi I85 74 47) - 1)) 74 39)).toNat (gi I85 104 (x1).toNat)) 96 ((1600 * (gi (si (si I85 74 46 ((gi I85 74 46) - 1)) 74 47 ((gi I85 74 47) - 1)) 74 40)) + (gi (si (si I85 74 46 ((gi I85 74 46) - 1)) 74 47 ((gi I85 74 47) - 1)) 74 39)).toNat 0) 74 39 ((gi (si (si I85 74 46 ((gi I85 74 46) - 1)) 74 47 ((gi I85 74 47) - 1)) 74 39) + 1)) 74 46 = (gi (si I85 74 46 ((gi I85 74 46) - 1)) 74 46) from ((gi_idx _ _ _ (by decide)).trans ((gi_cell _ _ _ _ (by decide)).trans ((gi_cell _ _ _ _ (by decide)).trans (gi_idx _ _ _ (by decide)))))]
                    refine st_iconst (pc' := 588) dX12_goesOn_587 rfl ?_
                    refine st_isub (pc' := 589) dX12_goesOn_588 rfl ?_
                    refine st_iconst (pc' := 590) dX12_goesOn_589 rfl ?_
                    obtain ⟨e98, h⟩ := h
                    refine st_iastore (pc' := 591) (M' := (mem (P, some 5, some 22) (si (si (si (si (si (si I85 74 46 ((gi I85 74 46) - 1)) 74 47 ((gi I85 74 47) - 1)) 95 ((1600 * (gi (si (si I85 74 46 ((gi I85 74 46) - 1)) 74 47 ((gi I85 74 47) - 1)) 74 40)) + (gi (si (si I85 74 46 ((gi I85 74 46) - 1)) 74 47 ((gi I85 74 47) - 1)) 74 39)).toNat (gi I85 104 (x1).toNat)) 96 ((1600 * (gi (si (si I85 74 46 ((gi I85 74 46) - 1)) 74 47 ((gi I85 74 47) - 1)) 74 40)) + (gi (si (si I85 74 46 ((gi I85 74 46) - 1)) 74 47 ((gi I85 74 47) - 1)) 74 39)).toNat 0) 74 39 ((gi (si (si I85 74 46 ((gi I85 74 46) - 1)) 74 47 ((gi I85 74 47) - 1)) 74 39) + 1)) 102 ((gi (si I85 74 46 ((gi I85 74 46) - 1)) 74 46) - 1).toNat 2) J86)) dX12_goesOn_590 rfl L_102 (by decide) e98 rfl ?_
                    refine st_aload_n (pc' := 592) dX12_goesOn_591 rfl rfl (j := 0) rfl ?_
                    refine st_callV (pc' := 595) (kc := k - 1) (E' := LAY) (cal := m_X12_ahead) (n := 0) (as := []) (S := []) dX12_goesOn_592 rfl l_X12_308 k_X12_ahead rfl L_74 c_X12 rfl rfl (Nat.le_of_ble_eq_true rfl) (by omega) ⟨Nat.le_refl _, Nat.le_refl _, Nat.le_refl _, Nat.le_refl _⟩ h (fun r M' q => ?_)
                    obtain ⟨I100, J101, rfl, rfl, h⟩ := q
                    change WP _ LAY m_X12_goesOn 595 [(0, vR (some 74)), (1, vI x1), (2, vI x2), (3, vI x3)] [] (mem (P, some 5, some 22) I100 J101) Q
                    refine st_iconst (pc' := 596) dX12_goesOn_595 rfl ?_
                    exact st_iret (ty := .boolean) dX12_goesOn_596 rfl (by decide) rfl h
              · replace h := h.2 c
                refine st_iconst (pc' := 532) dX12_goesOn_531 rfl ?_
                exact st_iret (ty := .boolean) dX12_goesOn_532 rfl (by decide) rfl h
            · replace h := h.2 (b2i_f.mp c)
              refine st_aload_n (pc' := 516) dX12_goesOn_515 rfl rfl (j := 0) rfl ?_
              refine st_iconst (pc' := 517) dX12_goesOn_516 rfl ?_
              refine st_aload_n (pc' := 518) dX12_goesOn_517 rfl rfl (j := 0) rfl ?_
              refine G_X12_23_74 dX12_goesOn_518 (pc' := 521) rfl rfl ?_
              refine st_callV (pc' := 524) (kc := k - 1) (E' := LAY) (cal := m_X12_blame) (n := 2) (as := [vI 1, vI (gi I 74 4)]) (S := []) dX12_goesOn_521 rfl l_X12_287 k_X12_blame rfl L_74 c_X12 rfl rfl (Nat.le_of_ble_eq_true rfl) (by omega) ⟨Nat.le_refl _, Nat.le_refl _, Nat.le_refl _, Nat.le_refl _⟩ (Q1 := fun r M' => WP k LAY m_X12_goesOn 524 [(0, vR (some 74)), (1, vI x1), (2, vI x2), (3, vI x3)] (r.toList ++ []) M' Q) (WPm.of k_X12_blame.1 (Nat.le_of_ble_eq_true rfl) (B_X12_blame_0 (by omega) ?_)) (fun r M' q => q)
              refine ⟨fun c => ?_, fun c => ?_⟩
              · replace h := h.1 c
                change WP _ LAY m_X12_goesOn 524 [(0, vR (some 74)), (1, vI x1), (2, vI x2), (3, vI x3)] [] (mem (P, some 5, some 22) (si (si I 74 8 1) 74 9 (gi I 74 4)) J) Q
                refine st_aload_n (pc' := 525) dX12_goesOn_524 rfl rfl (j := 0) rfl ?_
                refine G_X12_36_74 dX12_goesOn_525 (pc' := 528) rfl rfl ?_
                rw [show gi (si (si I 74 8 1) 74 9 (gi I 74 4)) 74 8 = 1 from ((gi_idx _ _ _ (by decide)).trans (gi_same _ _ _ (by decide)))]
                refine st_if_le (tg := 533) (pc' := 531) dX12_goesOn_528 (by decide) rfl (by decide) (fun c => ?_) (fun c => ?_)
                · exact absurd c (by decide)
                · refine st_iconst (pc' := 532) dX12_goesOn_531 rfl ?_
                  exact st_iret (ty := .boolean) dX12_goesOn_532 rfl (by decide) rfl h
              · replace h := h.2 c
                change WP _ LAY m_X12_goesOn 524 [(0, vR (some 74)), (1, vI x1), (2, vI x2), (3, vI x3)] [] (mem (P, some 5, some 22) I J) Q
                refine st_aload_n (pc' := 525) dX12_goesOn_524 rfl rfl (j := 0) rfl ?_
                refine G_X12_36_74 dX12_goesOn_525 (pc' := 528) rfl rfl ?_
                refine st_if_le (tg := 533) (pc' := 531) dX12_goesOn_528 (by decide) rfl (gi_in _ _ _) (fun c => ?_) (fun c => ?_)
                · replace h := h.1 c
                  refine st_aload_n (pc' := 534) dX12_goesOn_533 rfl rfl (j := 0) rfl ?_
                  refine st_iconst (pc' := 535) dX12_goesOn_534 rfl ?_
                  refine st_callV (pc' := 538) (kc := k - 1) (E' := LAY) (cal := m_X12_joins) (n := 1) (as := [vI 1]) (S := []) dX12_goesOn_535 rfl l_X12_394 k_X12_joins rfl L_74 c_X12 rfl rfl (Nat.le_of_ble_eq_true rfl) (by omega) ⟨Nat.le_refl _, Nat.le_refl _, Nat.le_refl _, Nat.le_refl _⟩ h (fun r M' q => ?_)
                  obtain ⟨I103, J104, rfl, rfl, h⟩ := q
                  change WP _ LAY m_X12_goesOn 538 [(0, vR (some 74)), (1, vI x1), (2, vI x2), (3, vI x3)] [] (mem (P, some 5, some 22) I103 J104) Q
                  refine st_aload_n (pc' := 539) dX12_goesOn_538 rfl rfl (j := 0) rfl ?_
                  refine st_dup (pc' := 540) dX12_goesOn_539 rfl rfl ?_
                  refine G_X12_152_74 dX12_goesOn_540 (pc' := 543) rfl rfl ?_
                  refine st_iconst (pc' := 544) dX12_goesOn_543 rfl ?_
                  refine st_isub (pc' := 545) dX12_goesOn_544 rfl ?_
                  refine P_X12_152_74 dX12_goesOn_545 (pc' := 548) rfl rfl ?_
                  refine st_aload_n (pc' := 549) dX12_goesOn_548 rfl rfl (j := 0) rfl ?_
                  refine st_dup (pc' := 550) dX12_goesOn_549 rfl rfl ?_
                  refine G_X12_155_74 dX12_goesOn_550 (pc' := 553) rfl rfl ?_
                  rw [show gi (si I103 74 46 ((gi I103 74 46) - 1)) 74 47 = (gi I103 74 47) from (gi_idx _ _ _ (by decide))]
                  refine st_iconst (pc' := 554) dX12_goesOn_553 rfl ?_
                  refine st_isub (pc' := 555) dX12_goesOn_554 rfl ?_
                  refine P_X12_155_74 dX12_goesOn_555 (pc' := 558) rfl rfl ?_
                  refine st_iload_n (pc' := 559) dX12_goesOn_558 rfl rfl (j := 2) rfl ?_
                  refine st_iconst (pc' := 560) dX12_goesOn_559 rfl ?_
                  refine st_icmp_ne (tg := 574) (pc' := 563) dX12_goesOn_560 (by decide) rfl e83 (by decide) (fun c => ?_) (fun c => ?_)
                  · replace h := h.1 c
                    refine st_iload_n (pc' := 575) dX12_goesOn_574 rfl rfl (j := 2) rfl ?_
                    refine st_iconst (pc' := 576) dX12_goesOn_575 rfl ?_
                    refine st_icmp_ne (tg := 591) (pc' := 579) dX12_goesOn_576 (by decide) rfl e83 (by decide) (fun c => ?_) (fun c => ?_)
                    · replace h := h.1 c
                      refine st_aload_n (pc' := 592) dX12_goesOn_591 rfl rfl (j := 0) rfl ?_
                      refine st_callV (pc' := 595) (kc := k - 1) (E' := LAY) (cal := m_X12_ahead) (n := 0) (as := []) (S := []) dX12_goesOn_592 rfl l_X12_308 k_X12_ahead rfl L_74 c_X12 rfl rfl (Nat.le_of_ble_eq_true rfl) (by omega) ⟨Nat.le_refl _, Nat.le_refl _, Nat.le_refl _, Nat.le_refl _⟩ h (fun r M' q => ?_)
                      obtain ⟨I106, J107, rfl, rfl, h⟩ := q
                      change WP _ LAY m_X12_goesOn 595 [(0, vR (some 74)), (1, vI x1), (2, vI x2), (3, vI x3)] [] (mem (P, some 5, some 22) I106 J107) Q
                      refine st_iconst (pc' := 596) dX12_goesOn_595 rfl ?_
                      exact st_iret (ty := .boolean) dX12_goesOn_596 rfl (by decide) rfl h
                    · replace h := h.2 c
                      refine st_aload_n (pc' := 580) dX12_goesOn_579 rfl rfl (j := 0) rfl ?_
                      refine G_X12_139_74 dX12_goesOn_580 (pc' := 583) rfl rfl ?_
                      refine st_aload_n (pc' := 584) dX12_goesOn_583 rfl rfl (j := 0) rfl ?_
                      refine G_X12_152_74 dX12_goesOn_584 (pc' := 587) rfl rfl ?_
                      rw [show gi (si (si I103 74 46 ((gi I103 74 46) - 1)) 74 47 ((gi I103 74 47) - 1)) 74 46 = (gi (si I103 74 46 ((gi I103 74 46) - 1)) 74 46) from (gi_idx _ _ _ (by decide))]
                      refine st_iconst (pc' := 588) dX12_goesOn_587 rfl ?_
                      refine st_isub (pc' := 589) dX12_goesOn_588 rfl ?_
                      refine st_iconst (pc' := 590) dX12_goesOn_589 rfl ?_
                      obtain ⟨e108, h⟩ := h
                      refine st_iastore (pc' := 591) (M' := (mem (P, some 5, some 22) (si (si (si I103 74 46 ((gi I103 74 46) - 1)) 74 47 ((gi I103 74 47) - 1)) 102 ((gi (si I103 74 46 ((gi I103 74 46) - 1)) 74 46) - 1).toNat 2) J104)) dX12_goesOn_590 rfl L_102 (by decide) e108 rfl ?_
                      refine st_aload_n (pc' := 592) dX12_goesOn_591 rfl rfl (j := 0) rfl ?_
                      refine st_callV (pc' := 595) (kc := k - 1) (E' := LAY) (cal := m_X12_ahead) (n := 0) (as := []) (S := []) dX12_goesOn_592 rfl l_X12_308 k_X12_ahead rfl L_74 c_X12 rfl rfl (Nat.le_of_ble_eq_true rfl) (by omega) ⟨Nat.le_refl _, Nat.le_refl _, Nat.le_refl _, Nat.le_refl _⟩ h (fun r M' q => ?_)
                      obtain ⟨I110, J111, rfl, rfl, h⟩ := q
                      change WP _ LAY m_X12_goesOn 595 [(0, vR (some 74)), (1, vI x1), (2, vI x2), (3, vI x3)] [] (mem (P, some 5, some 22) I110 J111) Q
                      refine st_iconst (pc' := 596) dX12_goesOn_595 rfl ?_
                      exact st_iret (ty := .boolean) dX12_goesOn_596 rfl (by decide) rfl h
                  · replace h := h.2 c
                    refine st_aload_n (pc' := 564) dX12_goesOn_563 rfl rfl (j := 0) rfl ?_
                    refine st_aload_n (pc' := 565) dX12_goesOn_564 rfl rfl (j := 0) rfl ?_
                    refine G_X12_146_74 dX12_goesOn_565 (pc' := 568) rfl rfl ?_
                    refine st_iload_n (pc' := 569) dX12_goesOn_568 rfl rfl (j := 1) rfl ?_
                    refine st_iaload (pc' := 570) (v := (gi I103 104 (x1).toNat)) dX12_goesOn_569 rfl L_104 (by decide) e82 (show gi (si (si I103 74 46 ((gi I103 74 46) - 1)) 74 47 ((gi I103 74 47) - 1)) 104 (x1).toNat = (gi I103 104 (x1).toNat) from ((gi_cell _ _ _ _ (by decide)).trans (gi_cell _ _ _ _ (by decide)))) ?_
                    refine st_iconst (pc' := 571) dX12_goesOn_570 rfl ?_
                    refine st_callV (pc' := 574) (kc := k - 1) (E' := LAY) (cal := m_X12_add) (n := 2) (as := [vI (gi I103 104 (x1).toNat), vI 0]) (S := []) dX12_goesOn_571 rfl l_X12_376 k_X12_add rfl L_74 c_X12 rfl rfl (Nat.le_of_ble_eq_true rfl) (by omega) ⟨Nat.le_refl _, Nat.le_refl _, Nat.le_refl _, Nat.le_refl _⟩ (Q1 := fun r M' => WP k LAY m_X12_goesOn 574 [(0, vR (some 74)), (1, vI x1), (2, vI x2), (3, vI x3)] (r.toList ++ []) M' Q) (WPm.of k_X12_add.1 (Nat.le_of_ble_eq_true rfl) (B_X12_add_0 (by omega) ?_)) (fun r M' q => q)
                    obtain ⟨e112, h⟩ := h
                    refine ⟨e112, ?_⟩
                    change WP _ LAY m_X12_goesOn 574 [(0, vR (some 74)), (1, vI x1), (2, vI x2), (3, vI x3)] [] (mem (P, some 5, some 22) (si (si (si (si (si I103 74 46 ((gi I103 74 46) - 1)) 74 47 ((gi I103 74 47) - 1)) 95 ((1600 * (gi (si (si I103 74 46 ((gi I103 74 46) - 1)) 74 47 ((gi I103 74 47) - 1)) 74 40)) + (gi (si (si I103 74 46 ((gi I103 74 46) - 1)) 74 47 ((gi I103 74 47) - 1)) 74 39)).toNat (gi I103 104 (x1).toNat)) 96 ((1600 * (gi (si (si I103 74 46 ((gi I103 74 46) - 1)) 74 47 ((gi I103 74 47) - 1)) 74 40)) + (gi (si (si I103 74 46 ((gi I103 74 46) - 1)) 74 47 ((gi I103 74 47) - 1)) 74 39)).toNat 0) 74 39 ((gi (si (si I103 74 46 ((gi I103 74 46) - 1)) 74 47 ((gi I103 74 47) - 1)) 74 39) + 1)) J104) Q
                    refine st_iload_n (pc' := 575) dX12_goesOn_574 rfl rfl (j := 2) rfl ?_
                    refine st_iconst (pc' := 576) dX12_goesOn_575 rfl ?_
                    refine st_icmp_ne (tg := 591) (pc' := 579) dX12_goesOn_576 (by decide) rfl e83 (by decide) (fun c => ?_) (fun c => ?_)
                    · replace h := h.1 c
                      refine st_aload_n (pc' := 592) dX12_goesOn_591 rfl rfl (j := 0) rfl ?_
                      refine st_callV (pc' := 595) (kc := k - 1) (E' := LAY) (cal := m_X12_ahead) (n := 0) (as := []) (S := []) dX12_goesOn_592 rfl l_X12_308 k_X12_ahead rfl L_74 c_X12 rfl rfl (Nat.le_of_ble_eq_true rfl) (by omega) ⟨Nat.le_refl _, Nat.le_refl _, Nat.le_refl _, Nat.le_refl _⟩ h (fun r M' q => ?_)
                      obtain ⟨I114, J115, rfl, rfl, h⟩ := q
                      change WP _ LAY m_X12_goesOn 595 [(0, vR (some 74)), (1, vI x1), (2, vI x2), (3, vI x3)] [] (mem (P, some 5, some 22) I114 J115) Q
                      refine st_iconst (pc' := 596) dX12_goesOn_595 rfl ?_
                      exact st_iret (ty := .boolean) dX12_goesOn_596 rfl (by decide) rfl h
                    · replace h := h.2 c
                      refine st_aload_n (pc' := 580) dX12_goesOn_579 rfl rfl (j := 0) rfl ?_
                      refine G_X12_139_74 dX12_goesOn_580 (pc' := 583) rfl rfl ?_
                      refine st_aload_n (pc' := 584) dX12_goesOn_583 rfl rfl (j := 0) rfl ?_
                      refine G_X12_152_74 dX12_goesOn_584 (pc' := 587) rfl rfl ?_
                      rw [show gi (si (si (si (si (si I103 74 46 ((gi I103 74 46) - 1)) 74 47 ((gi I103 74 47) - 1)) 95 ((1600 * (gi (si (si I103 74 46 ((gi I103 74 46) - 1)) 74 47 ((gi I103 74 47) - 1)) 74 40)) + (gi (si (si I103 74 46 ((gi I103 74 46) - 1)) 74 47 ((gi I103 74 47) - 1)) 74 39)).toNat (gi I103 104 (x1).toNat)) 96 ((1600 * (gi (si (si I103 74 46 ((gi I103 74 46) - 1)) 74 47 ((gi I103 74 47) - 1)) 74 40)) + (gi (si (si I103 74 46 ((gi I103 74 46) - 1)) 74 47 ((gi I103 74 47) - 1)) 74 39)).toNat 0) 74 39 ((gi (si (si I103 74 46 ((gi I103 74 46) - 1)) 74 47 ((gi I103 74 47) - 1)) 74 39) + 1)) 74 46 = (gi (si I103 74 46 ((gi I103 74 46) - 1)) 74 46) from ((gi_idx _ _ _ (by decide)).trans ((gi_cell _ _ _ _ (by decide)).trans ((gi_cell _ _ _ _ (by decide)).trans (gi_idx _ _ _ (by decide)))))]
                      refine st_iconst (pc' := 588) dX12_goesOn_587 rfl ?_
                      refine st_isub (pc' := 589) dX12_goesOn_588 rfl ?_
                      refine st_iconst (pc' := 590) dX12_goesOn_589 rfl ?_
                      obtain ⟨e116, h⟩ := h
                      refine st_iastore (pc' := 591) (M' := (mem (P, some 5, some 22) (si (si (si (si (si (si I103 74 46 ((gi I103 74 46) - 1)) 74 47 ((gi I103 74 47) - 1)) 95 ((1600 * (gi (si (si I103 74 46 ((gi I103 74 46) - 1)) 74 47 ((gi I103 74 47) - 1)) 74 40)) + (gi (si (si I103 74 46 ((gi I103 74 46) - 1)) 74 47 ((gi I103 74 47) - 1)) 74 39)).toNat (gi I103 104 (x1).toNat)) 96 ((1600 * (gi (si (si I103 74 46 ((gi I103 74 46) - 1)) 74 47 ((gi I103 74 47) - 1)) 74 40)) + (gi (si (si I103 74 46 ((gi I103 74 46) - 1)) 74 47 ((gi I103 74 47) - 1)) 74 39)).toNat 0) 74 39 ((gi (si (si I103 74 46 ((gi I103 74 46) - 1)) 74 47 ((gi I103 74 47) - 1)) 74 39) + 1)) 102 ((gi (si I103 74 46 ((gi I103 74 46) - 1)) 74 46) - 1).toNat 2) J104)) dX12_goesOn_590 rfl L_102 (by decide) e116 rfl ?_
                      refine st_aload_n (pc' := 592) dX12_goesOn_591 rfl rfl (j := 0) rfl ?_
                      refine st_callV (pc' := 595) (kc := k - 1) (E' := LAY) (cal := m_X12_ahead) (n := 0) (as := []) (S := []) dX12_goesOn_592 rfl l_X12_308 k_X12_ahead rfl L_74 c_X12 rfl rfl (Nat.le_of_ble_eq_true rfl) (by omega) ⟨Nat.le_refl _, Nat.le_refl _, Nat.le_refl _, Nat.le_refl _⟩ h (fun r M' q => ?_)
                      obtain ⟨I118, J119, rfl, rfl, h⟩ := q
                      change WP _ LAY m_X12_goesOn 595 [(0, vR (some 74)), (1, vI x1), (2, vI x2), (3, vI x3)] [] (mem (P, some 5, some 22) I118 J119) Q
                      refine st_iconst (pc' := 596) dX12_goesOn_595 rfl ?_
                      exact st_iret (ty := .boolean) dX12_goesOn_596 rfl (by decide) rfl h
                · replace h := h.2 c
                  refine st_iconst (pc' := 532) dX12_goesOn_531 rfl ?_
                  exact st_iret (ty := .boolean) dX12_goesOn_532 rfl (by decide) rfl h
          · replace h := h.2 c
            refine st_bipush (pc' := 504) dX12_goesOn_502 rfl (by decide) ?_
            refine st_goto (pc' := 509) dX12_goesOn_504 (by decide) ?_
            refine st_callV (pc' := 512) (kc := k - 1) (E' := LAY) (cal := m_X12_isSign) (n := 1) (as := [vI 93]) (S := []) dX12_goesOn_509 rfl l_X12_305 k_X12_isSign rfl L_74 c_X12 rfl rfl (Nat.le_of_ble_eq_true rfl) (by omega) ⟨Nat.le_refl _, Nat.le_refl _, Nat.le_refl _, Nat.le_refl _⟩ (Q1 := fun r M' => WP k LAY m_X12_goesOn 512 [(0, vR (some 74)), (1, vI x1), (2, vI x2), (3, vI x3)] (r.toList ++ []) M' Q) (S_X12_isSign (by omega) (by decide) ?_) (fun r M' q => q)
            change WP _ LAY m_X12_goesOn 512 [(0, vR (some 74)), (1, vI x1), (2, vI x2), (3, vI x3)] [vI (b2i (gi I 74 3 = 3 ∧ gi I 74 6 = 93))] (mem (P, some 5, some 22) I J) Q
            refine st_if_ne (tg := 524) (pc' := 515) dX12_goesOn_512 (by decide) rfl (b2i_in _) (fun c => ?_) (fun c => ?_)
            · replace h := h.1 (b2i_t.mp c)
              refine st_aload_n (pc' := 525) dX12_goesOn_524 rfl rfl (j := 0) rfl ?_
              refine G_X12_36_74 dX12_goesOn_525 (pc' := 528) rfl rfl ?_
              refine st_if_le (tg := 533) (pc' := 531) dX12_goesOn_528 (by decide) rfl (gi_in _ _ _) (fun c => ?_) (fun c => ?_)
              · replace h := h.1 c
                refine st_aload_n (pc' := 534) dX12_goesOn_533 rfl rfl (j := 0) rfl ?_
                refine st_iconst (pc' := 535) dX12_goesOn_534 rfl ?_
                refine st_callV (pc' := 538) (kc := k - 1) (E' := LAY) (cal := m_X12_joins) (n := 1) (as := [vI 1]) (S := []) dX12_goesOn_535 rfl l_X12_394 k_X12_joins rfl L_74 c_X12 rfl rfl (Nat.le_of_ble_eq_true rfl) (by omega) ⟨Nat.le_refl _, Nat.le_refl _, Nat.le_refl _, Nat.le_refl _⟩ h (fun r M' q => ?_)
                obtain ⟨I121, J122, rfl, rfl, h⟩ := q
                change WP _ LAY m_X12_goesOn 538 [(0, vR (some 74)), (1, vI x1), (2, vI x2), (3, vI x3)] [] (mem (P, some 5, some 22) I121 J122) Q
                refine st_aload_n (pc' := 539) dX12_goesOn_538 rfl rfl (j := 0) rfl ?_
                refine st_dup (pc' := 540) dX12_goesOn_539 rfl rfl ?_
                refine G_X12_152_74 dX12_goesOn_540 (pc' := 543) rfl rfl ?_
                refine st_iconst (pc' := 544) dX12_goesOn_543 rfl ?_
                refine st_isub (pc' := 545) dX12_goesOn_544 rfl ?_
                refine P_X12_152_74 dX12_goesOn_545 (pc' := 548) rfl rfl ?_
                refine st_aload_n (pc' := 549) dX12_goesOn_548 rfl rfl (j := 0) rfl ?_
                refine st_dup (pc' := 550) dX12_goesOn_549 rfl rfl ?_
                refine G_X12_155_74 dX12_goesOn_550 (pc' := 553) rfl rfl ?_
                rw [show gi (si I121 74 46 ((gi I121 74 46) - 1)) 74 47 = (gi I121 74 47) from (gi_idx _ _ _ (by decide))]
                refine st_iconst (pc' := 554) dX12_goesOn_553 rfl ?_
                refine st_isub (pc' := 555) dX12_goesOn_554 rfl ?_
                refine P_X12_155_74 dX12_goesOn_555 (pc' := 558) rfl rfl ?_
                refine st_iload_n (pc' := 559) dX12_goesOn_558 rfl rfl (j := 2) rfl ?_
                refine st_iconst (pc' := 560) dX12_goesOn_559 rfl ?_
                refine st_icmp_ne (tg := 574) (pc' := 563) dX12_goesOn_560 (by decide) rfl e83 (by decide) (fun c => ?_) (fun c => ?_)
                · replace h := h.1 c
                  refine st_iload_n (pc' := 575) dX12_goesOn_574 rfl rfl (j := 2) rfl ?_
                  refine st_iconst (pc' := 576) dX12_goesOn_575 rfl ?_
                  refine st_icmp_ne (tg := 591) (pc' := 579) dX12_goesOn_576 (by decide) rfl e83 (by decide) (fun c => ?_) (fun c => ?_)
                  · replace h := h.1 c
                    refine st_aload_n (pc' := 592) dX12_goesOn_591 rfl rfl (j := 0) rfl ?_
                    refine st_callV (pc' := 595) (kc := k - 1) (E' := LAY) (cal := m_X12_ahead) (n := 0) (as := []) (S := []) dX12_goesOn_592 rfl l_X12_308 k_X12_ahead rfl L_74 c_X12 rfl rfl (Nat.le_of_ble_eq_true rfl) (by omega) ⟨Nat.le_refl _, Nat.le_refl _, Nat.le_refl _, Nat.le_refl _⟩ h (fun r M' q => ?_)
                    obtain ⟨I124, J125, rfl, rfl, h⟩ := q
                    change WP _ LAY m_X12_goesOn 595 [(0, vR (some 74)), (1, vI x1), (2, vI x2), (3, vI x3)] [] (mem (P, some 5, some 22) I124 J125) Q
                    refine st_iconst (pc' := 596) dX12_goesOn_595 rfl ?_
                    exact st_iret (ty := .boolean) dX12_goesOn_596 rfl (by decide) rfl h
                  · replace h := h.2 c
                    refine st_aload_n (pc' := 580) dX12_goesOn_579 rfl rfl (j := 0) rfl ?_
                    refine G_X12_139_74 dX12_goesOn_580 (pc' := 583) rfl rfl ?_
                    refine st_aload_n (pc' := 584) dX12_goesOn_583 rfl rfl (j := 0) rfl ?_
                    refine G_X12_152_74 dX12_goesOn_584 (pc' := 587) rfl rfl ?_
                    rw [show gi (si (si I121 74 46 ((gi I121 74 46) - 1)) 74 47 ((gi I121 74 47) - 1)) 74 46 = (gi (si I121 74 46 ((gi I121 74 46) - 1)) 74 46) from (gi_idx _ _ _ (by decide))]
                    refine st_iconst (pc' := 588) dX12_goesOn_587 rfl ?_
                    refine st_isub (pc' := 589) dX12_goesOn_588 rfl ?_
                    refine st_iconst (pc' := 590) dX12_goesOn_589 rfl ?_
                    obtain ⟨e126, h⟩ := h
                    refine st_iastore (pc' := 591) (M' := (mem (P, some 5, some 22) (si (si (si I121 74 46 ((gi I121 74 46) - 1)) 74 47 ((gi I121 74 47) - 1)) 102 ((gi (si I121 74 46 ((gi I121 74 46) - 1)) 74 46) - 1).toNat 2) J122)) dX12_goesOn_590 rfl L_102 (by decide) e126 rfl ?_
                    refine st_aload_n (pc' := 592) dX12_goesOn_591 rfl rfl (j := 0) rfl ?_
                    refine st_callV (pc' := 595) (kc := k - 1) (E' := LAY) (cal := m_X12_ahead) (n := 0) (as := []) (S := []) dX12_goesOn_592 rfl l_X12_308 k_X12_ahead rfl L_74 c_X12 rfl rfl (Nat.le_of_ble_eq_true rfl) (by omega) ⟨Nat.le_refl _, Nat.le_refl _, Nat.le_refl _, Nat.le_refl _⟩ h (fun r M' q => ?_)
                    obtain ⟨I128, J129, rfl, rfl, h⟩ := q
                    change WP _ LAY m_X12_goesOn 595 [(0, vR (some 74)), (1, vI x1), (2, vI x2), (3, vI x3)] [] (mem (P, some 5, some 22) I128 J129) Q
                    refine st_iconst (pc' := 596) dX12_goesOn_595 rfl ?_
                    exact st_iret (ty := .boolean) dX12_goesOn_596 rfl (by decide) rfl h
                · replace h := h.2 c
                  refine st_aload_n (pc' := 564) dX12_goesOn_563 rfl rfl (j := 0) rfl ?_
                  refine st_aload_n (pc' := 565) dX12_goesOn_564 rfl rfl (j := 0) rfl ?_
                  refine G_X12_146_74 dX12_goesOn_565 (pc' := 568) rfl rfl ?_
                  refine st_iload_n (pc' := 569) dX12_goesOn_568 rfl rfl (j := 1) rfl ?_
                  refine st_iaload (pc' := 570) (v := (gi I121 104 (x1).toNat)) dX12_goesOn_569 rfl L_104 (by decide) e82 (show gi (si (si I121 74 46 ((gi I121 74 46) - 1)) 74 47 ((gi I121 74 47) - 1)) 104 (x1).toNat = (gi I121 104 (x1).toNat) from ((gi_cell _ _ _ _ (by decide)).trans (gi_cell _ _ _ _ (by decide)))) ?_
                  refine st_iconst (pc' := 571) dX12_goesOn_570 rfl ?_
                  refine st_callV (pc' := 574) (kc := k - 1) (E' := LAY) (cal := m_X12_add) (n := 2) (as := [vI (gi I121 104 (x1).toNat), vI 0]) (S := []) dX12_goesOn_571 rfl l_X12_376 k_X12_add rfl L_74 c_X12 rfl rfl (Nat.le_of_ble_eq_true rfl) (by omega) ⟨Nat.le_refl _, Nat.le_refl _, Nat.le_refl _, Nat.le_refl _⟩ (Q1 := fun r M' => WP k LAY m_X12_goesOn 574 [(0, vR (some 74)), (1, vI x1), (2, vI x2), (3, vI x3)] (r.toList ++ []) M' Q) (WPm.of k_X12_add.1 (Nat.le_of_ble_eq_true rfl) (B_X12_add_0 (by omega) ?_)) (fun r M' q => q)
                  obtain ⟨e130, h⟩ := h
                  refine ⟨e130, ?_⟩
                  change WP _ LAY m_X12_goesOn 574 [(0, vR (some 74)), (1, vI x1), (2, vI x2), (3, vI x3)] [] (mem (P, some 5, some 22) (si (si (si (si (si I121 74 46 ((gi I121 74 46) - 1)) 74 47 ((gi I121 74 47) - 1)) 95 ((1600 * (gi (si (si I121 74 46 ((gi I121 74 46) - 1)) 74 47 ((gi I121 74 47) - 1)) 74 40)) + (gi (si (si I121 74 46 ((gi I121 74 46) - 1)) 74 47 ((gi I121 74 47) - 1)) 74 39)).toNat (gi I121 104 (x1).toNat)) 96 ((1600 * (gi (si (si I121 74 46 ((gi I121 74 46) - 1)) 74 47 ((gi I121 74 47) - 1)) 74 40)) + (gi (si (si I121 74 46 ((gi I121 74 46) - 1)) 74 47 ((gi I121 74 47) - 1)) 74 39)).toNat 0) 74 39 ((gi (si (si I121 74 46 ((gi I121 74 46) - 1)) 74 47 ((gi I121 74 47) - 1)) 74 39) + 1)) J122) Q
                  refine st_iload_n (pc' := 575) dX12_goesOn_574 rfl rfl (j := 2) rfl ?_
                  refine st_iconst (pc' := 576) dX12_goesOn_575 rfl ?_
                  refine st_icmp_ne (tg := 591) (pc' := 579) dX12_goesOn_576 (by decide) rfl e83 (by decide) (fun c => ?_) (fun c => ?_)
                  · replace h := h.1 c
                    refine st_aload_n (pc' := 592) dX12_goesOn_591 rfl rfl (j := 0) rfl ?_
                    refine st_callV (pc' := 595) (kc := k - 1) (E' := LAY) (cal := m_X12_ahead) (n := 0) (as := []) (S := []) dX12_goesOn_592 rfl l_X12_308 k_X12_ahead rfl L_74 c_X12 rfl rfl (Nat.le_of_ble_eq_true rfl) (by omega) ⟨Nat.le_refl _, Nat.le_refl _, Nat.le_refl _, Nat.le_refl _⟩ h (fun r M' q => ?_)
                    obtain ⟨I132, J133, rfl, rfl, h⟩ := q
                    change WP _ LAY m_X12_goesOn 595 [(0, vR (some 74)), (1, vI x1), (2, vI x2), (3, vI x3)] [] (mem (P, some 5, some 22) I132 J133) Q
                    refine st_iconst (pc' := 596) dX12_goesOn_595 rfl ?_
                    exact st_iret (ty := .boolean) dX12_goesOn_596 rfl (by decide) rfl h
                  · replace h := h.2 c
                    refine st_aload_n (pc' := 580) dX12_goesOn_579 rfl rfl (j := 0) rfl ?_
                    refine G_X12_139_74 dX12_goesOn_580 (pc' := 583) rfl rfl ?_
                    refine st_aload_n (pc' := 584) dX12_goesOn_583 rfl rfl (j := 0) rfl ?_
                    refine G_X12_152_74 dX12_goesOn_584 (pc' := 587) rfl rfl ?_
                    rw [show gi (si (si (si (si (si I121 74 46 ((gi I121 74 46) - 1)) 74 47 ((gi I121 74 47) - 1)) 95 ((1600 * (gi (si (si I121 74 46 ((gi I121 74 46) - 1)) 74 47 ((gi I121 74 47) - 1)) 74 40)) + (gi (si (si I121 74 46 ((gi I121 74 46) - 1)) 74 47 ((gi I121 74 47) - 1)) 74 39)).toNat (gi I121 104 (x1).toNat)) 96 ((1600 * (gi (si (si I121 74 46 ((gi I121 74 46) - 1)) 74 47 ((gi I121 74 47) - 1)) 74 40)) + (gi (si (si I121 74 46 ((gi I121 74 46) - 1)) 74 47 ((gi I121 74 47) - 1)) 74 39)).toNat 0) 74 39 ((gi (si (si I121 74 46 ((gi I121 74 46) - 1)) 74 47 ((gi I121 74 47) - 1)) 74 39) + 1)) 74 46 = (gi (si I121 74 46 ((gi I121 74 46) - 1)) 74 46) from ((gi_idx _ _ _ (by decide)).trans ((gi_cell _ _ _ _ (by decide)).trans ((gi_cell _ _ _ _ (by decide)).trans (gi_idx _ _ _ (by decide)))))]
                    refine st_iconst (pc' := 588) dX12_goesOn_587 rfl ?_
                    refine st_isub (pc' := 589) dX12_goesOn_588 rfl ?_
                    refine st_iconst (pc' := 590) dX12_goesOn_589 rfl ?_
                    obtain ⟨e134, h⟩ := h
                    refine st_iastore (pc' := 591) (M' := (mem (P, some 5, some 22) (si (si (si (si (si (si I121 74 46 ((gi I121 74 46) - 1)) 74 47 ((gi I121 74 47) - 1)) 95 ((1600 * (gi (si (si I121 74 46 ((gi I121 74 46) - 1)) 74 47 ((gi I121 74 47) - 1)) 74 40)) + (gi (si (si I121 74 46 ((gi I121 74 46) - 1)) 74 47 ((gi I121 74 47) - 1)) 74 39)).toNat (gi I121 104 (x1).toNat)) 96 ((1600 * (gi (si (si I121 74 46 ((gi I121 74 46) - 1)) 74 47 ((gi I121 74 47) - 1)) 74 40)) + (gi (si (si I121 74 46 ((gi I121 74 46) - 1)) 74 47 ((gi I121 74 47) - 1)) 74 39)).toNat 0) 74 39 ((gi (si (si I121 74 46 ((gi I121 74 46) - 1)) 74 47 ((gi I121 74 47) - 1)) 74 39) + 1)) 102 ((gi (si I121 74 46 ((gi I121 74 46) - 1)) 74 46) - 1).toNat 2) J122)) dX12_goesOn_590 rfl L_102 (by decide) e134 rfl ?_
                    refine st_aload_n (pc' := 592) dX12_goesOn_591 rfl rfl (j := 0) rfl ?_
                    refine st_callV (pc' := 595) (kc := k - 1) (E' := LAY) (cal := m_X12_ahead) (n := 0) (as := []) (S := []) dX12_goesOn_592 rfl l_X12_308 k_X12_ahead rfl L_74 c_X12 rfl rfl (Nat.le_of_ble_eq_true rfl) (by omega) ⟨Nat.le_refl _, Nat.le_refl _, Nat.le_refl _, Nat.le_refl _⟩ h (fun r M' q => ?_)
                    obtain ⟨I136, J137, rfl, rfl, h⟩ := q
                    change WP _ LAY m_X12_goesOn 595 [(0, vR (some 74)), (1, vI x1), (2, vI x2), (3, vI x3)] [] (mem (P, some 5, some 22) I136 J137) Q
                    refine st_iconst (pc' := 596) dX12_goesOn_595 rfl ?_
                    exact st_iret (ty := .boolean) dX12_goesOn_596 rfl (by decide) rfl h
              · replace h := h.2 c
                refine st_iconst (pc' := 532) dX12_goesOn_531 rfl ?_
                exact st_iret (ty := .boolean) dX12_goesOn_532 rfl (by decide) rfl h
            · replace h := h.2 (b2i_f.mp c)
              refine st_aload_n (pc' := 516) dX12_goesOn_515 rfl rfl (j := 0) rfl ?_
              refine st_iconst (pc' := 517) dX12_goesOn_516 rfl ?_
              refine st_aload_n (pc' := 518) dX12_goesOn_517 rfl rfl (j := 0) rfl ?_
              refine G_X12_23_74 dX12_goesOn_518 (pc' := 521) rfl rfl ?_
              refine st_callV (pc' := 524) (kc := k - 1) (E' := LAY) (cal := m_X12_blame) (n := 2) (as := [vI 1, vI (gi I 74 4)]) (S := []) dX12_goesOn_521 rfl l_X12_287 k_X12_blame rfl L_74 c_X12 rfl rfl (Nat.le_of_ble_eq_true rfl) (by omega) ⟨Nat.le_refl _, Nat.le_refl _, Nat.le_refl _, Nat.le_refl _⟩ (Q1 := fun r M' => WP k LAY m_X12_goesOn 524 [(0, vR (some 74)), (1, vI x1), (2, vI x2), (3, vI x3)] (r.toList ++ []) M' Q) (WPm.of k_X12_blame.1 (Nat.le_of_ble_eq_true rfl) (B_X12_blame_0 (by omega) ?_)) (fun r M' q => q)
              refine ⟨fun c => ?_, fun c => ?_⟩
              · replace h := h.1 c
                change WP _ LAY m_X12_goesOn 524 [(0, vR (some 74)), (1, vI x1), (2, vI x2), (3, vI x3)] [] (mem (P, some 5, some 22) (si (si I 74 8 1) 74 9 (gi I 74 4)) J) Q
                refine st_aload_n (pc' := 525) dX12_goesOn_524 rfl rfl (j := 0) rfl ?_
                refine G_X12_36_74 dX12_goesOn_525 (pc' := 528) rfl rfl ?_
                rw [show gi (si (si I 74 8 1) 74 9 (gi I 74 4)) 74 8 = 1 from ((gi_idx _ _ _ (by decide)).trans (gi_same _ _ _ (by decide)))]
                refine st_if_le (tg := 533) (pc' := 531) dX12_goesOn_528 (by decide) rfl (by decide) (fun c => ?_) (fun c => ?_)
                · exact absurd c (by decide)
                · refine st_iconst (pc' := 532) dX12_goesOn_531 rfl ?_
                  exact st_iret (ty := .boolean) dX12_goesOn_532 rfl (by decide) rfl h
              · replace h := h.2 c
                change WP _ LAY m_X12_goesOn 524 [(0, vR (some 74)), (1, vI x1), (2, vI x2), (3, vI x3)] [] (mem (P, some 5, some 22) I J) Q
                refine st_aload_n (pc' := 525) dX12_goesOn_524 rfl rfl (j := 0) rfl ?_
                refine G_X12_36_74 dX12_goesOn_525 (pc' := 528) rfl rfl ?_
                refine st_if_le (tg := 533) (pc' := 531) dX12_goesOn_528 (by decide) rfl (gi_in _ _ _) (fun c => ?_) (fun c => ?_)
                · replace h := h.1 c
                  refine st_aload_n (pc' := 534) dX12_goesOn_533 rfl rfl (j := 0) rfl ?_
                  refine st_iconst (pc' := 535) dX12_goesOn_534 rfl ?_
                  refine st_callV (pc' := 538) (kc := k - 1) (E' := LAY) (cal := m_X12_joins) (n := 1) (as := [vI 1]) (S := []) dX12_goesOn_535 rfl l_X12_394 k_X12_joins rfl L_74 c_X12 rfl rfl (Nat.le_of_ble_eq_true rfl) (by omega) ⟨Nat.le_refl _, Nat.le_refl _, Nat.le_refl _, Nat.le_refl _⟩ h (fun r M' q => ?_)
                  obtain ⟨I139, J140, rfl, rfl, h⟩ := q
                  change WP _ LAY m_X12_goesOn 538 [(0, vR (some 74)), (1, vI x1), (2, vI x2), (3, vI x3)] [] (mem (P, some 5, some 22) I139 J140) Q
                  refine st_aload_n (pc' := 539) dX12_goesOn_538 rfl rfl (j := 0) rfl ?_
                  refine st_dup (pc' := 540) dX12_goesOn_539 rfl rfl ?_
                  refine G_X12_152_74 dX12_goesOn_540 (pc' := 543) rfl rfl ?_
                  refine st_iconst (pc' := 544) dX12_goesOn_543 rfl ?_
                  refine st_isub (pc' := 545) dX12_goesOn_544 rfl ?_
                  refine P_X12_152_74 dX12_goesOn_545 (pc' := 548) rfl rfl ?_
                  refine st_aload_n (pc' := 549) dX12_goesOn_548 rfl rfl (j := 0) rfl ?_
                  refine st_dup (pc' := 550) dX12_goesOn_549 rfl rfl ?_
                  refine G_X12_155_74 dX12_goesOn_550 (pc' := 553) rfl rfl ?_
                  rw [show gi (si I139 74 46 ((gi I139 74 46) - 1)) 74 47 = (gi I139 74 47) from (gi_idx _ _ _ (by decide))]
                  refine st_iconst (pc' := 554) dX12_goesOn_553 rfl ?_
                  refine st_isub (pc' := 555) dX12_goesOn_554 rfl ?_
                  refine P_X12_155_74 dX12_goesOn_555 (pc' := 558) rfl rfl ?_
                  refine st_iload_n (pc' := 559) dX12_goesOn_558 rfl rfl (j := 2) rfl ?_
                  refine st_iconst (pc' := 560) dX12_goesOn_559 rfl ?_
                  refine st_icmp_ne (tg := 574) (pc' := 563) dX12_goesOn_560 (by decide) rfl e83 (by decide) (fun c => ?_) (fun c => ?_)
                  · replace h := h.1 c
                    refine st_iload_n (pc' := 575) dX12_goesOn_574 rfl rfl (j := 2) rfl ?_
                    refine st_iconst (pc' := 576) dX12_goesOn_575 rfl ?_
                    refine st_icmp_ne (tg := 591) (pc' := 579) dX12_goesOn_576 (by decide) rfl e83 (by decide) (fun c => ?_) (fun c => ?_)
                    · replace h := h.1 c
                      refine st_aload_n (pc' := 592) dX12_goesOn_591 rfl rfl (j := 0) rfl ?_
                      refine st_callV (pc' := 595) (kc := k - 1) (E' := LAY) (cal := m_X12_ahead) (n := 0) (as := []) (S := []) dX12_goesOn_592 rfl l_X12_308 k_X12_ahead rfl L_74 c_X12 rfl rfl (Nat.le_of_ble_eq_true rfl) (by omega) ⟨Nat.le_refl _, Nat.le_refl _, Nat.le_refl _, Nat.le_refl _⟩ h (fun r M' q => ?_)
                      obtain ⟨I142, J143, rfl, rfl, h⟩ := q
                      change WP _ LAY m_X12_goesOn 595 [(0, vR (some 74)), (1, vI x1), (2, vI x2), (3, vI x3)] [] (mem (P, some 5, some 22) I142 J143) Q
                      refine st_iconst (pc' := 596) dX12_goesOn_595 rfl ?_
                      exact st_iret (ty := .boolean) dX12_goesOn_596 rfl (by decide) rfl h
                    · replace h := h.2 c
                      refine st_aload_n (pc' := 580) dX12_goesOn_579 rfl rfl (j := 0) rfl ?_
                      refine G_X12_139_74 dX12_goesOn_580 (pc' := 583) rfl rfl ?_
                      refine st_aload_n (pc' := 584) dX12_goesOn_583 rfl rfl (j := 0) rfl ?_
                      refine G_X12_152_74 dX12_goesOn_584 (pc' := 587) rfl rfl ?_
                      rw [show gi (si (si I139 74 46 ((gi I139 74 46) - 1)) 74 47 ((gi I139 74 47) - 1)) 74 46 = (gi (si I139 74 46 ((gi I139 74 46) - 1)) 74 46) from (gi_idx _ _ _ (by decide))]
                      refine st_iconst (pc' := 588) dX12_goesOn_587 rfl ?_
                      refine st_isub (pc' := 589) dX12_goesOn_588 rfl ?_
                      refine st_iconst (pc' := 590) dX12_goesOn_589 rfl ?_
                      obtain ⟨e144, h⟩ := h
                      refine st_iastore (pc' := 591) (M' := (mem (P, some 5, some 22) (si (si (si I139 74 46 ((gi I139 74 46) - 1)) 74 47 ((gi I139 74 47) - 1)) 102 ((gi (si I139 74 46 ((gi I139 74 46) - 1)) 74 46) - 1).toNat 2) J140)) dX12_goesOn_590 rfl L_102 (by decide) e144 rfl ?_
                      refine st_aload_n (pc' := 592) dX12_goesOn_591 rfl rfl (j := 0) rfl ?_
                      refine st_callV (pc' := 595) (kc := k - 1) (E' := LAY) (cal := m_X12_ahead) (n := 0) (as := []) (S := []) dX12_goesOn_592 rfl l_X12_308 k_X12_ahead rfl L_74 c_X12 rfl rfl (Nat.le_of_ble_eq_true rfl) (by omega) ⟨Nat.le_refl _, Nat.le_refl _, Nat.le_refl _, Nat.le_refl _⟩ h (fun r M' q => ?_)
                      obtain ⟨I146, J147, rfl, rfl, h⟩ := q
                      change WP _ LAY m_X12_goesOn 595 [(0, vR (some 74)), (1, vI x1), (2, vI x2), (3, vI x3)] [] (mem (P, some 5, some 22) I146 J147) Q
                      refine st_iconst (pc' := 596) dX12_goesOn_595 rfl ?_
                      exact st_iret (ty := .boolean) dX12_goesOn_596 rfl (by decide) rfl h
                  · replace h := h.2 c
                    refine st_aload_n (pc' := 564) dX12_goesOn_563 rfl rfl (j := 0) rfl ?_
                    refine st_aload_n (pc' := 565) dX12_goesOn_564 rfl rfl (j := 0) rfl ?_
                    refine G_X12_146_74 dX12_goesOn_565 (pc' := 568) rfl rfl ?_
                    refine st_iload_n (pc' := 569) dX12_goesOn_568 rfl rfl (j := 1) rfl ?_
                    refine st_iaload (pc' := 570) (v := (gi I139 104 (x1).toNat)) dX12_goesOn_569 rfl L_104 (by decide) e82 (show gi (si (si I139 74 46 ((gi I139 74 46) - 1)) 74 47 ((gi I139 74 47) - 1)) 104 (x1).toNat = (gi I139 104 (x1).toNat) from ((gi_cell _ _ _ _ (by decide)).trans (gi_cell _ _ _ _ (by decide)))) ?_
                    refine st_iconst (pc' := 571) dX12_goesOn_570 rfl ?_
                    refine st_callV (pc' := 574) (kc := k - 1) (E' := LAY) (cal := m_X12_add) (n := 2) (as := [vI (gi I139 104 (x1).toNat), vI 0]) (S := []) dX12_goesOn_571 rfl l_X12_376 k_X12_add rfl L_74 c_X12 rfl rfl (Nat.le_of_ble_eq_true rfl) (by omega) ⟨Nat.le_refl _, Nat.le_refl _, Nat.le_refl _, Nat.le_refl _⟩ (Q1 := fun r M' => WP k LAY m_X12_goesOn 574 [(0, vR (some 74)), (1, vI x1), (2, vI x2), (3, vI x3)] (r.toList ++ []) M' Q) (WPm.of k_X12_add.1 (Nat.le_of_ble_eq_true rfl) (B_X12_add_0 (by omega) ?_)) (fun r M' q => q)
                    obtain ⟨e148, h⟩ := h
                    refine ⟨e148, ?_⟩
                    change WP _ LAY m_X12_goesOn 574 [(0, vR (some 74)), (1, vI x1), (2, vI x2), (3, vI x3)] [] (mem (P, some 5, some 22) (si (si (si (si (si I139 74 46 ((gi I139 74 46) - 1)) 74 47 ((gi I139 74 47) - 1)) 95 ((1600 * (gi (si (si I139 74 46 ((gi I139 74 46) - 1)) 74 47 ((gi I139 74 47) - 1)) 74 40)) + (gi (si (si I139 74 46 ((gi I139 74 46) - 1)) 74 47 ((gi I139 74 47) - 1)) 74 39)).toNat (gi I139 104 (x1).toNat)) 96 ((1600 * (gi (si (si I139 74 46 ((gi I139 74 46) - 1)) 74 47 ((gi I139 74 47) - 1)) 74 40)) + (gi (si (si I139 74 46 ((gi I139 74 46) - 1)) 74 47 ((gi I139 74 47) - 1)) 74 39)).toNat 0) 74 39 ((gi (si (si I139 74 46 ((gi I139 74 46) - 1)) 74 47 ((gi I139 74 47) - 1)) 74 39) + 1)) J140) Q
                    refine st_iload_n (pc' := 575) dX12_goesOn_574 rfl rfl (j := 2) rfl ?_
                    refine st_iconst (pc' := 576) dX12_goesOn_575 rfl ?_
                    refine st_icmp_ne (tg := 591) (pc' := 579) dX12_goesOn_576 (by decide) rfl e83 (by decide) (fun c => ?_) (fun c => ?_)
                    · replace h := h.1 c
                      refine st_aload_n (pc' := 592) dX12_goesOn_591 rfl rfl (j := 0) rfl ?_
                      refine st_callV (pc' := 595) (kc := k - 1) (E' := LAY) (cal := m_X12_ahead) (n := 0) (as := []) (S := []) dX12_goesOn_592 rfl l_X12_308 k_X12_ahead rfl L_74 c_X12 rfl rfl (Nat.le_of_ble_eq_true rfl) (by omega) ⟨Nat.le_refl _, Nat.le_refl _, Nat.le_refl _, Nat.le_refl _⟩ h (fun r M' q => ?_)
                      obtain ⟨I150, J151, rfl, rfl, h⟩ := q
                      change WP _ LAY m_X12_goesOn 595 [(0, vR (some 74)), (1, vI x1), (2, vI x2), (3, vI x3)] [] (mem (P, some 5, some 22) I150 J151) Q
                      refine st_iconst (pc' := 596) dX12_goesOn_595 rfl ?_
                      exact st_iret (ty := .boolean) dX12_goesOn_596 rfl (by decide) rfl h
                    · replace h := h.2 c
                      refine st_aload_n (pc' := 580) dX12_goesOn_579 rfl rfl (j := 0) rfl ?_
                      refine G_X12_139_74 dX12_goesOn_580 (pc' := 583) rfl rfl ?_
                      refine st_aload_n (pc' := 584) dX12_goesOn_583 rfl rfl (j := 0) rfl ?_
                      refine G_X12_152_74 dX12_goesOn_584 (pc' := 587) rfl rfl ?_
                      rw [show gi (si (si (si (si (si I139 74 46 ((gi I139 74 46) - 1)) 74 47 ((gi I139 74 47) - 1)) 95 ((1600 * (gi (si (si I139 74 46 ((gi I139 74 46) - 1)) 74 47 ((gi I139 74 47) - 1)) 74 40)) + (gi (si (si I139 74 46 ((gi I139 74 46) - 1)) 74 47 ((gi I139 74 47) - 1)) 74 39)).toNat (gi I139 104 (x1).toNat)) 96 ((1600 * (gi (si (si I139 74 46 ((gi I139 74 46) - 1)) 74 47 ((gi I139 74 47) - 1)) 74 40)) + (gi (si (si I139 74 46 ((gi I139 74 46) - 1)) 74 47 ((gi I139 74 47) - 1)) 74 39)).toNat 0) 74 39 ((gi (si (si I139 74 46 ((gi I139 74 46) - 1)) 74 47 ((gi I139 74 47) - 1)) 74 39) + 1)) 74 46 = (gi (si I139 74 46 ((gi I139 74 46) - 1)) 74 46) from ((gi_idx _ _ _ (by decide)).trans ((gi_cell _ _ _ _ (by decide)).trans ((gi_cell _ _ _ _ (by decide)).trans (gi_idx _ _ _ (by decide)))))]
                      refine st_iconst (pc' := 588) dX12_goesOn_587 rfl ?_
                      refine st_isub (pc' := 589) dX12_goesOn_588 rfl ?_
                      refine st_iconst (pc' := 590) dX12_goesOn_589 rfl ?_
                      obtain ⟨e152, h⟩ := h
                      refine st_iastore (pc' := 591) (M' := (mem (P, some 5, some 22) (si (si (si (si (si (si I139 74 46 ((gi I139 74 46) - 1)) 74 47 ((gi I139 74 47) - 1)) 95 ((1600 * (gi (si (si I139 74 46 ((gi I139 74 46) - 1)) 74 47 ((gi I139 74 47) - 1)) 74 40)) + (gi (si (si I139 74 46 ((gi I139 74 46) - 1)) 74 47 ((gi I139 74 47) - 1)) 74 39)).toNat (gi I139 104 (x1).toNat)) 96 ((1600 * (gi (si (si I139 74 46 ((gi I139 74 46) - 1)) 74 47 ((gi I139 74 47) - 1)) 74 40)) + (gi (si (si I139 74 46 ((gi I139 74 46) - 1)) 74 47 ((gi I139 74 47) - 1)) 74 39)).toNat 0) 74 39 ((gi (si (si I139 74 46 ((gi I139 74 46) - 1)) 74 47 ((gi I139 74 47) - 1)) 74 39) + 1)) 102 ((gi (si I139 74 46 ((gi I139 74 46) - 1)) 74 46) - 1).toNat 2) J140)) dX12_goesOn_590 rfl L_102 (by decide) e152 rfl ?_
                      refine st_aload_n (pc' := 592) dX12_goesOn_591 rfl rfl (j := 0) rfl ?_
                      refine st_callV (pc' := 595) (kc := k - 1) (E' := LAY) (cal := m_X12_ahead) (n := 0) (as := []) (S := []) dX12_goesOn_592 rfl l_X12_308 k_X12_ahead rfl L_74 c_X12 rfl rfl (Nat.le_of_ble_eq_true rfl) (by omega) ⟨Nat.le_refl _, Nat.le_refl _, Nat.le_refl _, Nat.le_refl _⟩ h (fun r M' q => ?_)
                      obtain ⟨I154, J155, rfl, rfl, h⟩ := q
                      change WP _ LAY m_X12_goesOn 595 [(0, vR (some 74)), (1, vI x1), (2, vI x2), (3, vI x3)] [] (mem (P, some 5, some 22) I154 J155) Q
                      refine st_iconst (pc' := 596) dX12_goesOn_595 rfl ?_
                      exact st_iret (ty := .boolean) dX12_goesOn_596 rfl (by decide) rfl h
                · replace h := h.2 c
                  refine st_iconst (pc' := 532) dX12_goesOn_531 rfl ?_
                  exact st_iret (ty := .boolean) dX12_goesOn_532 rfl (by decide) rfl h
        · replace h := h.2 c
          refine st_aload_n (pc' := 447) dX12_goesOn_446 rfl rfl (j := 0) rfl ?_
          refine st_bipush (pc' := 449) dX12_goesOn_447 rfl (by decide) ?_
          refine st_callV (pc' := 452) (kc := k - 1) (E' := LAY) (cal := m_X12_isSign) (n := 1) (as := [vI 44]) (S := []) dX12_goesOn_449 rfl l_X12_305 k_X12_isSign rfl L_74 c_X12 rfl rfl (Nat.le_of_ble_eq_true rfl) (by omega) ⟨Nat.le_refl _, Nat.le_refl _, Nat.le_refl _, Nat.le_refl _⟩ (Q1 := fun r M' => WP k LAY m_X12_goesOn 452 [(0, vR (some 74)), (1, vI x1), (2, vI x2), (3, vI x3)] (r.toList ++ []) M' Q) (S_X12_isSign (by omega) (by decide) ?_) (fun r M' q => q)
          change WP _ LAY m_X12_goesOn 452 [(0, vR (some 74)), (1, vI x1), (2, vI x2), (3, vI x3)] [vI (b2i (gi I 74 3 = 3 ∧ gi I 74 6 = 44))] (mem (P, some 5, some 22) I J) Q
          refine st_if_ne (tg := 464) (pc' := 455) dX12_goesOn_452 (by decide) rfl (b2i_in _) (fun c => ?_) (fun c => ?_)
          · replace h := h.1 (b2i_t.mp c)
            refine WP_sub (L' := [(0, vR (some 74)), (1, vI x1)]) [0, 1] rfl ?_
            exact h
          · replace h := h.2 (b2i_f.mp c)
            refine st_aload_n (pc' := 456) dX12_goesOn_455 rfl rfl (j := 0) rfl ?_
            refine st_iconst (pc' := 457) dX12_goesOn_456 rfl ?_
            refine st_aload_n (pc' := 458) dX12_goesOn_457 rfl rfl (j := 0) rfl ?_
            refine G_X12_23_74 dX12_goesOn_458 (pc' := 461) rfl rfl ?_
            refine st_callV (pc' := 464) (kc := k - 1) (E' := LAY) (cal := m_X12_blame) (n := 2) (as := [vI 1, vI (gi I 74 4)]) (S := []) dX12_goesOn_461 rfl l_X12_287 k_X12_blame rfl L_74 c_X12 rfl rfl (Nat.le_of_ble_eq_true rfl) (by omega) ⟨Nat.le_refl _, Nat.le_refl _, Nat.le_refl _, Nat.le_refl _⟩ (Q1 := fun r M' => WP k LAY m_X12_goesOn 464 [(0, vR (some 74)), (1, vI x1), (2, vI x2), (3, vI x3)] (r.toList ++ []) M' Q) (WPm.of k_X12_blame.1 (Nat.le_of_ble_eq_true rfl) (B_X12_blame_0 (by omega) ?_)) (fun r M' q => q)
            refine ⟨fun c => ?_, fun c => ?_⟩
            · replace h := h.1 c
              change WP _ LAY m_X12_goesOn 464 [(0, vR (some 74)), (1, vI x1), (2, vI x2), (3, vI x3)] [] (mem (P, some 5, some 22) (si (si I 74 8 1) 74 9 (gi I 74 4)) J) Q
              refine WP_sub (L' := [(0, vR (some 74)), (1, vI x1)]) [0, 1] rfl ?_
              exact h
            · replace h := h.2 c
              change WP _ LAY m_X12_goesOn 464 [(0, vR (some 74)), (1, vI x1), (2, vI x2), (3, vI x3)] [] (mem (P, some 5, some 22) I J) Q
              refine WP_sub (L' := [(0, vR (some 74)), (1, vI x1)]) [0, 1] rfl ?_
              exact h
      · replace h := h.2 c
        refine st_aload_n (pc' := 428) dX12_goesOn_427 rfl rfl (j := 0) rfl ?_
        refine G_X12_36_74 dX12_goesOn_428 (pc' := 431) rfl rfl ?_
        refine st_if_ne (tg := 439) (pc' := 434) dX12_goesOn_431 (by decide) rfl (gi_in _ _ _) (fun c => ?_) (fun c => ?_)
        · replace h := h.1 c
          refine WP_sub (L' := []) [] rfl ?_
          exact h
        · replace h := h.2 c
          refine st_aload_n (pc' := 435) dX12_goesOn_434 rfl rfl (j := 0) rfl ?_
          refine st_iconst (pc' := 436) dX12_goesOn_435 rfl ?_
          refine st_callV (pc' := 439) (kc := k - 1) (E' := LAY) (cal := m_X12_joins) (n := 1) (as := [vI 1]) (S := []) dX12_goesOn_436 rfl l_X12_394 k_X12_joins rfl L_74 c_X12 rfl rfl (Nat.le_of_ble_eq_true rfl) (by omega) ⟨Nat.le_refl _, Nat.le_refl _, Nat.le_refl _, Nat.le_refl _⟩ h (fun r M' q => ?_)
          obtain ⟨I157, J158, rfl, rfl, h⟩ := q
          change WP _ LAY m_X12_goesOn 439 [(0, vR (some 74)), (1, vI x1), (2, vI x2), (3, vI x3)] [] (mem (P, some 5, some 22) I157 J158) Q
          refine WP_sub (L' := []) [] rfl ?_
          exact h
    · replace h := h.2 c
      refine st_aload_n (pc' := 414) dX12_goesOn_413 rfl rfl (j := 0) rfl ?_
      refine st_iconst (pc' := 415) dX12_goesOn_414 rfl ?_
      refine st_aload_n (pc' := 416) dX12_goesOn_415 rfl rfl (j := 0) rfl ?_
      refine G_X12_23_74 dX12_goesOn_416 (pc' := 419) rfl rfl ?_
      refine st_callV (pc' := 422) (kc := k - 1) (E' := LAY) (cal := m_X12_blame) (n := 2) (as := [vI 1, vI (gi I 74 4)]) (S := []) dX12_goesOn_419 rfl l_X12_287 k_X12_blame rfl L_74 c_X12 rfl rfl (Nat.le_of_ble_eq_true rfl) (by omega) ⟨Nat.le_refl _, Nat.le_refl _, Nat.le_refl _, Nat.le_refl _⟩ (Q1 := fun r M' => WP k LAY m_X12_goesOn 422 [(0, vR (some 74)), (1, vI x1), (2, vI x2), (3, vI x3)] (r.toList ++ []) M' Q) (WPm.of k_X12_blame.1 (Nat.le_of_ble_eq_true rfl) (B_X12_blame_0 (by omega) ?_)) (fun r M' q => q)
      refine ⟨fun c => ?_, fun c => ?_⟩
      · replace h := h.1 c
        change WP _ LAY m_X12_goesOn 422 [(0, vR (some 74)), (1, vI x1), (2, vI x2), (3, vI x3)] [] (mem (P, some 5, some 22) (si (si I 74 8 1) 74 9 (gi I 74 4)) J) Q
        refine st_iload_n (pc' := 423) dX12_goesOn_422 rfl rfl (j := 2) rfl ?_
        refine st_iconst (pc' := 424) dX12_goesOn_423 rfl ?_
        obtain ⟨e159, h⟩ := h
        refine st_icmp_ge (tg := 441) (pc' := 427) dX12_goesOn_424 (by decide) rfl e159 (by decide) (fun c => ?_) (fun c => ?_)
        · replace h := h.1 c
          refine st_iload_n (pc' := 442) dX12_goesOn_441 rfl rfl (j := 2) rfl ?_
          refine st_iconst (pc' := 443) dX12_goesOn_442 rfl ?_
          refine st_icmp_ne (tg := 496) (pc' := 446) dX12_goesOn_443 (by decide) rfl e159 (by decide) (fun c => ?_) (fun c => ?_)
          · replace h := h.1 c
            refine st_aload_n (pc' := 497) dX12_goesOn_496 rfl rfl (j := 0) rfl ?_
            refine st_iload_n (pc' := 498) dX12_goesOn_497 rfl rfl (j := 2) rfl ?_
            refine st_iconst (pc' := 499) dX12_goesOn_498 rfl ?_
            refine st_icmp_ne (tg := 507) (pc' := 502) dX12_goesOn_499 (by decide) rfl e159 (by decide) (fun c => ?_) (fun c => ?_)
            · replace h := h.1 c
              refine st_bipush (pc' := 509) dX12_goesOn_507 rfl (by decide) ?_
              refine st_callV (pc' := 512) (kc := k - 1) (E' := LAY) (cal := m_X12_isSign) (n := 1) (as := [vI 41]) (S := []) dX12_goesOn_509 rfl l_X12_305 k_X12_isSign rfl L_74 c_X12 rfl rfl (Nat.le_of_ble_eq_true rfl) (by omega) ⟨Nat.le_refl _, Nat.le_refl _, Nat.le_refl _, Nat.le_refl _⟩ (Q1 := fun r M' => WP k LAY m_X12_goesOn 512 [(0, vR (some 74)), (1, vI x1), (2, vI x2), (3, vI x3)] (r.toList ++ []) M' Q) (S_X12_isSign (by omega) (by decide) ?_) (fun r M' q => q)
              change WP _ LAY m_X12_goesOn 512 [(0, vR (some 74)), (1, vI x1), (2, vI x2), (3, vI x3)] [vI (b2i (gi (si (si I 74 8 1) 74 9 (gi I 74 4)) 74 3 = 3 ∧ gi (si (si I 74 8 1) 74 9 (gi I 74 4)) 74 6 = 41))] (mem (P, some 5, some 22) (si (si I 74 8 1) 74 9 (gi I 74 4)) J) Q
              refine st_if_ne (tg := 524) (pc' := 515) dX12_goesOn_512 (by decide) rfl (b2i_in _) (fun c => ?_) (fun c => ?_)
              · replace h := h.1 (b2i_t.mp c)
                refine st_aload_n (pc' := 525) dX12_goesOn_524 rfl rfl (j := 0) rfl ?_
                refine G_X12_36_74 dX12_goesOn_525 (pc' := 528) rfl rfl ?_
                rw [show gi (si (si I 74 8 1) 74 9 (gi I 74 4)) 74 8 = 1 from ((gi_idx _ _ _ (by decide)).trans (gi_same _ _ _ (by decide)))]
                refine st_if_le (tg := 533) (pc' := 531) dX12_goesOn_528 (by decide) rfl (by decide) (fun c => ?_) (fun c => ?_)
                · exact absurd c (by decide)
                · refine st_iconst (pc' := 532) dX12_goesOn_531 rfl ?_
                  exact st_iret (ty := .boolean) dX12_goesOn_532 rfl (by decide) rfl h
              · replace h := h.2 (b2i_f.mp c)
                refine st_aload_n (pc' := 516) dX12_goesOn_515 rfl rfl (j := 0) rfl ?_
                refine st_iconst (pc' := 517) dX12_goesOn_516 rfl ?_
                refine st_aload_n (pc' := 518) dX12_goesOn_517 rfl rfl (j := 0) rfl ?_
                refine G_X12_23_74 dX12_goesOn_518 (pc' := 521) rfl rfl ?_
                rw [show gi (si (si I 74 8 1) 74 9 (gi I 74 4)) 74 4 = (gi I 74 4) from ((gi_idx _ _ _ (by decide)).trans (gi_idx _ _ _ (by decide)))]
                refine st_callV (pc' := 524) (kc := k - 1) (E' := LAY) (cal := m_X12_blame) (n := 2) (as := [vI 1, vI (gi I 74 4)]) (S := []) dX12_goesOn_521 rfl l_X12_287 k_X12_blame rfl L_74 c_X12 rfl rfl (Nat.le_of_ble_eq_true rfl) (by omega) ⟨Nat.le_refl _, Nat.le_refl _, Nat.le_refl _, Nat.le_refl _⟩ (Q1 := fun r M' => WP k LAY m_X12_goesOn 524 [(0, vR (some 74)), (1, vI x1), (2, vI x2), (3, vI x3)] (r.toList ++ []) M' Q) (WPm.of k_X12_blame.1 (Nat.le_of_ble_eq_true rfl) (B_X12_blame_0 (by omega) ?_)) (fun r M' q => q)
                refine ⟨fun c => ?_, fun c => ?_⟩
                · replace h := h.1 c
                  change WP _ LAY m_X12_goesOn 524 [(0, vR (some 74)), (1, vI x1), (2, vI x2), (3, vI x3)] [] (mem (P, some 5, some 22) (si (si (si (si I 74 8 1) 74 9 (gi I 74 4)) 74 8 1) 74 9 (gi I 74 4)) J) Q
                  refine st_aload_n (pc' := 525) dX12_goesOn_524 rfl rfl (j := 0) rfl ?_
                  refine G_X12_36_74 dX12_goesOn_525 (pc' := 528) rfl rfl ?_
                  rw [show gi (si (si (si (si I 74 8 1) 74 9 (gi I 74 4)) 74 8 1) 74 9 (gi I 74 4)) 74 8 = 1 from ((gi_idx _ _ _ (by decide)).trans (gi_same _ _ _ (by decide)))]
                  refine st_if_le (tg := 533) (pc' := 531) dX12_goesOn_528 (by decide) rfl (by decide) (fun c => ?_) (fun c => ?_)
                  · exact absurd c (by decide)
                  · refine st_iconst (pc' := 532) dX12_goesOn_531 rfl ?_
                    exact st_iret (ty := .boolean) dX12_goesOn_532 rfl (by decide) rfl h
                · replace h := h.2 c
                  change WP _ LAY m_X12_goesOn 524 [(0, vR (some 74)), (1, vI x1), (2, vI x2), (3, vI x3)] [] (mem (P, some 5, some 22) (si (si I 74 8 1) 74 9 (gi I 74 4)) J) Q
                  refine st_aload_n (pc' := 525) dX12_goesOn_524 rfl rfl (j := 0) rfl ?_
                  refine G_X12_36_74 dX12_goesOn_525 (pc' := 528) rfl rfl ?_
                  rw [show gi (si (si I 74 8 1) 74 9 (gi I 74 4)) 74 8 = 1 from ((gi_idx _ _ _ (by decide)).trans (gi_same _ _ _ (by decide)))]
                  refine st_if_le (tg := 533) (pc' := 531) dX12_goesOn_528 (by decide) rfl (by decide) (fun c => ?_) (fun c => ?_)
                  · exact absurd c (by decide)
                  · refine st_iconst (pc' := 532) dX12_goesOn_531 rfl ?_
                    exact st_iret (ty := .boolean) dX12_goesOn_532 rfl (by decide) rfl h
            · replace h := h.2 c
              refine st_bipush (pc' := 504) dX12_goesOn_502 rfl (by decide) ?_
              refine st_goto (pc' := 509) dX12_goesOn_504 (by decide) ?_
              refine st_callV (pc' := 512) (kc := k - 1) (E' := LAY) (cal := m_X12_isSign) (n := 1) (as := [vI 93]) (S := []) dX12_goesOn_509 rfl l_X12_305 k_X12_isSign rfl L_74 c_X12 rfl rfl (Nat.le_of_ble_eq_true rfl) (by omega) ⟨Nat.le_refl _, Nat.le_refl _, Nat.le_refl _, Nat.le_refl _⟩ (Q1 := fun r M' => WP k LAY m_X12_goesOn 512 [(0, vR (some 74)), (1, vI x1), (2, vI x2), (3, vI x3)] (r.toList ++ []) M' Q) (S_X12_isSign (by omega) (by decide) ?_) (fun r M' q => q)
              change WP _ LAY m_X12_goesOn 512 [(0, vR (some 74)), (1, vI x1), (2, vI x2), (3, vI x3)] [vI (b2i (gi (si (si I 74 8 1) 74 9 (gi I 74 4)) 74 3 = 3 ∧ gi (si (si I 74 8 1) 74 9 (gi I 74 4)) 74 6 = 93))] (mem (P, some 5, some 22) (si (si I 74 8 1) 74 9 (gi I 74 4)) J) Q
              refine st_if_ne (tg := 524) (pc' := 515) dX12_goesOn_512 (by decide) rfl (b2i_in _) (fun c => ?_) (fun c => ?_)
              · replace h := h.1 (b2i_t.mp c)
                refine st_aload_n (pc' := 525) dX12_goesOn_524 rfl rfl (j := 0) rfl ?_
                refine G_X12_36_74 dX12_goesOn_525 (pc' := 528) rfl rfl ?_
                rw [show gi (si (si I 74 8 1) 74 9 (gi I 74 4)) 74 8 = 1 from ((gi_idx _ _ _ (by decide)).trans (gi_same _ _ _ (by decide)))]
                refine st_if_le (tg := 533) (pc' := 531) dX12_goesOn_528 (by decide) rfl (by decide) (fun c => ?_) (fun c => ?_)
                · exact absurd c (by decide)
                · refine st_iconst (pc' := 532) dX12_goesOn_531 rfl ?_
                  exact st_iret (ty := .boolean) dX12_goesOn_532 rfl (by decide) rfl h
              · replace h := h.2 (b2i_f.mp c)
                refine st_aload_n (pc' := 516) dX12_goesOn_515 rfl rfl (j := 0) rfl ?_
                refine st_iconst (pc' := 517) dX12_goesOn_516 rfl ?_
                refine st_aload_n (pc' := 518) dX12_goesOn_517 rfl rfl (j := 0) rfl ?_
                refine G_X12_23_74 dX12_goesOn_518 (pc' := 521) rfl rfl ?_
                rw [show gi (si (si I 74 8 1) 74 9 (gi I 74 4)) 74 4 = (gi I 74 4) from ((gi_idx _ _ _ (by decide)).trans (gi_idx _ _ _ (by decide)))]
                refine st_callV (pc' := 524) (kc := k - 1) (E' := LAY) (cal := m_X12_blame) (n := 2) (as := [vI 1, vI (gi I 74 4)]) (S := []) dX12_goesOn_521 rfl l_X12_287 k_X12_blame rfl L_74 c_X12 rfl rfl (Nat.le_of_ble_eq_true rfl) (by omega) ⟨Nat.le_refl _, Nat.le_refl _, Nat.le_refl _, Nat.le_refl _⟩ (Q1 := fun r M' => WP k LAY m_X12_goesOn 524 [(0, vR (some 74)), (1, vI x1), (2, vI x2), (3, vI x3)] (r.toList ++ []) M' Q) (WPm.of k_X12_blame.1 (Nat.le_of_ble_eq_true rfl) (B_X12_blame_0 (by omega) ?_)) (fun r M' q => q)
                refine ⟨fun c => ?_, fun c => ?_⟩
                · replace h := h.1 c
                  change WP _ LAY m_X12_goesOn 524 [(0, vR (some 74)), (1, vI x1), (2, vI x2), (3, vI x3)] [] (mem (P, some 5, some 22) (si (si (si (si I 74 8 1) 74 9 (gi I 74 4)) 74 8 1) 74 9 (gi I 74 4)) J) Q
                  refine st_aload_n (pc' := 525) dX12_goesOn_524 rfl rfl (j := 0) rfl ?_
                  refine G_X12_36_74 dX12_goesOn_525 (pc' := 528) rfl rfl ?_
                  rw [show gi (si (si (si (si I 74 8 1) 74 9 (gi I 74 4)) 74 8 1) 74 9 (gi I 74 4)) 74 8 = 1 from ((gi_idx _ _ _ (by decide)).trans (gi_same _ _ _ (by decide)))]
                  refine st_if_le (tg := 533) (pc' := 531) dX12_goesOn_528 (by decide) rfl (by decide) (fun c => ?_) (fun c => ?_)
                  · exact absurd c (by decide)
                  · refine st_iconst (pc' := 532) dX12_goesOn_531 rfl ?_
                    exact st_iret (ty := .boolean) dX12_goesOn_532 rfl (by decide) rfl h
                · replace h := h.2 c
                  change WP _ LAY m_X12_goesOn 524 [(0, vR (some 74)), (1, vI x1), (2, vI x2), (3, vI x3)] [] (mem (P, some 5, some 22) (si (si I 74 8 1) 74 9 (gi I 74 4)) J) Q
                  refine st_aload_n (pc' := 525) dX12_goesOn_524 rfl rfl (j := 0) rfl ?_
                  refine G_X12_36_74 dX12_goesOn_525 (pc' := 528) rfl rfl ?_
                  rw [show gi (si (si I 74 8 1) 74 9 (gi I 74 4)) 74 8 = 1 from ((gi_idx _ _ _ (by decide)).trans (gi_same _ _ _ (by decide)))]
                  refine st_if_le (tg := 533) (pc' := 531) dX12_goesOn_528 (by decide) rfl (by decide) (fun c => ?_) (fun c => ?_)
                  · exact absurd c (by decide)
                  · refine st_iconst (pc' := 532) dX12_goesOn_531 rfl ?_
                    exact st_iret (ty := .boolean) dX12_goesOn_532 rfl (by decide) rfl h
          · replace h := h.2 c
            refine st_aload_n (pc' := 447) dX12_goesOn_446 rfl rfl (j := 0) rfl ?_
            refine st_bipush (pc' := 449) dX12_goesOn_447 rfl (by decide) ?_
            refine st_callV (pc' := 452) (kc := k - 1) (E' := LAY) (cal := m_X12_isSign) (n := 1) (as := [vI 44]) (S := []) dX12_goesOn_449 rfl l_X12_305 k_X12_isSign rfl L_74 c_X12 rfl rfl (Nat.le_of_ble_eq_true rfl) (by omega) ⟨Nat.le_refl _, Nat.le_refl _, Nat.le_refl _, Nat.le_refl _⟩ (Q1 := fun r M' => WP k LAY m_X12_goesOn 452 [(0, vR (some 74)), (1, vI x1), (2, vI x2), (3, vI x3)] (r.toList ++ []) M' Q) (S_X12_isSign (by omega) (by decide) ?_) (fun r M' q => q)
            change WP _ LAY m_X12_goesOn 452 [(0, vR (some 74)), (1, vI x1), (2, vI x2), (3, vI x3)] [vI (b2i (gi (si (si I 74 8 1) 74 9 (gi I 74 4)) 74 3 = 3 ∧ gi (si (si I 74 8 1) 74 9 (gi I 74 4)) 74 6 = 44))] (mem (P, some 5, some 22) (si (si I 74 8 1) 74 9 (gi I 74 4)) J) Q
            refine st_if_ne (tg := 464) (pc' := 455) dX12_goesOn_452 (by decide) rfl (b2i_in _) (fun c => ?_) (fun c => ?_)
            · replace h := h.1 (b2i_t.mp c)
              refine WP_sub (L' := [(0, vR (some 74)), (1, vI x1)]) [0, 1] rfl ?_
              exact h
            · replace h := h.2 (b2i_f.mp c)
              refine st_aload_n (pc' := 456) dX12_goesOn_455 rfl rfl (j := 0) rfl ?_
              refine st_iconst (pc' := 457) dX12_goesOn_456 rfl ?_
              refine st_aload_n (pc' := 458) dX12_goesOn_457 rfl rfl (j := 0) rfl ?_
              refine G_X12_23_74 dX12_goesOn_458 (pc' := 461) rfl rfl ?_
              rw [show gi (si (si I 74 8 1) 74 9 (gi I 74 4)) 74 4 = (gi I 74 4) from ((gi_idx _ _ _ (by decide)).trans (gi_idx _ _ _ (by decide)))]
              refine st_callV (pc' := 464) (kc := k - 1) (E' := LAY) (cal := m_X12_blame) (n := 2) (as := [vI 1, vI (gi I 74 4)]) (S := []) dX12_goesOn_461 rfl l_X12_287 k_X12_blame rfl L_74 c_X12 rfl rfl (Nat.le_of_ble_eq_true rfl) (by omega) ⟨Nat.le_refl _, Nat.le_refl _, Nat.le_refl _, Nat.le_refl _⟩ (Q1 := fun r M' => WP k LAY m_X12_goesOn 464 [(0, vR (some 74)), (1, vI x1), (2, vI x2), (3, vI x3)] (r.toList ++ []) M' Q) (WPm.of k_X12_blame.1 (Nat.le_of_ble_eq_true rfl) (B_X12_blame_0 (by omega) ?_)) (fun r M' q => q)
              refine ⟨fun c => ?_, fun c => ?_⟩
              · replace h := h.1 c
                change WP _ LAY m_X12_goesOn 464 [(0, vR (some 74)), (1, vI x1), (2, vI x2), (3, vI x3)] [] (mem (P, some 5, some 22) (si (si (si (si I 74 8 1) 74 9 (gi I 74 4)) 74 8 1) 74 9 (gi I 74 4)) J) Q
                refine WP_sub (L' := [(0, vR (some 74)), (1, vI x1)]) [0, 1] rfl ?_
                exact h
              · replace h := h.2 c
                change WP _ LAY m_X12_goesOn 464 [(0, vR (some 74)), (1, vI x1), (2, vI x2), (3, vI x3)] [] (mem (P, some 5, some 22) (si (si I 74 8 1) 74 9 (gi I 74 4)) J) Q
                refine WP_sub (L' := [(0, vR (some 74)), (1, vI x1)]) [0, 1] rfl ?_
                exact h
        · replace h := h.2 c
          refine st_aload_n (pc' := 428) dX12_goesOn_427 rfl rfl (j := 0) rfl ?_
          refine G_X12_36_74 dX12_goesOn_428 (pc' := 431) rfl rfl ?_
          rw [show gi (si (si I 74 8 1) 74 9 (gi I 74 4)) 74 8 = 1 from ((gi_idx _ _ _ (by decide)).trans (gi_same _ _ _ (by decide)))]
          refine st_if_ne (tg := 439) (pc' := 434) dX12_goesOn_431 (by decide) rfl (by decide) (fun c => ?_) (fun c => ?_)
          · refine WP_sub (L' := []) [] rfl ?_
            exact h
          · exact absurd c (by decide)
      · replace h := h.2 c
        change WP _ LAY m_X12_goesOn 422 [(0, vR (some 74)), (1, vI x1), (2, vI x2), (3, vI x3)] [] (mem (P, some 5, some 22) I J) Q
        refine st_iload_n (pc' := 423) dX12_goesOn_422 rfl rfl (j := 2) rfl ?_
        refine st_iconst (pc' := 424) dX12_goesOn_423 rfl ?_
        obtain ⟨e160, h⟩ := h
        refine st_icmp_ge (tg := 441) (pc' := 427) dX12_goesOn_424 (by decide) rfl e160 (by decide) (fun c => ?_) (fun c => ?_)
        · replace h := h.1 c
          refine st_iload_n (pc' := 442) dX12_goesOn_441 rfl rfl (j := 2) rfl ?_
          refine st_iconst (pc' := 443) dX12_goesOn_442 rfl ?_
          refine st_icmp_ne (tg := 496) (pc' := 446) dX12_goesOn_443 (by decide) rfl e160 (by decide) (fun c => ?_) (fun c => ?_)
          · replace h := h.1 c
            refine st_aload_n (pc' := 497) dX12_goesOn_496 rfl rfl (j := 0) rfl ?_
            refine st_iload_n (pc' := 498) dX12_goesOn_497 rfl rfl (j := 2) rfl ?_
            refine st_iconst (pc' := 499) dX12_goesOn_498 rfl ?_
            refine st_icmp_ne (tg := 507) (pc' := 502) dX12_goesOn_499 (by decide) rfl e160 (by decide) (fun c => ?_) (fun c => ?_)
            · replace h := h.1 c
              refine st_bipush (pc' := 509) dX12_goesOn_507 rfl (by decide) ?_
              refine st_callV (pc' := 512) (kc := k - 1) (E' := LAY) (cal := m_X12_isSign) (n := 1) (as := [vI 41]) (S := []) dX12_goesOn_509 rfl l_X12_305 k_X12_isSign rfl L_74 c_X12 rfl rfl (Nat.le_of_ble_eq_true rfl) (by omega) ⟨Nat.le_refl _, Nat.le_refl _, Nat.le_refl _, Nat.le_refl _⟩ (Q1 := fun r M' => WP k LAY m_X12_goesOn 512 [(0, vR (some 74)), (1, vI x1), (2, vI x2), (3, vI x3)] (r.toList ++ []) M' Q) (S_X12_isSign (by omega) (by decide) ?_) (fun r M' q => q)
              change WP _ LAY m_X12_goesOn 512 [(0, vR (some 74)), (1, vI x1), (2, vI x2), (3, vI x3)] [vI (b2i (gi I 74 3 = 3 ∧ gi I 74 6 = 41))] (mem (P, some 5, some 22) I J) Q
              refine st_if_ne (tg := 524) (pc' := 515) dX12_goesOn_512 (by decide) rfl (b2i_in _) (fun c => ?_) (fun c => ?_)
              · replace h := h.1 (b2i_t.mp c)
                refine st_aload_n (pc' := 525) dX12_goesOn_524 rfl rfl (j := 0) rfl ?_
                refine G_X12_36_74 dX12_goesOn_525 (pc' := 528) rfl rfl ?_
                refine st_if_le (tg := 533) (pc' := 531) dX12_goesOn_528 (by decide) rfl (gi_in _ _ _) (fun c => ?_) (fun c => ?_)
                · replace h := h.1 c
                  refine st_aload_n (pc' := 534) dX12_goesOn_533 rfl rfl (j := 0) rfl ?_
                  refine st_iconst (pc' := 535) dX12_goesOn_534 rfl ?_
                  refine st_callV (pc' := 538) (kc := k - 1) (E' := LAY) (cal := m_X12_joins) (n := 1) (as := [vI 1]) (S := []) dX12_goesOn_535 rfl l_X12_394 k_X12_joins rfl L_74 c_X12 rfl rfl (Nat.le_of_ble_eq_true rfl) (by omega) ⟨Nat.le_refl _, Nat.le_refl _, Nat.le_refl _, Nat.le_refl _⟩ h (fun r M' q => ?_)
                  obtain ⟨I162, J163, rfl, rfl, h⟩ := q
                  change WP _ LAY m_X12_goesOn 538 [(0, vR (some 74)), (1, vI x1), (2, vI x2), (3, vI x3)] [] (mem (P, some 5, some 22) I162 J163) Q
                  refine st_aload_n (pc' := 539) dX12_goesOn_538 rfl rfl (j := 0) rfl ?_
                  refine st_dup (pc' := 540) dX12_goesOn_539 rfl rfl ?_
                  refine G_X12_152_74 dX12_goesOn_540 (pc' := 543) rfl rfl ?_
                  refine st_iconst (pc' := 544) dX12_goesOn_543 rfl ?_
                  refine st_isub (pc' := 545) dX12_goesOn_544 rfl ?_
                  refine P_X12_152_74 dX12_goesOn_545 (pc' := 548) rfl rfl ?_
                  refine st_aload_n (pc' := 549) dX12_goesOn_548 rfl rfl (j := 0) rfl ?_
                  refine st_dup (pc' := 550) dX12_goesOn_549 rfl rfl ?_
                  refine G_X12_155_74 dX12_goesOn_550 (pc' := 553) rfl rfl ?_
                  rw [show gi (si I162 74 46 ((gi I162 74 46) - 1)) 74 47 = (gi I162 74 47) from (gi_idx _ _ _ (by decide))]
                  refine st_iconst (pc' := 554) dX12_goesOn_553 rfl ?_
                  refine st_isub (pc' := 555) dX12_goesOn_554 rfl ?_
                  refine P_X12_155_74 dX12_goesOn_555 (pc' := 558) rfl rfl ?_
                  refine st_iload_n (pc' := 559) dX12_goesOn_558 rfl rfl (j := 2) rfl ?_
                  refine st_iconst (pc' := 560) dX12_goesOn_559 rfl ?_
                  refine st_icmp_ne (tg := 574) (pc' := 563) dX12_goesOn_560 (by decide) rfl e160 (by decide) (fun c => ?_) (fun c => ?_)
                  · replace h := h.1 c
                    refine st_iload_n (pc' := 575) dX12_goesOn_574 rfl rfl (j := 2) rfl ?_
                    refine st_iconst (pc' := 576) dX12_goesOn_575 rfl ?_
                    refine st_icmp_ne (tg := 591) (pc' := 579) dX12_goesOn_576 (by decide) rfl e160 (by decide) (fun c => ?_) (fun c => ?_)
                    · replace h := h.1 c
                      refine st_aload_n (pc' := 592) dX12_goesOn_591 rfl rfl (j := 0) rfl ?_
                      refine st_callV (pc' := 595) (kc := k - 1) (E' := LAY) (cal := m_X12_ahead) (n := 0) (as := []) (S := []) dX12_goesOn_592 rfl l_X12_308 k_X12_ahead rfl L_74 c_X12 rfl rfl (Nat.le_of_ble_eq_true rfl) (by omega) ⟨Nat.le_refl _, Nat.le_refl _, Nat.le_refl _, Nat.le_refl _⟩ h (fun r M' q => ?_)
                      obtain ⟨I165, J166, rfl, rfl, h⟩ := q
                      change WP _ LAY m_X12_goesOn 595 [(0, vR (some 74)), (1, vI x1), (2, vI x2), (3, vI x3)] [] (mem (P, some 5, some 22) I165 J166) Q
                      refine st_iconst (pc' := 596) dX12_goesOn_595 rfl ?_
                      exact st_iret (ty := .boolean) dX12_goesOn_596 rfl (by decide) rfl h
                    · replace h := h.2 c
                      refine st_aload_n (pc' := 580) dX12_goesOn_579 rfl rfl (j := 0) rfl ?_
                      refine G_X12_139_74 dX12_goesOn_580 (pc' := 583) rfl rfl ?_
                      refine st_aload_n (pc' := 584) dX12_goesOn_583 rfl rfl (j := 0) rfl ?_
                      refine G_X12_152_74 dX12_goesOn_584 (pc' := 587) rfl rfl ?_
                      rw [show gi (si (si I162 74 46 ((gi I162 74 46) - 1)) 74 47 ((gi I162 74 47) - 1)) 74 46 = (gi (si I162 74 46 ((gi I162 74 46) - 1)) 74 46) from (gi_idx _ _ _ (by decide))]
                      refine st_iconst (pc' := 588) dX12_goesOn_587 rfl ?_
                      refine st_isub (pc' := 589) dX12_goesOn_588 rfl ?_
                      refine st_iconst (pc' := 590) dX12_goesOn_589 rfl ?_
                      obtain ⟨e167, h⟩ := h
                      refine st_iastore (pc' := 591) (M' := (mem (P, some 5, some 22) (si (si (si I162 74 46 ((gi I162 74 46) - 1)) 74 47 ((gi I162 74 47) - 1)) 102 ((gi (si I162 74 46 ((gi I162 74 46) - 1)) 74 46) - 1).toNat 2) J163)) dX12_goesOn_590 rfl L_102 (by decide) e167 rfl ?_
                      refine st_aload_n (pc' := 592) dX12_goesOn_591 rfl rfl (j := 0) rfl ?_
                      refine st_callV (pc' := 595) (kc := k - 1) (E' := LAY) (cal := m_X12_ahead) (n := 0) (as := []) (S := []) dX12_goesOn_592 rfl l_X12_308 k_X12_ahead rfl L_74 c_X12 rfl rfl (Nat.le_of_ble_eq_true rfl) (by omega) ⟨Nat.le_refl _, Nat.le_refl _, Nat.le_refl _, Nat.le_refl _⟩ h (fun r M' q => ?_)
                      obtain ⟨I169, J170, rfl, rfl, h⟩ := q
                      change WP _ LAY m_X12_goesOn 595 [(0, vR (some 74)), (1, vI x1), (2, vI x2), (3, vI x3)] [] (mem (P, some 5, some 22) I169 J170) Q
                      refine st_iconst (pc' := 596) dX12_goesOn_595 rfl ?_
                      exact st_iret (ty := .boolean) dX12_goesOn_596 rfl (by decide) rfl h
                  · replace h := h.2 c
                    refine st_aload_n (pc' := 564) dX12_goesOn_563 rfl rfl (j := 0) rfl ?_
                    refine st_aload_n (pc' := 565) dX12_goesOn_564 rfl rfl (j := 0) rfl ?_
                    refine G_X12_146_74 dX12_goesOn_565 (pc' := 568) rfl rfl ?_
                    refine st_iload_n (pc' := 569) dX12_goesOn_568 rfl rfl (j := 1) rfl ?_
                    refine st_iaload (pc' := 570) (v := (gi I162 104 (x1).toNat)) dX12_goesOn_569 rfl L_104 (by decide) e82 (show gi (si (si I162 74 46 ((gi I162 74 46) - 1)) 74 47 ((gi I162 74 47) - 1)) 104 (x1).toNat = (gi I162 104 (x1).toNat) from ((gi_cell _ _ _ _ (by decide)).trans (gi_cell _ _ _ _ (by decide)))) ?_
                    refine st_iconst (pc' := 571) dX12_goesOn_570 rfl ?_
                    refine st_callV (pc' := 574) (kc := k - 1) (E' := LAY) (cal := m_X12_add) (n := 2) (as := [vI (gi I162 104 (x1).toNat), vI 0]) (S := []) dX12_goesOn_571 rfl l_X12_376 k_X12_add rfl L_74 c_X12 rfl rfl (Nat.le_of_ble_eq_true rfl) (by omega) ⟨Nat.le_refl _, Nat.le_refl _, Nat.le_refl _, Nat.le_refl _⟩ (Q1 := fun r M' => WP k LAY m_X12_goesOn 574 [(0, vR (some 74)), (1, vI x1), (2, vI x2), (3, vI x3)] (r.toList ++ []) M' Q) (WPm.of k_X12_add.1 (Nat.le_of_ble_eq_true rfl) (B_X12_add_0 (by omega) ?_)) (fun r M' q => q)
                    obtain ⟨e171, h⟩ := h
                    refine ⟨e171, ?_⟩
                    change WP _ LAY m_X12_goesOn 574 [(0, vR (some 74)), (1, vI x1), (2, vI x2), (3, vI x3)] [] (mem (P, some 5, some 22) (si (si (si (si (si I162 74 46 ((gi I162 74 46) - 1)) 74 47 ((gi I162 74 47) - 1)) 95 ((1600 * (gi (si (si I162 74 46 ((gi I162 74 46) - 1)) 74 47 ((gi I162 74 47) - 1)) 74 40)) + (gi (si (si I162 74 46 ((gi I162 74 46) - 1)) 74 47 ((gi I162 74 47) - 1)) 74 39)).toNat (gi I162 104 (x1).toNat)) 96 ((1600 * (gi (si (si I162 74 46 ((gi I162 74 46) - 1)) 74 47 ((gi I162 74 47) - 1)) 74 40)) + (gi (si (si I162 74 46 ((gi I162 74 46) - 1)) 74 47 ((gi I162 74 47) - 1)) 74 39)).toNat 0) 74 39 ((gi (si (si I162 74 46 ((gi I162 74 46) - 1)) 74 47 ((gi I162 74 47) - 1)) 74 39) + 1)) J163) Q
                    refine st_iload_n (pc' := 575) dX12_goesOn_574 rfl rfl (j := 2) rfl ?_
                    refine st_iconst (pc' := 576) dX12_goesOn_575 rfl ?_
                    refine st_icmp_ne (tg := 591) (pc' := 579) dX12_goesOn_576 (by decide) rfl e160 (by decide) (fun c => ?_) (fun c => ?_)
                    · replace h := h.1 c
                      refine st_aload_n (pc' := 592) dX12_goesOn_591 rfl rfl (j := 0) rfl ?_
                      refine st_callV (pc' := 595) (kc := k - 1) (E' := LAY) (cal := m_X12_ahead) (n := 0) (as := []) (S := []) dX12_goesOn_592 rfl l_X12_308 k_X12_ahead rfl L_74 c_X12 rfl rfl (Nat.le_of_ble_eq_true rfl) (by omega) ⟨Nat.le_refl _, Nat.le_refl _, Nat.le_refl _, Nat.le_refl _⟩ h (fun r M' q => ?_)
                      obtain ⟨I173, J174, rfl, rfl, h⟩ := q
                      change WP _ LAY m_X12_goesOn 595 [(0, vR (some 74)), (1, vI x1), (2, vI x2), (3, vI x3)] [] (mem (P, some 5, some 22) I173 J174) Q
                      refine st_iconst (pc' := 596) dX12_goesOn_595 rfl ?_
                      exact st_iret (ty := .boolean) dX12_goesOn_596 rfl (by decide) rfl h
                    · replace h := h.2 c
                      refine st_aload_n (pc' := 580) dX12_goesOn_579 rfl rfl (j := 0) rfl ?_
                      refine G_X12_139_74 dX12_goesOn_580 (pc' := 583) rfl rfl ?_
                      refine st_aload_n (pc' := 584) dX12_goesOn_583 rfl rfl (j := 0) rfl ?_
                      refine G_X12_152_74 dX12_goesOn_584 (pc' := 587) rfl rfl ?_
                      rw [show gi (si (si (si (si (si I162 74 46 ((gi I162 74 46) - 1)) 74 47 ((gi I162 74 47) - 1)) 95 ((1600 * (gi (si (si I162 74 46 ((gi I162 74 46) - 1)) 74 47 ((gi I162 74 47) - 1)) 74 40)) + (gi (si (si I162 74 46 ((gi I162 74 46) - 1)) 74 47 ((gi I162 74 47) - 1)) 74 39)).toNat (gi I162 104 (x1).toNat)) 96 ((1600 * (gi (si (si I162 74 46 ((gi I162 74 46) - 1)) 74 47 ((gi I162 74 47) - 1)) 74 40)) + (gi (si (si I162 74 46 ((gi I162 74 46) - 1)) 74 47 ((gi I162 74 47) - 1)) 74 39)).toNat 0) 74 39 ((gi (si (si I162 74 46 ((gi I162 74 46) - 1)) 74 47 ((gi I162 74 47) - 1)) 74 39) + 1)) 74 46 = (gi (si I162 74 46 ((gi I162 74 46) - 1)) 74 46) from ((gi_idx _ _ _ (by decide)).trans ((gi_cell _ _ _ _ (by decide)).trans ((gi_cell _ _ _ _ (by decide)).trans (gi_idx _ _ _ (by decide)))))]
                      refine st_iconst (pc' := 588) dX12_goesOn_587 rfl ?_
                      refine st_isub (pc' := 589) dX12_goesOn_588 rfl ?_
                      refine st_iconst (pc' := 590) dX12_goesOn_589 rfl ?_
                      obtain ⟨e175, h⟩ := h
                      refine st_iastore (pc' := 591) (M' := (mem (P, some 5, some 22) (si (si (si (si (si (si I162 74 46 ((gi I162 74 46) - 1)) 74 47 ((gi I162 74 47) - 1)) 95 ((1600 * (gi (si (si I162 74 46 ((gi I162 74 46) - 1)) 74 47 ((gi I162 74 47) - 1)) 74 40)) + (gi (si (si I162 74 46 ((gi I162 74 46) - 1)) 74 47 ((gi I162 74 47) - 1)) 74 39)).toNat (gi I162 104 (x1).toNat)) 96 ((1600 * (gi (si (si I162 74 46 ((gi I162 74 46) - 1)) 74 47 ((gi I162 74 47) - 1)) 74 40)) + (gi (si (si I162 74 46 ((gi I162 74 46) - 1)) 74 47 ((gi I162 74 47) - 1)) 74 39)).toNat 0) 74 39 ((gi (si (si I162 74 46 ((gi I162 74 46) - 1)) 74 47 ((gi I162 74 47) - 1)) 74 39) + 1)) 102 ((gi (si I162 74 46 ((gi I162 74 46) - 1)) 74 46) - 1).toNat 2) J163)) dX12_goesOn_590 rfl L_102 (by decide) e175 rfl ?_
                      refine st_aload_n (pc' := 592) dX12_goesOn_591 rfl rfl (j := 0) rfl ?_
                      refine st_callV (pc' := 595) (kc := k - 1) (E' := LAY) (cal := m_X12_ahead) (n := 0) (as := []) (S := []) dX12_goesOn_592 rfl l_X12_308 k_X12_ahead rfl L_74 c_X12 rfl rfl (Nat.le_of_ble_eq_true rfl) (by omega) ⟨Nat.le_refl _, Nat.le_refl _, Nat.le_refl _, Nat.le_refl _⟩ h (fun r M' q => ?_)
                      obtain ⟨I177, J178, rfl, rfl, h⟩ := q
                      change WP _ LAY m_X12_goesOn 595 [(0, vR (some 74)), (1, vI x1), (2, vI x2), (3, vI x3)] [] (mem (P, some 5, some 22) I177 J178) Q
                      refine st_iconst (pc' := 596) dX12_goesOn_595 rfl ?_
                      exact st_iret (ty := .boolean) dX12_goesOn_596 rfl (by decide) rfl h
                · replace h := h.2 c
                  refine st_iconst (pc' := 532) dX12_goesOn_531 rfl ?_
                  exact st_iret (ty := .boolean) dX12_goesOn_532 rfl (by decide) rfl h
              · replace h := h.2 (b2i_f.mp c)
                refine st_aload_n (pc' := 516) dX12_goesOn_515 rfl rfl (j := 0) rfl ?_
                refine st_iconst (pc' := 517) dX12_goesOn_516 rfl ?_
                refine st_aload_n (pc' := 518) dX12_goesOn_517 rfl rfl (j := 0) rfl ?_
                refine G_X12_23_74 dX12_goesOn_518 (pc' := 521) rfl rfl ?_
                refine st_callV (pc' := 524) (kc := k - 1) (E' := LAY) (cal := m_X12_blame) (n := 2) (as := [vI 1, vI (gi I 74 4)]) (S := []) dX12_goesOn_521 rfl l_X12_287 k_X12_blame rfl L_74 c_X12 rfl rfl (Nat.le_of_ble_eq_true rfl) (by omega) ⟨Nat.le_refl _, Nat.le_refl _, Nat.le_refl _, Nat.le_refl _⟩ (Q1 := fun r M' => WP k LAY m_X12_goesOn 524 [(0, vR (some 74)), (1, vI x1), (2, vI x2), (3, vI x3)] (r.toList ++ []) M' Q) (WPm.of k_X12_blame.1 (Nat.le_of_ble_eq_true rfl) (B_X12_blame_0 (by omega) ?_)) (fun r M' q => q)
                refine ⟨fun c => ?_, fun c => ?_⟩
                · replace h := h.1 c
                  change WP _ LAY m_X12_goesOn 524 [(0, vR (some 74)), (1, vI x1), (2, vI x2), (3, vI x3)] [] (mem (P, some 5, some 22) (si (si I 74 8 1) 74 9 (gi I 74 4)) J) Q
                  refine st_aload_n (pc' := 525) dX12_goesOn_524 rfl rfl (j := 0) rfl ?_
                  refine G_X12_36_74 dX12_goesOn_525 (pc' := 528) rfl rfl ?_
                  rw [show gi (si (si I 74 8 1) 74 9 (gi I 74 4)) 74 8 = 1 from ((gi_idx _ _ _ (by decide)).trans (gi_same _ _ _ (by decide)))]
                  refine st_if_le (tg := 533) (pc' := 531) dX12_goesOn_528 (by decide) rfl (by decide) (fun c => ?_) (fun c => ?_)
                  · exact absurd c (by decide)
                  · refine st_iconst (pc' := 532) dX12_goesOn_531 rfl ?_
                    exact st_iret (ty := .boolean) dX12_goesOn_532 rfl (by decide) rfl h
                · replace h := h.2 c
                  change WP _ LAY m_X12_goesOn 524 [(0, vR (some 74)), (1, vI x1), (2, vI x2), (3, vI x3)] [] (mem (P, some 5, some 22) I J) Q
                  refine st_aload_n (pc' := 525) dX12_goesOn_524 rfl rfl (j := 0) rfl ?_
                  refine G_X12_36_74 dX12_goesOn_525 (pc' := 528) rfl rfl ?_
                  refine st_if_le (tg := 533) (pc' := 531) dX12_goesOn_528 (by decide) rfl (gi_in _ _ _) (fun c => ?_) (fun c => ?_)
                  · replace h := h.1 c
                    refine st_aload_n (pc' := 534) dX12_goesOn_533 rfl rfl (j := 0) rfl ?_
                    refine st_iconst (pc' := 535) dX12_goesOn_534 rfl ?_
                    refine st_callV (pc' := 538) (kc := k - 1) (E' := LAY) (cal := m_X12_joins) (n := 1) (as := [vI 1]) (S := []) dX12_goesOn_535 rfl l_X12_394 k_X12_joins rfl L_74 c_X12 rfl rfl (Nat.le_of_ble_eq_true rfl) (by omega) ⟨Nat.le_refl _, Nat.le_refl _, Nat.le_refl _, Nat.le_refl _⟩ h (fun r M' q => ?_)
                    obtain ⟨I180, J181, rfl, rfl, h⟩ := q
                    change WP _ LAY m_X12_goesOn 538 [(0, vR (some 74)), (1, vI x1), (2, vI x2), (3, vI x3)] [] (mem (P, some 5, some 22) I180 J181) Q
                    refine st_aload_n (pc' := 539) dX12_goesOn_538 rfl rfl (j := 0) rfl ?_
                    refine st_dup (pc' := 540) dX12_goesOn_539 rfl rfl ?_
                    refine G_X12_152_74 dX12_goesOn_540 (pc' := 543) rfl rfl ?_
                    refine st_iconst (pc' := 544) dX12_goesOn_543 rfl ?_
                    refine st_isub (pc' := 545) dX12_goesOn_544 rfl ?_
                    refine P_X12_152_74 dX12_goesOn_545 (pc' := 548) rfl rfl ?_
                    refine st_aload_n (pc' := 549) dX12_goesOn_548 rfl rfl (j := 0) rfl ?_
                    refine st_dup (pc' := 550) dX12_goesOn_549 rfl rfl ?_
                    refine G_X12_155_74 dX12_goesOn_550 (pc' := 553) rfl rfl ?_
                    rw [show gi (si I180 74 46 ((gi I180 74 46) - 1)) 74 47 = (gi I180 74 47) from (gi_idx _ _ _ (by decide))]
                    refine st_iconst (pc' := 554) dX12_goesOn_553 rfl ?_
                    refine st_isub (pc' := 555) dX12_goesOn_554 rfl ?_
                    refine P_X12_155_74 dX12_goesOn_555 (pc' := 558) rfl rfl ?_
                    refine st_iload_n (pc' := 559) dX12_goesOn_558 rfl rfl (j := 2) rfl ?_
                    refine st_iconst (pc' := 560) dX12_goesOn_559 rfl ?_
                    refine st_icmp_ne (tg := 574) (pc' := 563) dX12_goesOn_560 (by decide) rfl e160 (by decide) (fun c => ?_) (fun c => ?_)
                    · replace h := h.1 c
                      refine st_iload_n (pc' := 575) dX12_goesOn_574 rfl rfl (j := 2) rfl ?_
                      refine st_iconst (pc' := 576) dX12_goesOn_575 rfl ?_
                      refine st_icmp_ne (tg := 591) (pc' := 579) dX12_goesOn_576 (by decide) rfl e160 (by decide) (fun c => ?_) (fun c => ?_)
                      · replace h := h.1 c
                        refine st_aload_n (pc' := 592) dX12_goesOn_591 rfl rfl (j := 0) rfl ?_
                        refine st_callV (pc' := 595) (kc := k - 1) (E' := LAY) (cal := m_X12_ahead) (n := 0) (as := []) (S := []) dX12_goesOn_592 rfl l_X12_308 k_X12_ahead rfl L_74 c_X12 rfl rfl (Nat.le_of_ble_eq_true rfl) (by omega) ⟨Nat.le_refl _, Nat.le_refl _, Nat.le_refl _, Nat.le_refl _⟩ h (fun r M' q => ?_)
                        obtain ⟨I183, J184, rfl, rfl, h⟩ := q
                        change WP _ LAY m_X12_goesOn 595 [(0, vR (some 74)), (1, vI x1), (2, vI x2), (3, vI x3)] [] (mem (P, some 5, some 22) I183 J184) Q
                        refine st_iconst (pc' := 596) dX12_goesOn_595 rfl ?_
                        exact st_iret (ty := .boolean) dX12_goesOn_596 rfl (by decide) rfl h
                      · replace h := h.2 c
                        refine st_aload_n (pc' := 580) dX12_goesOn_579 rfl rfl (j := 0) rfl ?_
                        refine G_X12_139_74 dX12_goesOn_580 (pc' := 583) rfl rfl ?_
                        refine st_aload_n (pc' := 584) dX12_goesOn_583 rfl rfl (j := 0) rfl ?_
                        refine G_X12_152_74 dX12_goesOn_584 (pc' := 587) rfl rfl ?_
                        rw [show gi (si (si I180 74 46 ((gi I180 74 46) - 1)) 74 47 ((gi I180 74 47) - 1)) 74 46 = (gi (si I180 74 46 ((gi I180 74 46) - 1)) 74 46) from (gi_idx _ _ _ (by decide))]
                        refine st_iconst (pc' := 588) dX12_goesOn_587 rfl ?_
                        refine st_isub (pc' := 589) dX12_goesOn_588 rfl ?_
                        refine st_iconst (pc' := 590) dX12_goesOn_589 rfl ?_
                        obtain ⟨e185, h⟩ := h
                        refine st_iastore (pc' := 591) (M' := (mem (P, some 5, some 22) (si (si (si I180 74 46 ((gi I180 74 46) - 1)) 74 47 ((gi I180 74 47) - 1)) 102 ((gi (si I180 74 46 ((gi I180 74 46) - 1)) 74 46) - 1).toNat 2) J181)) dX12_goesOn_590 rfl L_102 (by decide) e185 rfl ?_
                        refine st_aload_n (pc' := 592) dX12_goesOn_591 rfl rfl (j := 0) rfl ?_
                        refine st_callV (pc' := 595) (kc := k - 1) (E' := LAY) (cal := m_X12_ahead) (n := 0) (as := []) (S := []) dX12_goesOn_592 rfl l_X12_308 k_X12_ahead rfl L_74 c_X12 rfl rfl (Nat.le_of_ble_eq_true rfl) (by omega) ⟨Nat.le_refl _, Nat.le_refl _, Nat.le_refl _, Nat.le_refl _⟩ h (fun r M' q => ?_)
                        obtain ⟨I187, J188, rfl, rfl, h⟩ := q
                        change WP _ LAY m_X12_goesOn 595 [(0, vR (some 74)), (1, vI x1), (2, vI x2), (3, vI x3)] [] (mem (P, some 5, some 22) I187 J188) Q
                        refine st_iconst (pc' := 596) dX12_goesOn_595 rfl ?_
                        exact st_iret (ty := .boolean) dX12_goesOn_596 rfl (by decide) rfl h
                    · replace h := h.2 c
                      refine st_aload_n (pc' := 564) dX12_goesOn_563 rfl rfl (j := 0) rfl ?_
                      refine st_aload_n (pc' := 565) dX12_goesOn_564 rfl rfl (j := 0) rfl ?_
                      refine G_X12_146_74 dX12_goesOn_565 (pc' := 568) rfl rfl ?_
                      refine st_iload_n (pc' := 569) dX12_goesOn_568 rfl rfl (j := 1) rfl ?_
                      refine st_iaload (pc' := 570) (v := (gi I180 104 (x1).toNat)) dX12_goesOn_569 rfl L_104 (by decide) e82 (show gi (si (si I180 74 46 ((gi I180 74 46) - 1)) 74 47 ((gi I180 74 47) - 1)) 104 (x1).toNat = (gi I180 104 (x1).toNat) from ((gi_cell _ _ _ _ (by decide)).trans (gi_cell _ _ _ _ (by decide)))) ?_
                      refine st_iconst (pc' := 571) dX12_goesOn_570 rfl ?_
                      refine st_callV (pc' := 574) (kc := k - 1) (E' := LAY) (cal := m_X12_add) (n := 2) (as := [vI (gi I180 104 (x1).toNat), vI 0]) (S := []) dX12_goesOn_571 rfl l_X12_376 k_X12_add rfl L_74 c_X12 rfl rfl (Nat.le_of_ble_eq_true rfl) (by omega) ⟨Nat.le_refl _, Nat.le_refl _, Nat.le_refl _, Nat.le_refl _⟩ (Q1 := fun r M' => WP k LAY m_X12_goesOn 574 [(0, vR (some 74)), (1, vI x1), (2, vI x2), (3, vI x3)] (r.toList ++ []) M' Q) (WPm.of k_X12_add.1 (Nat.le_of_ble_eq_true rfl) (B_X12_add_0 (by omega) ?_)) (fun r M' q => q)
                      obtain ⟨e189, h⟩ := h
                      refine ⟨e189, ?_⟩
                      change WP _ LAY m_X12_goesOn 574 [(0, vR (some 74)), (1, vI x1), (2, vI x2), (3, vI x3)] [] (mem (P, some 5, some 22) (si (si (si (si (si I180 74 46 ((gi I180 74 46) - 1)) 74 47 ((gi I180 74 47) - 1)) 95 ((1600 * (gi (si (si I180 74 46 ((gi I180 74 46) - 1)) 74 47 ((gi I180 74 47) - 1)) 74 40)) + (gi (si (si I180 74 46 ((gi I180 74 46) - 1)) 74 47 ((gi I180 74 47) - 1)) 74 39)).toNat (gi I180 104 (x1).toNat)) 96 ((1600 * (gi (si (si I180 74 46 ((gi I180 74 46) - 1)) 74 47 ((gi I180 74 47) - 1)) 74 40)) + (gi (si (si I180 74 46 ((gi I180 74 46) - 1)) 74 47 ((gi I180 74 47) - 1)) 74 39)).toNat 0) 74 39 ((gi (si (si I180 74 46 ((gi I180 74 46) - 1)) 74 47 ((gi I180 74 47) - 1)) 74 39) + 1)) J181) Q
                      refine st_iload_n (pc' := 575) dX12_goesOn_574 rfl rfl (j := 2) rfl ?_
                      refine st_iconst (pc' := 576) dX12_goesOn_575 rfl ?_
                      refine st_icmp_ne (tg := 591) (pc' := 579) dX12_goesOn_576 (by decide) rfl e160 (by decide) (fun c => ?_) (fun c => ?_)
                      · replace h := h.1 c
                        refine st_aload_n (pc' := 592) dX12_goesOn_591 rfl rfl (j := 0) rfl ?_
                        refine st_callV (pc' := 595) (kc := k - 1) (E' := LAY) (cal := m_X12_ahead) (n := 0) (as := []) (S := []) dX12_goesOn_592 rfl l_X12_308 k_X12_ahead rfl L_74 c_X12 rfl rfl (Nat.le_of_ble_eq_true rfl) (by omega) ⟨Nat.le_refl _, Nat.le_refl _, Nat.le_refl _, Nat.le_refl _⟩ h (fun r M' q => ?_)
                        obtain ⟨I191, J192, rfl, rfl, h⟩ := q
                        change WP _ LAY m_X12_goesOn 595 [(0, vR (some 74)), (1, vI x1), (2, vI x2), (3, vI x3)] [] (mem (P, some 5, some 22) I191 J192) Q
                        refine st_iconst (pc' := 596) dX12_goesOn_595 rfl ?_
                        exact st_iret (ty := .boolean) dX12_goesOn_596 rfl (by decide) rfl h
                      · replace h := h.2 c
                        refine st_aload_n (pc' := 580) dX12_goesOn_579 rfl rfl (j := 0) rfl ?_
                        refine G_X12_139_74 dX12_goesOn_580 (pc' := 583) rfl rfl ?_
                        refine st_aload_n (pc' := 584) dX12_goesOn_583 rfl rfl (j := 0) rfl ?_
                        refine G_X12_152_74 dX12_goesOn_584 (pc' := 587) rfl rfl ?_
                        rw [show gi (si (si (si (si (si I180 74 46 ((gi I180 74 46) - 1)) 74 47 ((gi I180 74 47) - 1)) 95 ((1600 * (gi (si (si I180 74 46 ((gi I180 74 46) - 1)) 74 47 ((gi I180 74 47) - 1)) 74 40)) + (gi (si (si I180 74 46 ((gi I180 74 46) - 1)) 74 47 ((gi I180 74 47) - 1)) 74 39)).toNat (gi I180 104 (x1).toNat)) 96 ((1600 * (gi (si (si I180 74 46 ((gi I180 74 46) - 1)) 74 47 ((gi I180 74 47) - 1)) 74 40)) + (gi (si (si I180 74 46 ((gi I180 74 46) - 1)) 74 47 ((gi I180 74 47) - 1)) 74 39)).toNat 0) 74 39 ((gi (si (si I180 74 46 ((gi I180 74 46) - 1)) 74 47 ((gi I180 74 47) - 1)) 74 39) + 1)) 74 46 = (gi (si I180 74 46 ((gi I180 74 46) - 1)) 74 46) from ((gi_idx _ _ _ (by decide)).trans ((gi_cell _ _ _ _ (by decide)).trans ((gi_cell _ _ _ _ (by decide)).trans (gi_idx _ _ _ (by decide)))))]
                        refine st_iconst (pc' := 588) dX12_goesOn_587 rfl ?_
                        refine st_isub (pc' := 589) dX12_goesOn_588 rfl ?_
                        refine st_iconst (pc' := 590) dX12_goesOn_589 rfl ?_
                        obtain ⟨e193, h⟩ := h
                        refine st_iastore (pc' := 591) (M' := (mem (P, some 5, some 22) (si (si (si (si (si (si I180 74 46 ((gi I180 74 46) - 1)) 74 47 ((gi I180 74 47) - 1)) 95 ((1600 * (gi (si (si I180 74 46 ((gi I180 74 46) - 1)) 74 47 ((gi I180 74 47) - 1)) 74 40)) + (gi (si (si I180 74 46 ((gi I180 74 46) - 1)) 74 47 ((gi I180 74 47) - 1)) 74 39)).toNat (gi I180 104 (x1).toNat)) 96 ((1600 * (gi (si (si I180 74 46 ((gi I180 74 46) - 1)) 74 47 ((gi I180 74 47) - 1)) 74 40)) + (gi (si (si I180 74 46 ((gi I180 74 46) - 1)) 74 47 ((gi I180 74 47) - 1)) 74 39)).toNat 0) 74 39 ((gi (si (si I180 74 46 ((gi I180 74 46) - 1)) 74 47 ((gi I180 74 47) - 1)) 74 39) + 1)) 102 ((gi (si I180 74 46 ((gi I180 74 46) - 1)) 74 46) - 1).toNat 2) J181)) dX12_goesOn_590 rfl L_102 (by decide) e193 rfl ?_
                        refine st_aload_n (pc' := 592) dX12_goesOn_591 rfl rfl (j := 0) rfl ?_
                        refine st_callV (pc' := 595) (kc := k - 1) (E' := LAY) (cal := m_X12_ahead) (n := 0) (as := []) (S := []) dX12_goesOn_592 rfl l_X12_308 k_X12_ahead rfl L_74 c_X12 rfl rfl (Nat.le_of_ble_eq_true rfl) (by omega) ⟨Nat.le_refl _, Nat.le_refl _, Nat.le_refl _, Nat.le_refl _⟩ h (fun r M' q => ?_)
                        obtain ⟨I195, J196, rfl, rfl, h⟩ := q
                        change WP _ LAY m_X12_goesOn 595 [(0, vR (some 74)), (1, vI x1), (2, vI x2), (3, vI x3)] [] (mem (P, some 5, some 22) I195 J196) Q
                        refine st_iconst (pc' := 596) dX12_goesOn_595 rfl ?_
                        exact st_iret (ty := .boolean) dX12_goesOn_596 rfl (by decide) rfl h
                  · replace h := h.2 c
                    refine st_iconst (pc' := 532) dX12_goesOn_531 rfl ?_
                    exact st_iret (ty := .boolean) dX12_goesOn_532 rfl (by decide) rfl h
            · replace h := h.2 c
              refine st_bipush (pc' := 504) dX12_goesOn_502 rfl (by decide) ?_
              refine st_goto (pc' := 509) dX12_goesOn_504 (by decide) ?_
              refine st_callV (pc' := 512) (kc := k - 1) (E' := LAY) (cal := m_X12_isSign) (n := 1) (as := [vI 93]) (S := []) dX12_goesOn_509 rfl l_X12_305 k_X12_isSign rfl L_74 c_X12 rfl rfl (Nat.le_of_ble_eq_true rfl) (by omega) ⟨Nat.le_refl _, Nat.le_refl _, Nat.le_refl _, Nat.le_refl _⟩ (Q1 := fun r M' => WP k LAY m_X12_goesOn 512 [(0, vR (some 74)), (1, vI x1), (2, vI x2), (3, vI x3)] (r.toList ++ []) M' Q) (S_X12_isSign (by omega) (by decide) ?_) (fun r M' q => q)
              change WP _ LAY m_X12_goesOn 512 [(0, vR (some 74)), (1, vI x1), (2, vI x2), (3, vI x3)] [vI (b2i (gi I 74 3 = 3 ∧ gi I 74 6 = 93))] (mem (P, some 5, some 22) I J) Q
              refine st_if_ne (tg := 524) (pc' := 515) dX12_goesOn_512 (by decide) rfl (b2i_in _) (fun c => ?_) (fun c => ?_)
              · replace h := h.1 (b2i_t.mp c)
                refine st_aload_n (pc' := 525) dX12_goesOn_524 rfl rfl (j := 0) rfl ?_
                refine G_X12_36_74 dX12_goesOn_525 (pc' := 528) rfl rfl ?_
                refine st_if_le (tg := 533) (pc' := 531) dX12_goesOn_528 (by decide) rfl (gi_in _ _ _) (fun c => ?_) (fun c => ?_)
                · replace h := h.1 c
                  refine st_aload_n (pc' := 534) dX12_goesOn_533 rfl rfl (j := 0) rfl ?_
                  refine st_iconst (pc' := 535) dX12_goesOn_534 rfl ?_
                  refine st_callV (pc' := 538) (kc := k - 1) (E' := LAY) (cal := m_X12_joins) (n := 1) (as := [vI 1]) (S := []) dX12_goesOn_535 rfl l_X12_394 k_X12_joins rfl L_74 c_X12 rfl rfl (Nat.le_of_ble_eq_true rfl) (by omega) ⟨Nat.le_refl _, Nat.le_refl _, Nat.le_refl _, Nat.le_refl _⟩ h (fun r M' q => ?_)
                  obtain ⟨I198, J199, rfl, rfl, h⟩ := q
                  change WP _ LAY m_X12_goesOn 538 [(0, vR (some 74)), (1, vI x1), (2, vI x2), (3, vI x3)] [] (mem (P, some 5, some 22) I198 J199) Q
                  refine st_aload_n (pc' := 539) dX12_goesOn_538 rfl rfl (j := 0) rfl ?_
                  refine st_dup (pc' := 540) dX12_goesOn_539 rfl rfl ?_
                  refine G_X12_152_74 dX12_goesOn_540 (pc' := 543) rfl rfl ?_
                  refine st_iconst (pc' := 544) dX12_goesOn_543 rfl ?_
                  refine st_isub (pc' := 545) dX12_goesOn_544 rfl ?_
                  refine P_X12_152_74 dX12_goesOn_545 (pc' := 548) rfl rfl ?_
                  refine st_aload_n (pc' := 549) dX12_goesOn_548 rfl rfl (j := 0) rfl ?_
                  refine st_dup (pc' := 550) dX12_goesOn_549 rfl rfl ?_
                  refine G_X12_155_74 dX12_goesOn_550 (pc' := 553) rfl rfl ?_
                  rw [show gi (si I198 74 46 ((gi I198 74 46) - 1)) 74 47 = (gi I198 74 47) from (gi_idx _ _ _ (by decide))]
                  refine st_iconst (pc' := 554) dX12_goesOn_553 rfl ?_
                  refine st_isub (pc' := 555) dX12_goesOn_554 rfl ?_
                  refine P_X12_155_74 dX12_goesOn_555 (pc' := 558) rfl rfl ?_
                  refine st_iload_n (pc' := 559) dX12_goesOn_558 rfl rfl (j := 2) rfl ?_
                  refine st_iconst (pc' := 560) dX12_goesOn_559 rfl ?_
                  refine st_icmp_ne (tg := 574) (pc' := 563) dX12_goesOn_560 (by decide) rfl e160 (by decide) (fun c => ?_) (fun c => ?_)
                  · replace h := h.1 c
                    refine st_iload_n (pc' := 575) dX12_goesOn_574 rfl rfl (j := 2) rfl ?_
                    refine st_iconst (pc' := 576) dX12_goesOn_575 rfl ?_
                    refine st_icmp_ne (tg := 591) (pc' := 579) dX12_goesOn_576 (by decide) rfl e160 (by decide) (fun c => ?_) (fun c => ?_)
                    · replace h := h.1 c
                      refine st_aload_n (pc' := 592) dX12_goesOn_591 rfl rfl (j := 0) rfl ?_
                      refine st_callV (pc' := 595) (kc := k - 1) (E' := LAY) (cal := m_X12_ahead) (n := 0) (as := []) (S := []) dX12_goesOn_592 rfl l_X12_308 k_X12_ahead rfl L_74 c_X12 rfl rfl (Nat.le_of_ble_eq_true rfl) (by omega) ⟨Nat.le_refl _, Nat.le_refl _, Nat.le_refl _, Nat.le_refl _⟩ h (fun r M' q => ?_)
                      obtain ⟨I201, J202, rfl, rfl, h⟩ := q
                      change WP _ LAY m_X12_goesOn 595 [(0, vR (some 74)), (1, vI x1), (2, vI x2), (3, vI x3)] [] (mem (P, some 5, some 22) I201 J202) Q
                      refine st_iconst (pc' := 596) dX12_goesOn_595 rfl ?_
                      exact st_iret (ty := .boolean) dX12_goesOn_596 rfl (by decide) rfl h
                    · replace h := h.2 c
                      refine st_aload_n (pc' := 580) dX12_goesOn_579 rfl rfl (j := 0) rfl ?_
                      refine G_X12_139_74 dX12_goesOn_580 (pc' := 583) rfl rfl ?_
                      refine st_aload_n (pc' := 584) dX12_goesOn_583 rfl rfl (j := 0) rfl ?_
                      refine G_X12_152_74 dX12_goesOn_584 (pc' := 587) rfl rfl ?_
                      rw [show gi (si (si I198 74 46 ((gi I198 74 46) - 1)) 74 47 ((gi I198 74 47) - 1)) 74 46 = (gi (si I198 74 46 ((gi I198 74 46) - 1)) 74 46) from (gi_idx _ _ _ (by decide))]
                      refine st_iconst (pc' := 588) dX12_goesOn_587 rfl ?_
                      refine st_isub (pc' := 589) dX12_goesOn_588 rfl ?_
                      refine st_iconst (pc' := 590) dX12_goesOn_589 rfl ?_
                      obtain ⟨e203, h⟩ := h
                      refine st_iastore (pc' := 591) (M' := (mem (P, some 5, some 22) (si (si (si I198 74 46 ((gi I198 74 46) - 1)) 74 47 ((gi I198 74 47) - 1)) 102 ((gi (si I198 74 46 ((gi I198 74 46) - 1)) 74 46) - 1).toNat 2) J199)) dX12_goesOn_590 rfl L_102 (by decide) e203 rfl ?_
                      refine st_aload_n (pc' := 592) dX12_goesOn_591 rfl rfl (j := 0) rfl ?_
                      refine st_callV (pc' := 595) (kc := k - 1) (E' := LAY) (cal := m_X12_ahead) (n := 0) (as := []) (S := []) dX12_goesOn_592 rfl l_X12_308 k_X12_ahead rfl L_74 c_X12 rfl rfl (Nat.le_of_ble_eq_true rfl) (by omega) ⟨Nat.le_refl _, Nat.le_refl _, Nat.le_refl _, Nat.le_refl _⟩ h (fun r M' q => ?_)
                      obtain ⟨I205, J206, rfl, rfl, h⟩ := q
                      change WP _ LAY m_X12_goesOn 595 [(0, vR (some 74)), (1, vI x1), (2, vI x2), (3, vI x3)] [] (mem (P, some 5, some 22) I205 J206) Q
                      refine st_iconst (pc' := 596) dX12_goesOn_595 rfl ?_
                      exact st_iret (ty := .boolean) dX12_goesOn_596 rfl (by decide) rfl h
                  · replace h := h.2 c
                    refine st_aload_n (pc' := 564) dX12_goesOn_563 rfl rfl (j := 0) rfl ?_
                    refine st_aload_n (pc' := 565) dX12_goesOn_564 rfl rfl (j := 0) rfl ?_
                    refine G_X12_146_74 dX12_goesOn_565 (pc' := 568) rfl rfl ?_
                    refine st_iload_n (pc' := 569) dX12_goesOn_568 rfl rfl (j := 1) rfl ?_
                    refine st_iaload (pc' := 570) (v := (gi I198 104 (x1).toNat)) dX12_goesOn_569 rfl L_104 (by decide) e82 (show gi (si (si I198 74 46 ((gi I198 74 46) - 1)) 74 47 ((gi I198 74 47) - 1)) 104 (x1).toNat = (gi I198 104 (x1).toNat) from ((gi_cell _ _ _ _ (by decide)).trans (gi_cell _ _ _ _ (by decide)))) ?_
                    refine st_iconst (pc' := 571) dX12_goesOn_570 rfl ?_
                    refine st_callV (pc' := 574) (kc := k - 1) (E' := LAY) (cal := m_X12_add) (n := 2) (as := [vI (gi I198 104 (x1).toNat), vI 0]) (S := []) dX12_goesOn_571 rfl l_X12_376 k_X12_add rfl L_74 c_X12 rfl rfl (Nat.le_of_ble_eq_true rfl) (by omega) ⟨Nat.le_refl _, Nat.le_refl _, Nat.le_refl _, Nat.le_refl _⟩ (Q1 := fun r M' => WP k LAY m_X12_goesOn 574 [(0, vR (some 74)), (1, vI x1), (2, vI x2), (3, vI x3)] (r.toList ++ []) M' Q) (WPm.of k_X12_add.1 (Nat.le_of_ble_eq_true rfl) (B_X12_add_0 (by omega) ?_)) (fun r M' q => q)
                    obtain ⟨e207, h⟩ := h
                    refine ⟨e207, ?_⟩
                    change WP _ LAY m_X12_goesOn 574 [(0, vR (some 74)), (1, vI x1), (2, vI x2), (3, vI x3)] [] (mem (P, some 5, some 22) (si (si (si (si (si I198 74 46 ((gi I198 74 46) - 1)) 74 47 ((gi I198 74 47) - 1)) 95 ((1600 * (gi (si (si I198 74 46 ((gi I198 74 46) - 1)) 74 47 ((gi I198 74 47) - 1)) 74 40)) + (gi (si (si I198 74 46 ((gi I198 74 46) - 1)) 74 47 ((gi I198 74 47) - 1)) 74 39)).toNat (gi I198 104 (x1).toNat)) 96 ((1600 * (gi (si (si I198 74 46 ((gi I198 74 46) - 1)) 74 47 ((gi I198 74 47) - 1)) 74 40)) + (gi (si (si I198 74 46 ((gi I198 74 46) - 1)) 74 47 ((gi I198 74 47) - 1)) 74 39)).toNat 0) 74 39 ((gi (si (si I198 74 46 ((gi I198 74 46) - 1)) 74 47 ((gi I198 74 47) - 1)) 74 39) + 1)) J199) Q
                    refine st_iload_n (pc' := 575) dX12_goesOn_574 rfl rfl (j := 2) rfl ?_
                    refine st_iconst (pc' := 576) dX12_goesOn_575 rfl ?_
                    refine st_icmp_ne (tg := 591) (pc' := 579) dX12_goesOn_576 (by decide) rfl e160 (by decide) (fun c => ?_) (fun c => ?_)
                    · replace h := h.1 c
                      refine st_aload_n (pc' := 592) dX12_goesOn_591 rfl rfl (j := 0) rfl ?_
                      refine st_callV (pc' := 595) (kc := k - 1) (E' := LAY) (cal := m_X12_ahead) (n := 0) (as := []) (S := []) dX12_goesOn_592 rfl l_X12_308 k_X12_ahead rfl L_74 c_X12 rfl rfl (Nat.le_of_ble_eq_true rfl) (by omega) ⟨Nat.le_refl _, Nat.le_refl _, Nat.le_refl _, Nat.le_refl _⟩ h (fun r M' q => ?_)
                      obtain ⟨I209, J210, rfl, rfl, h⟩ := q
                      change WP _ LAY m_X12_goesOn 595 [(0, vR (some 74)), (1, vI x1), (2, vI x2), (3, vI x3)] [] (mem (P, some 5, some 22) I209 J210) Q
                      refine st_iconst (pc' := 596) dX12_goesOn_595 rfl ?_
                      exact st_iret (ty := .boolean) dX12_goesOn_596 rfl (by decide) rfl h
                    · replace h := h.2 c
                      refine st_aload_n (pc' := 580) dX12_goesOn_579 rfl rfl (j := 0) rfl ?_
                      refine G_X12_139_74 dX12_goesOn_580 (pc' := 583) rfl rfl ?_
                      refine st_aload_n (pc' := 584) dX12_goesOn_583 rfl rfl (j := 0) rfl ?_
                      refine G_X12_152_74 dX12_goesOn_584 (pc' := 587) rfl rfl ?_
                      rw [show gi (si (si (si (si (si I198 74 46 ((gi I198 74 46) - 1)) 74 47 ((gi I198 74 47) - 1)) 95 ((1600 * (gi (si (si I198 74 46 ((gi I198 74 46) - 1)) 74 47 ((gi I198 74 47) - 1)) 74 40)) + (gi (si (si I198 74 46 ((gi I198 74 46) - 1)) 74 47 ((gi I198 74 47) - 1)) 74 39)).toNat (gi I198 104 (x1).toNat)) 96 ((1600 * (gi (si (si I198 74 46 ((gi I198 74 46) - 1)) 74 47 ((gi I198 74 47) - 1)) 74 40)) + (gi (si (si I198 74 46 ((gi I198 74 46) - 1)) 74 47 ((gi I198 74 47) - 1)) 74 39)).toNat 0) 74 39 ((gi (si (si I198 74 46 ((gi I198 74 46) - 1)) 74 47 ((gi I198 74 47) - 1)) 74 39) + 1)) 74 46 = (gi (si I198 74 46 ((gi I198 74 46) - 1)) 74 46) from ((gi_idx _ _ _ (by decide)).trans ((gi_cell _ _ _ _ (by decide)).trans ((gi_cell _ _ _ _ (by decide)).trans (gi_idx _ _ _ (by decide)))))]
                      refine st_iconst (pc' := 588) dX12_goesOn_587 rfl ?_
                      refine st_isub (pc' := 589) dX12_goesOn_588 rfl ?_
                      refine st_iconst (pc' := 590) dX12_goesOn_589 rfl ?_
                      obtain ⟨e211, h⟩ := h
                      refine st_iastore (pc' := 591) (M' := (mem (P, some 5, some 22) (si (si (si (si (si (si I198 74 46 ((gi I198 74 46) - 1)) 74 47 ((gi I198 74 47) - 1)) 95 ((1600 * (gi (si (si I198 74 46 ((gi I198 74 46) - 1)) 74 47 ((gi I198 74 47) - 1)) 74 40)) + (gi (si (si I198 74 46 ((gi I198 74 46) - 1)) 74 47 ((gi I198 74 47) - 1)) 74 39)).toNat (gi I198 104 (x1).toNat)) 96 ((1600 * (gi (si (si I198 74 46 ((gi I198 74 46) - 1)) 74 47 ((gi I198 74 47) - 1)) 74 40)) + (gi (si (si I198 74 46 ((gi I198 74 46) - 1)) 74 47 ((gi I198 74 47) - 1)) 74 39)).toNat 0) 74 39 ((gi (si (si I198 74 46 ((gi I198 74 46) - 1)) 74 47 ((gi I198 74 47) - 1)) 74 39) + 1)) 102 ((gi (si I198 74 46 ((gi I198 74 46) - 1)) 74 46) - 1).toNat 2) J199)) dX12_goesOn_590 rfl L_102 (by decide) e211 rfl ?_
                      refine st_aload_n (pc' := 592) dX12_goesOn_591 rfl rfl (j := 0) rfl ?_
                      refine st_callV (pc' := 595) (kc := k - 1) (E' := LAY) (cal := m_X12_ahead) (n := 0) (as := []) (S := []) dX12_goesOn_592 rfl l_X12_308 k_X12_ahead rfl L_74 c_X12 rfl rfl (Nat.le_of_ble_eq_true rfl) (by omega) ⟨Nat.le_refl _, Nat.le_refl _, Nat.le_refl _, Nat.le_refl _⟩ h (fun r M' q => ?_)
                      obtain ⟨I213, J214, rfl, rfl, h⟩ := q
                      change WP _ LAY m_X12_goesOn 595 [(0, vR (some 74)), (1, vI x1), (2, vI x2), (3, vI x3)] [] (mem (P, some 5, some 22) I213 J214) Q
                      refine st_iconst (pc' := 596) dX12_goesOn_595 rfl ?_
                      exact st_iret (ty := .boolean) dX12_goesOn_596 rfl (by decide) rfl h
                · replace h := h.2 c
                  refine st_iconst (pc' := 532) dX12_goesOn_531 rfl ?_
                  exact st_iret (ty := .boolean) dX12_goesOn_532 rfl (by decide) rfl h
              · replace h := h.2 (b2i_f.mp c)
                refine st_aload_n (pc' := 516) dX12_goesOn_515 rfl rfl (j := 0) rfl ?_
                refine st_iconst (pc' := 517) dX12_goesOn_516 rfl ?_
                refine st_aload_n (pc' := 518) dX12_goesOn_517 rfl rfl (j := 0) rfl ?_
                refine G_X12_23_74 dX12_goesOn_518 (pc' := 521) rfl rfl ?_
                refine st_callV (pc' := 524) (kc := k - 1) (E' := LAY) (cal := m_X12_blame) (n := 2) (as := [vI 1, vI (gi I 74 4)]) (S := []) dX12_goesOn_521 rfl l_X12_287 k_X12_blame rfl L_74 c_X12 rfl rfl (Nat.le_of_ble_eq_true rfl) (by omega) ⟨Nat.le_refl _, Nat.le_refl _, Nat.le_refl _, Nat.le_refl _⟩ (Q1 := fun r M' => WP k LAY m_X12_goesOn 524 [(0, vR (some 74)), (1, vI x1), (2, vI x2), (3, vI x3)] (r.toList ++ []) M' Q) (WPm.of k_X12_blame.1 (Nat.le_of_ble_eq_true rfl) (B_X12_blame_0 (by omega) ?_)) (fun r M' q => q)
                refine ⟨fun c => ?_, fun c => ?_⟩
                · replace h := h.1 c
                  change WP _ LAY m_X12_goesOn 524 [(0, vR (some 74)), (1, vI x1), (2, vI x2), (3, vI x3)] [] (mem (P, some 5, some 22) (si (si I 74 8 1) 74 9 (gi I 74 4)) J) Q
                  refine st_aload_n (pc' := 525) dX12_goesOn_524 rfl rfl (j := 0) rfl ?_
                  refine G_X12_36_74 dX12_goesOn_525 (pc' := 528) rfl rfl ?_
                  rw [show gi (si (si I 74 8 1) 74 9 (gi I 74 4)) 74 8 = 1 from ((gi_idx _ _ _ (by decide)).trans (gi_same _ _ _ (by decide)))]
                  refine st_if_le (tg := 533) (pc' := 531) dX12_goesOn_528 (by decide) rfl (by decide) (fun c => ?_) (fun c => ?_)
                  · exact absurd c (by decide)
                  · refine st_iconst (pc' := 532) dX12_goesOn_531 rfl ?_
                    exact st_iret (ty := .boolean) dX12_goesOn_532 rfl (by decide) rfl h
                · replace h := h.2 c
                  change WP _ LAY m_X12_goesOn 524 [(0, vR (some 74)), (1, vI x1), (2, vI x2), (3, vI x3)] [] (mem (P, some 5, some 22) I J) Q
                  refine st_aload_n (pc' := 525) dX12_goesOn_524 rfl rfl (j := 0) rfl ?_
                  refine G_X12_36_74 dX12_goesOn_525 (pc' := 528) rfl rfl ?_
                  refine st_if_le (tg := 533) (pc' := 531) dX12_goesOn_528 (by decide) rfl (gi_in _ _ _) (fun c => ?_) (fun c => ?_)
                  · replace h := h.1 c
                    refine st_aload_n (pc' := 534) dX12_goesOn_533 rfl rfl (j := 0) rfl ?_
                    refine st_iconst (pc' := 535) dX12_goesOn_534 rfl ?_
                    refine st_callV (pc' := 538) (kc := k - 1) (E' := LAY) (cal := m_X12_joins) (n := 1) (as := [vI 1]) (S := []) dX12_goesOn_535 rfl l_X12_394 k_X12_joins rfl L_74 c_X12 rfl rfl (Nat.le_of_ble_eq_true rfl) (by omega) ⟨Nat.le_refl _, Nat.le_refl _, Nat.le_refl _, Nat.le_refl _⟩ h (fun r M' q => ?_)
                    obtain ⟨I216, J217, rfl, rfl, h⟩ := q
                    change WP _ LAY m_X12_goesOn 538 [(0, vR (some 74)), (1, vI x1), (2, vI x2), (3, vI x3)] [] (mem (P, some 5, some 22) I216 J217) Q
                    refine st_aload_n (pc' := 539) dX12_goesOn_538 rfl rfl (j := 0) rfl ?_
                    refine st_dup (pc' := 540) dX12_goesOn_539 rfl rfl ?_
                    refine G_X12_152_74 dX12_goesOn_540 (pc' := 543) rfl rfl ?_
                    refine st_iconst (pc' := 544) dX12_goesOn_543 rfl ?_
                    refine st_isub (pc' := 545) dX12_goesOn_544 rfl ?_
                    refine P_X12_152_74 dX12_goesOn_545 (pc' := 548) rfl rfl ?_
                    refine st_aload_n (pc' := 549) dX12_goesOn_548 rfl rfl (j := 0) rfl ?_
                    refine st_dup (pc' := 550) dX12_goesOn_549 rfl rfl ?_
                    refine G_X12_155_74 dX12_goesOn_550 (pc' := 553) rfl rfl ?_
                    rw [show gi (si I216 74 46 ((gi I216 74 46) - 1)) 74 47 = (gi I216 74 47) from (gi_idx _ _ _ (by decide))]
                    refine st_iconst (pc' := 554) dX12_goesOn_553 rfl ?_
                    refine st_isub (pc' := 555) dX12_goesOn_554 rfl ?_
                    refine P_X12_155_74 dX12_goesOn_555 (pc' := 558) rfl rfl ?_
                    refine st_iload_n (pc' := 559) dX12_goesOn_558 rfl rfl (j := 2) rfl ?_
                    refine st_iconst (pc' := 560) dX12_goesOn_559 rfl ?_
                    refine st_icmp_ne (tg := 574) (pc' := 563) dX12_goesOn_560 (by decide) rfl e160 (by decide) (fun c => ?_) (fun c => ?_)
                    · replace h := h.1 c
                      refine st_iload_n (pc' := 575) dX12_goesOn_574 rfl rfl (j := 2) rfl ?_
                      refine st_iconst (pc' := 576) dX12_goesOn_575 rfl ?_
                      refine st_icmp_ne (tg := 591) (pc' := 579) dX12_goesOn_576 (by decide) rfl e160 (by decide) (fun c => ?_) (fun c => ?_)
                      · replace h := h.1 c
                        refine st_aload_n (pc' := 592) dX12_goesOn_591 rfl rfl (j := 0) rfl ?_
                        refine st_callV (pc' := 595) (kc := k - 1) (E' := LAY) (cal := m_X12_ahead) (n := 0) (as := []) (S := []) dX12_goesOn_592 rfl l_X12_308 k_X12_ahead rfl L_74 c_X12 rfl rfl (Nat.le_of_ble_eq_true rfl) (by omega) ⟨Nat.le_refl _, Nat.le_refl _, Nat.le_refl _, Nat.le_refl _⟩ h (fun r M' q => ?_)
                        obtain ⟨I219, J220, rfl, rfl, h⟩ := q
                        change WP _ LAY m_X12_goesOn 595 [(0, vR (some 74)), (1, vI x1), (2, vI x2), (3, vI x3)] [] (mem (P, some 5, some 22) I219 J220) Q
                        refine st_iconst (pc' := 596) dX12_goesOn_595 rfl ?_
                        exact st_iret (ty := .boolean) dX12_goesOn_596 rfl (by decide) rfl h
                      · replace h := h.2 c
                        refine st_aload_n (pc' := 580) dX12_goesOn_579 rfl rfl (j := 0) rfl ?_
                        refine G_X12_139_74 dX12_goesOn_580 (pc' := 583) rfl rfl ?_
                        refine st_aload_n (pc' := 584) dX12_goesOn_583 rfl rfl (j := 0) rfl ?_
                        refine G_X12_152_74 dX12_goesOn_584 (pc' := 587) rfl rfl ?_
                        rw [show gi (si (si I216 74 46 ((gi I216 74 46) - 1)) 74 47 ((gi I216 74 47) - 1)) 74 46 = (gi (si I216 74 46 ((gi I216 74 46) - 1)) 74 46) from (gi_idx _ _ _ (by decide))]
                        refine st_iconst (pc' := 588) dX12_goesOn_587 rfl ?_
                        refine st_isub (pc' := 589) dX12_goesOn_588 rfl ?_
                        refine st_iconst (pc' := 590) dX12_goesOn_589 rfl ?_
                        obtain ⟨e221, h⟩ := h
                        refine st_iastore (pc' := 591) (M' := (mem (P, some 5, some 22) (si (si (si I216 74 46 ((gi I216 74 46) - 1)) 74 47 ((gi I216 74 47) - 1)) 102 ((gi (si I216 74 46 ((gi I216 74 46) - 1)) 74 46) - 1).toNat 2) J217)) dX12_goesOn_590 rfl L_102 (by decide) e221 rfl ?_
                        refine st_aload_n (pc' := 592) dX12_goesOn_591 rfl rfl (j := 0) rfl ?_
                        refine st_callV (pc' := 595) (kc := k - 1) (E' := LAY) (cal := m_X12_ahead) (n := 0) (as := []) (S := []) dX12_goesOn_592 rfl l_X12_308 k_X12_ahead rfl L_74 c_X12 rfl rfl (Nat.le_of_ble_eq_true rfl) (by omega) ⟨Nat.le_refl _, Nat.le_refl _, Nat.le_refl _, Nat.le_refl _⟩ h (fun r M' q => ?_)
                        obtain ⟨I223, J224, rfl, rfl, h⟩ := q
                        change WP _ LAY m_X12_goesOn 595 [(0, vR (some 74)), (1, vI x1), (2, vI x2), (3, vI x3)] [] (mem (P, some 5, some 22) I223 J224) Q
                        refine st_iconst (pc' := 596) dX12_goesOn_595 rfl ?_
                        exact st_iret (ty := .boolean) dX12_goesOn_596 rfl (by decide) rfl h
                    · replace h := h.2 c
                      refine st_aload_n (pc' := 564) dX12_goesOn_563 rfl rfl (j := 0) rfl ?_
                      refine st_aload_n (pc' := 565) dX12_goesOn_564 rfl rfl (j := 0) rfl ?_
                      refine G_X12_146_74 dX12_goesOn_565 (pc' := 568) rfl rfl ?_
                      refine st_iload_n (pc' := 569) dX12_goesOn_568 rfl rfl (j := 1) rfl ?_
                      refine st_iaload (pc' := 570) (v := (gi I216 104 (x1).toNat)) dX12_goesOn_569 rfl L_104 (by decide) e82 (show gi (si (si I216 74 46 ((gi I216 74 46) - 1)) 74 47 ((gi I216 74 47) - 1)) 104 (x1).toNat = (gi I216 104 (x1).toNat) from ((gi_cell _ _ _ _ (by decide)).trans (gi_cell _ _ _ _ (by decide)))) ?_
                      refine st_iconst (pc' := 571) dX12_goesOn_570 rfl ?_
                      refine st_callV (pc' := 574) (kc := k - 1) (E' := LAY) (cal := m_X12_add) (n := 2) (as := [vI (gi I216 104 (x1).toNat), vI 0]) (S := []) dX12_goesOn_571 rfl l_X12_376 k_X12_add rfl L_74 c_X12 rfl rfl (Nat.le_of_ble_eq_true rfl) (by omega) ⟨Nat.le_refl _, Nat.le_refl _, Nat.le_refl _, Nat.le_refl _⟩ (Q1 := fun r M' => WP k LAY m_X12_goesOn 574 [(0, vR (some 74)), (1, vI x1), (2, vI x2), (3, vI x3)] (r.toList ++ []) M' Q) (WPm.of k_X12_add.1 (Nat.le_of_ble_eq_true rfl) (B_X12_add_0 (by omega) ?_)) (fun r M' q => q)
                      obtain ⟨e225, h⟩ := h
                      refine ⟨e225, ?_⟩
                      change WP _ LAY m_X12_goesOn 574 [(0, vR (some 74)), (1, vI x1), (2, vI x2), (3, vI x3)] [] (mem (P, some 5, some 22) (si (si (si (si (si I216 74 46 ((gi I216 74 46) - 1)) 74 47 ((gi I216 74 47) - 1)) 95 ((1600 * (gi (si (si I216 74 46 ((gi I216 74 46) - 1)) 74 47 ((gi I216 74 47) - 1)) 74 40)) + (gi (si (si I216 74 46 ((gi I216 74 46) - 1)) 74 47 ((gi I216 74 47) - 1)) 74 39)).toNat (gi I216 104 (x1).toNat)) 96 ((1600 * (gi (si (si I216 74 46 ((gi I216 74 46) - 1)) 74 47 ((gi I216 74 47) - 1)) 74 40)) + (gi (si (si I216 74 46 ((gi I216 74 46) - 1)) 74 47 ((gi I216 74 47) - 1)) 74 39)).toNat 0) 74 39 ((gi (si (si I216 74 46 ((gi I216 74 46) - 1)) 74 47 ((gi I216 74 47) - 1)) 74 39) + 1)) J217) Q
                      refine st_iload_n (pc' := 575) dX12_goesOn_574 rfl rfl (j := 2) rfl ?_
                      refine st_iconst (pc' := 576) dX12_goesOn_575 rfl ?_
                      refine st_icmp_ne (tg := 591) (pc' := 579) dX12_goesOn_576 (by decide) rfl e160 (by decide) (fun c => ?_) (fun c => ?_)
                      · replace h := h.1 c
                        refine st_aload_n (pc' := 592) dX12_goesOn_591 rfl rfl (j := 0) rfl ?_
                        refine st_callV (pc' := 595) (kc := k - 1) (E' := LAY) (cal := m_X12_ahead) (n := 0) (as := []) (S := []) dX12_goesOn_592 rfl l_X12_308 k_X12_ahead rfl L_74 c_X12 rfl rfl (Nat.le_of_ble_eq_true rfl) (by omega) ⟨Nat.le_refl _, Nat.le_refl _, Nat.le_refl _, Nat.le_refl _⟩ h (fun r M' q => ?_)
                        obtain ⟨I227, J228, rfl, rfl, h⟩ := q
                        change WP _ LAY m_X12_goesOn 595 [(0, vR (some 74)), (1, vI x1), (2, vI x2), (3, vI x3)] [] (mem (P, some 5, some 22) I227 J228) Q
                        refine st_iconst (pc' := 596) dX12_goesOn_595 rfl ?_
                        exact st_iret (ty := .boolean) dX12_goesOn_596 rfl (by decide) rfl h
                      · replace h := h.2 c
                        refine st_aload_n (pc' := 580) dX12_goesOn_579 rfl rfl (j := 0) rfl ?_
                        refine G_X12_139_74 dX12_goesOn_580 (pc' := 583) rfl rfl ?_
                        refine st_aload_n (pc' := 584) dX12_goesOn_583 rfl rfl (j := 0) rfl ?_
                        refine G_X12_152_74 dX12_goesOn_584 (pc' := 587) rfl rfl ?_
                        rw [show gi (si (si (si (si (si I216 74 46 ((gi I216 74 46) - 1)) 74 47 ((gi I216 74 47) - 1)) 95 ((1600 * (gi (si (si I216 74 46 ((gi I216 74 46) - 1)) 74 47 ((gi I216 74 47) - 1)) 74 40)) + (gi (si (si I216 74 46 ((gi I216 74 46) - 1)) 74 47 ((gi I216 74 47) - 1)) 74 39)).toNat (gi I216 104 (x1).toNat)) 96 ((1600 * (gi (si (si I216 74 46 ((gi I216 74 46) - 1)) 74 47 ((gi I216 74 47) - 1)) 74 40)) + (gi (si (si I216 74 46 ((gi I216 74 46) - 1)) 74 47 ((gi I216 74 47) - 1)) 74 39)).toNat 0) 74 39 ((gi (si (si I216 74 46 ((gi I216 74 46) - 1)) 74 47 ((gi I216 74 47) - 1)) 74 39) + 1)) 74 46 = (gi (si I216 74 46 ((gi I216 74 46) - 1)) 74 46) from ((gi_idx _ _ _ (by decide)).trans ((gi_cell _ _ _ _ (by decide)).trans ((gi_cell _ _ _ _ (by decide)).trans (gi_idx _ _ _ (by decide)))))]
                        refine st_iconst (pc' := 588) dX12_goesOn_587 rfl ?_
                        refine st_isub (pc' := 589) dX12_goesOn_588 rfl ?_
                        refine st_iconst (pc' := 590) dX12_goesOn_589 rfl ?_
                        obtain ⟨e229, h⟩ := h
                        refine st_iastore (pc' := 591) (M' := (mem (P, some 5, some 22) (si (si (si (si (si (si I216 74 46 ((gi I216 74 46) - 1)) 74 47 ((gi I216 74 47) - 1)) 95 ((1600 * (gi (si (si I216 74 46 ((gi I216 74 46) - 1)) 74 47 ((gi I216 74 47) - 1)) 74 40)) + (gi (si (si I216 74 46 ((gi I216 74 46) - 1)) 74 47 ((gi I216 74 47) - 1)) 74 39)).toNat (gi I216 104 (x1).toNat)) 96 ((1600 * (gi (si (si I216 74 46 ((gi I216 74 46) - 1)) 74 47 ((gi I216 74 47) - 1)) 74 40)) + (gi (si (si I216 74 46 ((gi I216 74 46) - 1)) 74 47 ((gi I216 74 47) - 1)) 74 39)).toNat 0) 74 39 ((gi (si (si I216 74 46 ((gi I216 74 46) - 1)) 74 47 ((gi I216 74 47) - 1)) 74 39) + 1)) 102 ((gi (si I216 74 46 ((gi I216 74 46) - 1)) 74 46) - 1).toNat 2) J217)) dX12_goesOn_590 rfl L_102 (by decide) e229 rfl ?_
                        refine st_aload_n (pc' := 592) dX12_goesOn_591 rfl rfl (j := 0) rfl ?_
                        refine st_callV (pc' := 595) (kc := k - 1) (E' := LAY) (cal := m_X12_ahead) (n := 0) (as := []) (S := []) dX12_goesOn_592 rfl l_X12_308 k_X12_ahead rfl L_74 c_X12 rfl rfl (Nat.le_of_ble_eq_true rfl) (by omega) ⟨Nat.le_refl _, Nat.le_refl _, Nat.le_refl _, Nat.le_refl _⟩ h (fun r M' q => ?_)
                        obtain ⟨I231, J232, rfl, rfl, h⟩ := q
                        change WP _ LAY m_X12_goesOn 595 [(0, vR (some 74)), (1, vI x1), (2, vI x2), (3, vI x3)] [] (mem (P, some 5, some 22) I231 J232) Q
                        refine st_iconst (pc' := 596) dX12_goesOn_595 rfl ?_
                        exact st_iret (ty := .boolean) dX12_goesOn_596 rfl (by decide) rfl h
                  · replace h := h.2 c
                    refine st_iconst (pc' := 532) dX12_goesOn_531 rfl ?_
                    exact st_iret (ty := .boolean) dX12_goesOn_532 rfl (by decide) rfl h
          · replace h := h.2 c
            refine st_aload_n (pc' := 447) dX12_goesOn_446 rfl rfl (j := 0) rfl ?_
            refine st_bipush (pc' := 449) dX12_goesOn_447 rfl (by decide) ?_
            refine st_callV (pc' := 452) (kc := k - 1) (E' := LAY) (cal := m_X12_isSign) (n := 1) (as := [vI 44]) (S := []) dX12_goesOn_449 rfl l_X12_305 k_X12_isSign rfl L_74 c_X12 rfl rfl (Nat.le_of_ble_eq_true rfl) (by omega) ⟨Nat.le_refl _, Nat.le_refl _, Nat.le_refl _, Nat.le_refl _⟩ (Q1 := fun r M' => WP k LAY m_X12_goesOn 452 [(0, vR (some 74)), (1, vI x1), (2, vI x2), (3, vI x3)] (r.toList ++ []) M' Q) (S_X12_isSign (by omega) (by decide) ?_) (fun r M' q => q)
            change WP _ LAY m_X12_goesOn 452 [(0, vR (some 74)), (1, vI x1), (2, vI x2), (3, vI x3)] [vI (b2i (gi I 74 3 = 3 ∧ gi I 74 6 = 44))] (mem (P, some 5, some 22) I J) Q
            refine st_if_ne (tg := 464) (pc' := 455) dX12_goesOn_452 (by decide) rfl (b2i_in _) (fun c => ?_) (fun c => ?_)
            · replace h := h.1 (b2i_t.mp c)
              refine WP_sub (L' := [(0, vR (some 74)), (1, vI x1)]) [0, 1] rfl ?_
              exact h
            · replace h := h.2 (b2i_f.mp c)
              refine st_aload_n (pc' := 456) dX12_goesOn_455 rfl rfl (j := 0) rfl ?_
              refine st_iconst (pc' := 457) dX12_goesOn_456 rfl ?_
              refine st_aload_n (pc' := 458) dX12_goesOn_457 rfl rfl (j := 0) rfl ?_
              refine G_X12_23_74 dX12_goesOn_458 (pc' := 461) rfl rfl ?_
              refine st_callV (pc' := 464) (kc := k - 1) (E' := LAY) (cal := m_X12_blame) (n := 2) (as := [vI 1, vI (gi I 74 4)]) (S := []) dX12_goesOn_461 rfl l_X12_287 k_X12_blame rfl L_74 c_X12 rfl rfl (Nat.le_of_ble_eq_true rfl) (by omega) ⟨Nat.le_refl _, Nat.le_refl _, Nat.le_refl _, Nat.le_refl _⟩ (Q1 := fun r M' => WP k LAY m_X12_goesOn 464 [(0, vR (some 74)), (1, vI x1), (2, vI x2), (3, vI x3)] (r.toList ++ []) M' Q) (WPm.of k_X12_blame.1 (Nat.le_of_ble_eq_true rfl) (B_X12_blame_0 (by omega) ?_)) (fun r M' q => q)
              refine ⟨fun c => ?_, fun c => ?_⟩
              · replace h := h.1 c
                change WP _ LAY m_X12_goesOn 464 [(0, vR (some 74)), (1, vI x1), (2, vI x2), (3, vI x3)] [] (mem (P, some 5, some 22) (si (si I 74 8 1) 74 9 (gi I 74 4)) J) Q
                refine WP_sub (L' := [(0, vR (some 74)), (1, vI x1)]) [0, 1] rfl ?_
                exact h
              · replace h := h.2 c
                change WP _ LAY m_X12_goesOn 464 [(0, vR (some 74)), (1, vI x1), (2, vI x2), (3, vI x3)] [] (mem (P, some 5, some 22) I J) Q
                refine WP_sub (L' := [(0, vR (some 74)), (1, vI x1)]) [0, 1] rfl ?_
                exact h
        · replace h := h.2 c
          refine st_aload_n (pc' := 428) dX12_goesOn_427 rfl rfl (j := 0) rfl ?_
          refine G_X12_36_74 dX12_goesOn_428 (pc' := 431) rfl rfl ?_
          refine st_if_ne (tg := 439) (pc' := 434) dX12_goesOn_431 (by decide) rfl (gi_in _ _ _) (fun c => ?_) (fun c => ?_)
          · replace h := h.1 c
            refine WP_sub (L' := []) [] rfl ?_
            exact h
          · replace h := h.2 c
            refine st_aload_n (pc' := 435) dX12_goesOn_434 rfl rfl (j := 0) rfl ?_
            refine st_iconst (pc' := 436) dX12_goesOn_435 rfl ?_
            refine st_callV (pc' := 439) (kc := k - 1) (E' := LAY) (cal := m_X12_joins) (n := 1) (as := [vI 1]) (S := []) dX12_goesOn_436 rfl l_X12_394 k_X12_joins rfl L_74 c_X12 rfl rfl (Nat.le_of_ble_eq_true rfl) (by omega) ⟨Nat.le_refl _, Nat.le_refl _, Nat.le_refl _, Nat.le_refl _⟩ h (fun r M' q => ?_)
            obtain ⟨I234, J235, rfl, rfl, h⟩ := q
            change WP _ LAY m_X12_goesOn 439 [(0, vR (some 74)), (1, vI x1), (2, vI x2), (3, vI x3)] [] (mem (P, some 5, some 22) I234 J235) Q
            refine WP_sub (L' := []) [] rfl ?_
            exact h
set_option maxRecDepth 20000 in
set_option maxHeartbeats 4000000 in
theorem B_X12_goesOn_309 {k : Nat} {P : Option Nat} {I : Nat → Nat → Int32} {J : Nat → Nat → Int64} {x1 : Int} {Q : Option AV → Mem → Prop} (hk : 1 ≤ k) (h : (0 ≤ x1 ∧ x1 < 20) ∧ ((¬ (gi I 102 (x1).toNat) = 0 → (WP k LAY m_X12_goesOn 327 [(0, vR (some 74)), (1, vI x1)] [] (mem (P, some 5, some 22) I J) Q)) ∧ ((gi I 102 (x1).toNat) = 0 → (((gi I 74 8) ≤ 0 → (WP k LAY m_X12_goesOn 327 [(0, vR (some 74)), (1, vI x1)] [] (mem (P, some 5, some 22) (si (si I 74 8 1) 74 9 (gi I 74 4)) J) Q)) ∧ (¬ (gi I 74 8) ≤ 0 → (WP k LAY m_X12_goesOn 327 [(0, vR (some 74)), (1, vI x1)] [] (mem (P, some 5, some 22) I J) Q)))))) : WP k LAY m_X12_goesOn 309 [(0, vR (some 74)), (1, vI x1)] [] (mem (P, some 5, some 22) I J) Q := by
  refine st_aload_n (pc' := 310) dX12_goesOn_309 rfl rfl (j := 0) rfl ?_
  refine G_X12_139_74 dX12_goesOn_310 (pc' := 313) rfl rfl ?_
  refine st_iload_n (pc' := 314) dX12_goesOn_313 rfl rfl (j := 1) rfl ?_
  obtain ⟨e1, h⟩ := h
  refine st_iaload (pc' := 315) (v := (gi I 102 (x1).toNat)) dX12_goesOn_314 rfl L_102 (by decide) e1 (show gi I 102 (x1).toNat = (gi I 102 (x1).toNat) from rfl) ?_
  refine st_if_ne (tg := 327) (pc' := 318) dX12_goesOn_315 (by decide) rfl (gi_in _ _ _) (fun c => ?_) (fun c => ?_)
  · replace h := h.1 c
    exact h
  · replace h := h.2 c
    refine st_aload_n (pc' := 319) dX12_goesOn_318 rfl rfl (j := 0) rfl ?_
    refine st_iconst (pc' := 320) dX12_goesOn_319 rfl ?_
    refine st_aload_n (pc' := 321) dX12_goesOn_320 rfl rfl (j := 0) rfl ?_
    refine G_X12_23_74 dX12_goesOn_321 (pc' := 324) rfl rfl ?_
    refine st_callV (pc' := 327) (kc := k - 1) (E' := LAY) (cal := m_X12_blame) (n := 2) (as := [vI 1, vI (gi I 74 4)]) (S := []) dX12_goesOn_324 rfl l_X12_287 k_X12_blame rfl L_74 c_X12 rfl rfl (Nat.le_of_ble_eq_true rfl) (by omega) ⟨Nat.le_refl _, Nat.le_refl _, Nat.le_refl _, Nat.le_refl _⟩ (Q1 := fun r M' => WP k LAY m_X12_goesOn 327 [(0, vR (some 74)), (1, vI x1)] (r.toList ++ []) M' Q) (WPm.of k_X12_blame.1 (Nat.le_of_ble_eq_true rfl) (B_X12_blame_0 (by omega) ?_)) (fun r M' q => q)
    refine ⟨fun c => ?_, fun c => ?_⟩
    · replace h := h.1 c
      change WP _ LAY m_X12_goesOn 327 [(0, vR (some 74)), (1, vI x1)] [] (mem (P, some 5, some 22) (si (si I 74 8 1) 74 9 (gi I 74 4)) J) Q
      exact h
    · replace h := h.2 c
      change WP _ LAY m_X12_goesOn 327 [(0, vR (some 74)), (1, vI x1)] [] (mem (P, some 5, some 22) I J) Q
      exact h
set_option maxRecDepth 20000 in
set_option maxHeartbeats 4000000 in
theorem B_X12_goesOn_228 {k : Nat} {P : Option Nat} {I : Nat → Nat → Int32} {J : Nat → Nat → Int64} {x1 : Int} {Q : Option AV → Mem → Prop} (hk : 1 ≤ k) (h : WPm (k - 1) LAY m_X12_joins [vR (some 74), vI 5] (mem (P, some 5, some 22) I J) (retV (fun I2 J3 => (¬ (gi I2 74 3 = 3 ∧ gi I2 74 6 = 60) → ((¬ (gi I2 74 3 = 3 ∧ gi I2 74 6 = 62) → (WP k LAY m_X12_goesOn 264 [(0, vR (some 74)), (1, vI x1)] [vI 19, vR (some 74)] (mem (P, some 5, some 22) I2 J3) Q)) ∧ ((gi I2 74 3 = 3 ∧ gi I2 74 6 = 62) → (WP k LAY m_X12_goesOn 264 [(0, vR (some 74)), (1, vI x1)] [vI 18, vR (some 74)] (mem (P, some 5, some 22) I2 J3) Q)))) ∧ ((gi I2 74 3 = 3 ∧ gi I2 74 6 = 60) → (WP k LAY m_X12_goesOn 264 [(0, vR (some 74)), (1, vI x1)] [vI 17, vR (some 74)] (mem (P, some 5, some 22) I2 J3) Q))) (P, some 5, some 22))) : WP k LAY m_X12_goesOn 228 [(0, vR (some 74)), (1, vI x1)] [] (mem (P, some 5, some 22) I J) Q := by
  refine st_aload_n (pc' := 229) dX12_goesOn_228 rfl rfl (j := 0) rfl ?_
  refine st_iconst (pc' := 230) dX12_goesOn_229 rfl ?_
  refine st_callV (pc' := 233) (kc := k - 1) (E' := LAY) (cal := m_X12_joins) (n := 1) (as := [vI 5]) (S := []) dX12_goesOn_230 rfl l_X12_394 k_X12_joins rfl L_74 c_X12 rfl rfl (Nat.le_of_ble_eq_true rfl) (by omega) ⟨Nat.le_refl _, Nat.le_refl _, Nat.le_refl _, Nat.le_refl _⟩ h (fun r M' q => ?_)
  obtain ⟨I2, J3, rfl, rfl, h⟩ := q
  change WP _ LAY m_X12_goesOn 233 [(0, vR (some 74)), (1, vI x1)] [] (mem (P, some 5, some 22) I2 J3) Q
  refine st_aload_n (pc' := 234) dX12_goesOn_233 rfl rfl (j := 0) rfl ?_
  refine st_aload_n (pc' := 235) dX12_goesOn_234 rfl rfl (j := 0) rfl ?_
  refine st_bipush (pc' := 237) dX12_goesOn_235 rfl (by decide) ?_
  refine st_callV (pc' := 240) (kc := k - 1) (E' := LAY) (cal := m_X12_isSign) (n := 1) (as := [vI 60]) (S := [vR (some 74)]) dX12_goesOn_237 rfl l_X12_305 k_X12_isSign rfl L_74 c_X12 rfl rfl (Nat.le_of_ble_eq_true rfl) (by omega) ⟨Nat.le_refl _, Nat.le_refl _, Nat.le_refl _, Nat.le_refl _⟩ (Q1 := fun r M' => WP k LAY m_X12_goesOn 240 [(0, vR (some 74)), (1, vI x1)] (r.toList ++ [vR (some 74)]) M' Q) (S_X12_isSign (by omega) (by decide) ?_) (fun r M' q => q)
  change WP _ LAY m_X12_goesOn 240 [(0, vR (some 74)), (1, vI x1)] [vI (b2i (gi I2 74 3 = 3 ∧ gi I2 74 6 = 60)), vR (some 74)] (mem (P, some 5, some 22) I2 J3) Q
  refine st_if_eq (tg := 248) (pc' := 243) dX12_goesOn_240 (by decide) rfl (b2i_in _) (fun c => ?_) (fun c => ?_)
  · replace h := h.1 (b2i_f.mp c)
    refine st_aload_n (pc' := 249) dX12_goesOn_248 rfl rfl (j := 0) rfl ?_
    refine st_bipush (pc' := 251) dX12_goesOn_249 rfl (by decide) ?_
    refine st_callV (pc' := 254) (kc := k - 1) (E' := LAY) (cal := m_X12_isSign) (n := 1) (as := [vI 62]) (S := [vR (some 74)]) dX12_goesOn_251 rfl l_X12_305 k_X12_isSign rfl L_74 c_X12 rfl rfl (Nat.le_of_ble_eq_true rfl) (by omega) ⟨Nat.le_refl _, Nat.le_refl _, Nat.le_refl _, Nat.le_refl _⟩ (Q1 := fun r M' => WP k LAY m_X12_goesOn 254 [(0, vR (some 74)), (1, vI x1)] (r.toList ++ [vR (some 74)]) M' Q) (S_X12_isSign (by omega) (by decide) ?_) (fun r M' q => q)
    change WP _ LAY m_X12_goesOn 254 [(0, vR (some 74)), (1, vI x1)] [vI (b2i (gi I2 74 3 = 3 ∧ gi I2 74 6 = 62)), vR (some 74)] (mem (P, some 5, some 22) I2 J3) Q
    refine st_if_eq (tg := 262) (pc' := 257) dX12_goesOn_254 (by decide) rfl (b2i_in _) (fun c => ?_) (fun c => ?_)
    · replace h := h.1 (b2i_f.mp c)
      refine st_bipush (pc' := 264) dX12_goesOn_262 rfl (by decide) ?_
      exact h
    · replace h := h.2 (b2i_t.mp c)
      refine st_bipush (pc' := 259) dX12_goesOn_257 rfl (by decide) ?_
      refine st_goto (pc' := 264) dX12_goesOn_259 (by decide) ?_
      exact h
  · replace h := h.2 (b2i_t.mp c)
    refine st_bipush (pc' := 245) dX12_goesOn_243 rfl (by decide) ?_
    refine st_goto (pc' := 264) dX12_goesOn_245 (by decide) ?_
    exact h
set_option maxRecDepth 20000 in
set_option maxHeartbeats 4000000 in
theorem B_X12_goesOn_87 {k : Nat} {P : Option Nat} {I : Nat → Nat → Int32} {J : Nat → Nat → Int64}  {Q : Option AV → Mem → Prop} (hk : 1 ≤ k) (h : ((gi I 74 3 = 3 ∧ gi I 74 6 = 43) → (WP k LAY m_X12_goesOn 112 [(0, vR (some 74))] [vI 5, vR (some 74)] (mem (P, some 5, some 22) I J) Q)) ∧ (¬ (gi I 74 3 = 3 ∧ gi I 74 6 = 43) → ((¬ (gi I 74 3 = 3 ∧ gi I 74 6 = 45) → (WP k LAY m_X12_goesOn 112 [(0, vR (some 74))] [vI 6, vR (some 74)] (mem (P, some 5, some 22) I J) Q)) ∧ ((gi I 74 3 = 3 ∧ gi I 74 6 = 45) → (WP k LAY m_X12_goesOn 112 [(0, vR (some 74))] [vI 5, vR (some 74)] (mem (P, some 5, some 22) I J) Q))))) : WP k LAY m_X12_goesOn 87 [(0, vR (some 74))] [] (mem (P, some 5, some 22) I J) Q := by
  refine st_aload_n (pc' := 88) dX12_goesOn_87 rfl rfl (j := 0) rfl ?_
  refine st_aload_n (pc' := 89) dX12_goesOn_88 rfl rfl (j := 0) rfl ?_
  refine st_bipush (pc' := 91) dX12_goesOn_89 rfl (by decide) ?_
  refine st_callV (pc' := 94) (kc := k - 1) (E' := LAY) (cal := m_X12_isSign) (n := 1) (as := [vI 43]) (S := [vR (some 74)]) dX12_goesOn_91 rfl l_X12_305 k_X12_isSign rfl L_74 c_X12 rfl rfl (Nat.le_of_ble_eq_true rfl) (by omega) ⟨Nat.le_refl _, Nat.le_refl _, Nat.le_refl _, Nat.le_refl _⟩ (Q1 := fun r M' => WP k LAY m_X12_goesOn 94 [(0, vR (some 74))] (r.toList ++ [vR (some 74)]) M' Q) (S_X12_isSign (by omega) (by decide) ?_) (fun r M' q => q)
  change WP _ LAY m_X12_goesOn 94 [(0, vR (some 74))] [vI (b2i (gi I 74 3 = 3 ∧ gi I 74 6 = 43)), vR (some 74)] (mem (P, some 5, some 22) I J) Q
  refine st_if_ne (tg := 106) (pc' := 97) dX12_goesOn_94 (by decide) rfl (b2i_in _) (fun c => ?_) (fun c => ?_)
  · replace h := h.1 (b2i_t.mp c)
    refine st_iconst (pc' := 107) dX12_goesOn_106 rfl ?_
    refine st_goto (pc' := 112) dX12_goesOn_107 (by decide) ?_
    exact h
  · replace h := h.2 (b2i_f.mp c)
    refine st_aload_n (pc' := 98) dX12_goesOn_97 rfl rfl (j := 0) rfl ?_
    refine st_bipush (pc' := 100) dX12_goesOn_98 rfl (by decide) ?_
    refine st_callV (pc' := 103) (kc := k - 1) (E' := LAY) (cal := m_X12_isSign) (n := 1) (as := [vI 45]) (S := [vR (some 74)]) dX12_goesOn_100 rfl l_X12_305 k_X12_isSign rfl L_74 c_X12 rfl rfl (Nat.le_of_ble_eq_true rfl) (by omega) ⟨Nat.le_refl _, Nat.le_refl _, Nat.le_refl _, Nat.le_refl _⟩ (Q1 := fun r M' => WP k LAY m_X12_goesOn 103 [(0, vR (some 74))] (r.toList ++ [vR (some 74)]) M' Q) (S_X12_isSign (by omega) (by decide) ?_) (fun r M' q => q)
    change WP _ LAY m_X12_goesOn 103 [(0, vR (some 74))] [vI (b2i (gi I 74 3 = 3 ∧ gi I 74 6 = 45)), vR (some 74)] (mem (P, some 5, some 22) I J) Q
    refine st_if_eq (tg := 110) (pc' := 106) dX12_goesOn_103 (by decide) rfl (b2i_in _) (fun c => ?_) (fun c => ?_)
    · replace h := h.1 (b2i_f.mp c)
      refine st_bipush (pc' := 112) dX12_goesOn_110 rfl (by decide) ?_
      exact h
    · replace h := h.2 (b2i_t.mp c)
      refine st_iconst (pc' := 107) dX12_goesOn_106 rfl ?_
      refine st_goto (pc' := 112) dX12_goesOn_107 (by decide) ?_
      exact h
set_option maxRecDepth 20000 in
set_option maxHeartbeats 4000000 in
theorem B_X12_goesOn_464 {k : Nat} {P : Option Nat} {I : Nat → Nat → Int32} {J : Nat → Nat → Int64} {x1 : Int} {Q : Option AV → Mem → Prop} (hk : 1 ≤ k) (h : ((gi I 74 8) ≤ 0 → (WPm (k - 1) LAY m_X12_joins [vR (some 74), vI 1] (mem (P, some 5, some 22) I J) (retV (fun I2 J3 => (0 ≤ x1 ∧ x1 < 20) ∧ (WPm (k - 1) LAY m_X12_ahead [vR (some 74)] (mem (P, some 5, some 22) (si I2 101 (x1).toNat 4) J3) (retV (fun I6 J7 => Q (some (vI 1)) (mem (P, some 5, some 22) (si I6 74 50 0) J7)) (P, some 5, some 22)))) (P, some 5, some 22)))) ∧ (¬ (gi I 74 8) ≤ 0 → (Q (some (vI 0)) (mem (P, some 5, some 22) I J)))) : WP k LAY m_X12_goesOn 464 [(0, vR (some 74)), (1, vI x1)] [] (mem (P, some 5, some 22) I J) Q := by
  refine st_aload_n (pc' := 465) dX12_goesOn_464 rfl rfl (j := 0) rfl ?_
  refine G_X12_36_74 dX12_goesOn_465 (pc' := 468) rfl rfl ?_
  refine st_if_le (tg := 473) (pc' := 471) dX12_goesOn_468 (by decide) rfl (gi_in _ _ _) (fun c => ?_) (fun c => ?_)
  · replace h := h.1 c
    refine st_aload_n (pc' := 474) dX12_goesOn_473 rfl rfl (j := 0) rfl ?_
    refine st_iconst (pc' := 475) dX12_goesOn_474 rfl ?_
    refine st_callV (pc' := 478) (kc := k - 1) (E' := LAY) (cal := m_X12_joins) (n := 1) (as := [vI 1]) (S := []) dX12_goesOn_475 rfl l_X12_394 k_X12_joins rfl L_74 c_X12 rfl rfl (Nat.le_of_ble_eq_true rfl) (by omega) ⟨Nat.le_refl _, Nat.le_refl _, Nat.le_refl _, Nat.le_refl _⟩ h (fun r M' q => ?_)
    obtain ⟨I2, J3, rfl, rfl, h⟩ := q
    change WP _ LAY m_X12_goesOn 478 [(0, vR (some 74)), (1, vI x1)] [] (mem (P, some 5, some 22) I2 J3) Q
    refine st_aload_n (pc' := 479) dX12_goesOn_478 rfl rfl (j := 0) rfl ?_
    refine G_X12_136_74 dX12_goesOn_479 (pc' := 482) rfl rfl ?_
    refine st_iload_n (pc' := 483) dX12_goesOn_482 rfl rfl (j := 1) rfl ?_
    refine st_iconst (pc' := 484) dX12_goesOn_483 rfl ?_
    obtain ⟨e4, h⟩ := h
    refine st_iastore (pc' := 485) (M' := (mem (P, some 5, some 22) (si I2 101 (x1).toNat 4) J3)) dX12_goesOn_484 rfl L_101 (by decide) e4 rfl ?_
    refine st_aload_n (pc' := 486) dX12_goesOn_485 rfl rfl (j := 0) rfl ?_
    refine st_callV (pc' := 489) (kc := k - 1) (E' := LAY) (cal := m_X12_ahead) (n := 0) (as := []) (S := []) dX12_goesOn_486 rfl l_X12_308 k_X12_ahead rfl L_74 c_X12 rfl rfl (Nat.le_of_ble_eq_true rfl) (by omega) ⟨Nat.le_refl _, Nat.le_refl _, Nat.le_refl _, Nat.le_refl _⟩ h (fun r M' q => ?_)
    obtain ⟨I6, J7, rfl, rfl, h⟩ := q
    change WP _ LAY m_X12_goesOn 489 [(0, vR (some 74)), (1, vI x1)] [] (mem (P, some 5, some 22) I6 J7) Q
    refine st_aload_n (pc' := 490) dX12_goesOn_489 rfl rfl (j := 0) rfl ?_
    refine st_iconst (pc' := 491) dX12_goesOn_490 rfl ?_
    refine P_X12_164_74 dX12_goesOn_491 (pc' := 494) rfl rfl (by decide) ?_
    refine st_iconst (pc' := 495) dX12_goesOn_494 rfl ?_
    exact st_iret (ty := .boolean) dX12_goesOn_495 rfl (by decide) rfl h
  · replace h := h.2 c
    refine st_iconst (pc' := 472) dX12_goesOn_471 rfl ?_
    exact st_iret (ty := .boolean) dX12_goesOn_472 rfl (by decide) rfl h
set_option maxRecDepth 20000 in
set_option maxHeartbeats 4000000 in
theorem B_X12_goesOn_439 {k : Nat} {P : Option Nat} {I : Nat → Nat → Int32} {J : Nat → Nat → Int64}  {Q : Option AV → Mem → Prop} (hk : 0 ≤ k) (h : Q (some (vI 0)) (mem (P, some 5, some 22) I J)) : WP k LAY m_X12_goesOn 439 [] [] (mem (P, some 5, some 22) I J) Q := by
  refine st_iconst (pc' := 440) dX12_goesOn_439 rfl ?_
  exact st_iret (ty := .boolean) dX12_goesOn_440 rfl (by decide) rfl h
set_option maxRecDepth 20000 in
set_option maxHeartbeats 4000000 in
theorem B_X12_goesOn_327 {k : Nat} {P : Option Nat} {I : Nat → Nat → Int32} {J : Nat → Nat → Int64} {x1 : Int} {Q : Option AV → Mem → Prop} (hk : 1 ≤ k) (h : ((gi I 74 8) ≤ 0 → ((¬ (gi I 74 3 = 1 ∧ gl J 74 7 = 6385252) → (WP k LAY m_X12_goesOn 356 [(0, vR (some 74)), (1, vI x1), (4, vI (b2i (gi I 74 3 = 1 ∧ gl J 74 7 = 6385252)))] [vI 1, vR (some 74)] (mem (P, some 5, some 22) I J) Q)) ∧ ((gi I 74 3 = 1 ∧ gl J 74 7 = 6385252) → (WP k LAY m_X12_goesOn 356 [(0, vR (some 74)), (1, vI x1), (4, vI (b2i (gi I 74 3 = 1 ∧ gl J 74 7 = 6385252)))] [vI 2, vR (some 74)] (mem (P, some 5, some 22) I J) Q)))) ∧ (¬ (gi I 74 8) ≤ 0 → (Q (some (vI 0)) (mem (P, some 5, some 22) I J)))) : WP k LAY m_X12_goesOn 327 [(0, vR (some 74)), (1, vI x1)] [] (mem (P, some 5, some 22) I J) Q := by
  refine st_aload_n (pc' := 328) dX12_goesOn_327 rfl rfl (j := 0) rfl ?_
  refine G_X12_36_74 dX12_goesOn_328 (pc' := 331) rfl rfl ?_
  refine st_if_le (tg := 336) (pc' := 334) dX12_goesOn_331 (by decide) rfl (gi_in _ _ _) (fun c => ?_) (fun c => ?_)
  · replace h := h.1 c
    refine st_aload_n (pc' := 337) dX12_goesOn_336 rfl rfl (j := 0) rfl ?_
    refine st_ldc2 (pc' := 340) (z := 6385252) dX12_goesOn_337 rfl q_X12_351 (by decide) ?_
    refine st_callV (pc' := 343) (kc := k - 1) (E' := LAY) (cal := m_X12_isWord) (n := 1) (as := [vL 6385252]) (S := []) dX12_goesOn_340 rfl l_X12_385 k_X12_isWord rfl L_74 c_X12 rfl rfl (Nat.le_of_ble_eq_true rfl) (by omega) ⟨Nat.le_refl _, Nat.le_refl _, Nat.le_refl _, Nat.le_refl _⟩ (Q1 := fun r M' => WP k LAY m_X12_goesOn 343 [(0, vR (some 74)), (1, vI x1)] (r.toList ++ []) M' Q) (S_X12_isWord (by omega) (by decide) ?_) (fun r M' q => q)
    change WP _ LAY m_X12_goesOn 343 [(0, vR (some 74)), (1, vI x1)] [vI (b2i (gi I 74 3 = 1 ∧ gl J 74 7 = 6385252))] (mem (P, some 5, some 22) I J) Q
    refine st_istore (pc' := 345) (L' := [(4, vI (b2i (gi I 74 3 = 1 ∧ gl J 74 7 = 6385252))), (0, vR (some 74)), (1, vI x1)]) dX12_goesOn_343 rfl (by decide) rfl ?_
    refine st_aload_n (pc' := 346) dX12_goesOn_345 rfl rfl (j := 1) rfl ?_
    refine st_iload (pc' := 348) dX12_goesOn_346 rfl (j := 0) rfl ?_
    refine st_if_eq (tg := 355) (pc' := 351) dX12_goesOn_348 (by decide) rfl (b2i_in _) (fun c => ?_) (fun c => ?_)
    · replace h := h.1 (b2i_f.mp c)
      refine st_iconst (pc' := 356) dX12_goesOn_355 rfl ?_
      refine WP_sub (L' := [(0, vR (some 74)), (1, vI x1), (4, vI (b2i (gi I 74 3 = 1 ∧ gl J 74 7 = 6385252)))]) [1, 2, 0] rfl ?_
      exact h
    · replace h := h.2 (b2i_t.mp c)
      refine st_iconst (pc' := 352) dX12_goesOn_351 rfl ?_
      refine st_goto (pc' := 356) dX12_goesOn_352 (by decide) ?_
      refine WP_sub (L' := [(0, vR (some 74)), (1, vI x1), (4, vI (b2i (gi I 74 3 = 1 ∧ gl J 74 7 = 6385252)))]) [1, 2, 0] rfl ?_
      exact h
  · replace h := h.2 c
    refine st_iconst (pc' := 335) dX12_goesOn_334 rfl ?_
    exact st_iret (ty := .boolean) dX12_goesOn_335 rfl (by decide) rfl h
set_option maxRecDepth 20000 in
set_option maxHeartbeats 4000000 in
theorem B_X12_goesOn_264 {k : Nat} {P : Option Nat} {I : Nat → Nat → Int32} {J : Nat → Nat → Int64} {x1 : Int} {s1 : Int} {Q : Option AV → Mem → Prop} (hk : 1 ≤ k) (h : (0 ≤ (gi I 74 49) ∧ (gi I 74 49) < 500) ∧ ((0 ≤ x1 ∧ x1 < 20) ∧ (WPm (k - 1) LAY m_X12_ahead [vR (some 74)] (mem (P, some 5, some 22) (si (si (si I 106 (gi I 74 49).toNat s1) 74 49 ((gi I 74 49) + 1)) 102 (x1).toNat 1) J) (retV (fun I4 J5 => Q (some (vI 1)) (mem (P, some 5, some 22) (si I4 74 50 0) J5)) (P, some 5, some 22))))) : WP k LAY m_X12_goesOn 264 [(0, vR (some 74)), (1, vI x1)] [vI s1, vR (some 74)] (mem (P, some 5, some 22) I J) Q := by
  refine st_callV (pc' := 267) (kc := k - 1) (E' := LAY) (cal := m_X12_holdsBack) (n := 1) (as := [vI s1]) (S := []) dX12_goesOn_264 rfl l_X12_388 k_X12_holdsBack rfl L_74 c_X12 rfl rfl (Nat.le_of_ble_eq_true rfl) (by omega) ⟨Nat.le_refl _, Nat.le_refl _, Nat.le_refl _, Nat.le_refl _⟩ (Q1 := fun r M' => WP k LAY m_X12_goesOn 267 [(0, vR (some 74)), (1, vI x1)] (r.toList ++ []) M' Q) (WPm.of k_X12_holdsBack.1 (Nat.le_of_ble_eq_true rfl) (B_X12_holdsBack_0 (by omega) ?_)) (fun r M' q => q)
  obtain ⟨e1, h⟩ := h
  refine ⟨e1, ?_⟩
  change WP _ LAY m_X12_goesOn 267 [(0, vR (some 74)), (1, vI x1)] [] (mem (P, some 5, some 22) (si (si I 106 (gi I 74 49).toNat s1) 74 49 ((gi I 74 49) + 1)) J) Q
  refine st_aload_n (pc' := 268) dX12_goesOn_267 rfl rfl (j := 0) rfl ?_
  refine G_X12_139_74 dX12_goesOn_268 (pc' := 271) rfl rfl ?_
  refine st_iload_n (pc' := 272) dX12_goesOn_271 rfl rfl (j := 1) rfl ?_
  refine st_iconst (pc' := 273) dX12_goesOn_272 rfl ?_
  obtain ⟨e2, h⟩ := h
  refine st_iastore (pc' := 274) (M' := (mem (P, some 5, some 22) (si (si (si I 106 (gi I 74 49).toNat s1) 74 49 ((gi I 74 49) + 1)) 102 (x1).toNat 1) J)) dX12_goesOn_273 rfl L_102 (by decide) e2 rfl ?_
  refine st_aload_n (pc' := 275) dX12_goesOn_274 rfl rfl (j := 0) rfl ?_
  refine st_callV (pc' := 278) (kc := k - 1) (E' := LAY) (cal := m_X12_ahead) (n := 0) (as := []) (S := []) dX12_goesOn_275 rfl l_X12_308 k_X12_ahead rfl L_74 c_X12 rfl rfl (Nat.le_of_ble_eq_true rfl) (by omega) ⟨Nat.le_refl _, Nat.le_refl _, Nat.le_refl _, Nat.le_refl _⟩ h (fun r M' q => ?_)
  obtain ⟨I4, J5, rfl, rfl, h⟩ := q
  change WP _ LAY m_X12_goesOn 278 [(0, vR (some 74)), (1, vI x1)] [] (mem (P, some 5, some 22) I4 J5) Q
  refine st_aload_n (pc' := 279) dX12_goesOn_278 rfl rfl (j := 0) rfl ?_
  refine st_iconst (pc' := 280) dX12_goesOn_279 rfl ?_
  refine P_X12_164_74 dX12_goesOn_280 (pc' := 283) rfl rfl (by decide) ?_
  refine st_iconst (pc' := 284) dX12_goesOn_283 rfl ?_
  exact st_iret (ty := .boolean) dX12_goesOn_284 rfl (by decide) rfl h
set_option maxRecDepth 20000 in
set_option maxHeartbeats 4000000 in
theorem B_X12_goesOn_112 {k : Nat} {P : Option Nat} {I : Nat → Nat → Int32} {J : Nat → Nat → Int64} {s1 : Int} {Q : Option AV → Mem → Prop} (hk : 1 ≤ k) (h : WPm (k - 1) LAY m_X12_joins [vR (some 74), vI s1] (mem (P, some 5, some 22) I J) (retV (fun I2 J3 => (¬ (gi I2 74 3 = 3 ∧ gi I2 74 6 = 43) → ((¬ (gi I2 74 3 = 3 ∧ gi I2 74 6 = 45) → ((¬ (gi I2 74 3 = 3 ∧ gi I2 74 6 = 42) → ((¬ (gi I2 74 3 = 3 ∧ gi I2 74 6 = 47) → (WP k LAY m_X12_goesOn 174 [(0, vR (some 74))] [vI 14, vR (some 74)] (mem (P, some 5, some 22) I2 J3) Q)) ∧ ((gi I2 74 3 = 3 ∧ gi I2 74 6 = 47) → (WP k LAY m_X12_goesOn 174 [(0, vR (some 74))] [vI 13, vR (some 74)] (mem (P, some 5, some 22) I2 J3) Q)))) ∧ ((gi I2 74 3 = 3 ∧ gi I2 74 6 = 42) → (WP k LAY m_X12_goesOn 174 [(0, vR (some 74))] [vI 12, vR (some 74)] (mem (P, some 5, some 22) I2 J3) Q)))) ∧ ((gi I2 74 3 = 3 ∧ gi I2 74 6 = 45) → (WP k LAY m_X12_goesOn 174 [(0, vR (some 74))] [vI 11, vR (some 74)] (mem (P, some 5, some 22) I2 J3) Q)))) ∧ ((gi I2 74 3 = 3 ∧ gi I2 74 6 = 43) → (WP k LAY m_X12_goesOn 174 [(0, vR (some 74))] [vI 10, vR (some 74)] (mem (P, some 5, some 22) I2 J3) Q))) (P, some 5, some 22))) : WP k LAY m_X12_goesOn 112 [(0, vR (some 74))] [vI s1, vR (some 74)] (mem (P, some 5, some 22) I J) Q := by
  refine st_callV (pc' := 115) (kc := k - 1) (E' := LAY) (cal := m_X12_joins) (n := 1) (as := [vI s1]) (S := []) dX12_goesOn_112 rfl l_X12_394 k_X12_joins rfl L_74 c_X12 rfl rfl (Nat.le_of_ble_eq_true rfl) (by omega) ⟨Nat.le_refl _, Nat.le_refl _, Nat.le_refl _, Nat.le_refl _⟩ h (fun r M' q => ?_)
  obtain ⟨I2, J3, rfl, rfl, h⟩ := q
  change WP _ LAY m_X12_goesOn 115 [(0, vR (some 74))] [] (mem (P, some 5, some 22) I2 J3) Q
  refine st_aload_n (pc' := 116) dX12_goesOn_115 rfl rfl (j := 0) rfl ?_
  refine st_aload_n (pc' := 117) dX12_goesOn_116 rfl rfl (j := 0) rfl ?_
  refine st_bipush (pc' := 119) dX12_goesOn_117 rfl (by decide) ?_
  refine st_callV (pc' := 122) (kc := k - 1) (E' := LAY) (cal := m_X12_isSign) (n := 1) (as := [vI 43]) (S := [vR (some 74)]) dX12_goesOn_119 rfl l_X12_305 k_X12_isSign rfl L_74 c_X12 rfl rfl (Nat.le_of_ble_eq_true rfl) (by omega) ⟨Nat.le_refl _, Nat.le_refl _, Nat.le_refl _, Nat.le_refl _⟩ (Q1 := fun r M' => WP k LAY m_X12_goesOn 122 [(0, vR (some 74))] (r.toList ++ [vR (some 74)]) M' Q) (S_X12_isSign (by omega) (by decide) ?_) (fun r M' q => q)
  change WP _ LAY m_X12_goesOn 122 [(0, vR (some 74))] [vI (b2i (gi I2 74 3 = 3 ∧ gi I2 74 6 = 43)), vR (some 74)] (mem (P, some 5, some 22) I2 J3) Q
  refine st_if_eq (tg := 130) (pc' := 125) dX12_goesOn_122 (by decide) rfl (b2i_in _) (fun c => ?_) (fun c => ?_)
  · replace h := h.1 (b2i_f.mp c)
    refine st_aload_n (pc' := 131) dX12_goesOn_130 rfl rfl (j := 0) rfl ?_
    refine st_bipush (pc' := 133) dX12_goesOn_131 rfl (by decide) ?_
    refine st_callV (pc' := 136) (kc := k - 1) (E' := LAY) (cal := m_X12_isSign) (n := 1) (as := [vI 45]) (S := [vR (some 74)]) dX12_goesOn_133 rfl l_X12_305 k_X12_isSign rfl L_74 c_X12 rfl rfl (Nat.le_of_ble_eq_true rfl) (by omega) ⟨Nat.le_refl _, Nat.le_refl _, Nat.le_refl _, Nat.le_refl _⟩ (Q1 := fun r M' => WP k LAY m_X12_goesOn 136 [(0, vR (some 74))] (r.toList ++ [vR (some 74)]) M' Q) (S_X12_isSign (by omega) (by decide) ?_) (fun r M' q => q)
    change WP _ LAY m_X12_goesOn 136 [(0, vR (some 74))] [vI (b2i (gi I2 74 3 = 3 ∧ gi I2 74 6 = 45)), vR (some 74)] (mem (P, some 5, some 22) I2 J3) Q
    refine st_if_eq (tg := 144) (pc' := 139) dX12_goesOn_136 (by decide) rfl (b2i_in _) (fun c => ?_) (fun c => ?_)
    · replace h := h.1 (b2i_f.mp c)
      refine st_aload_n (pc' := 145) dX12_goesOn_144 rfl rfl (j := 0) rfl ?_
      refine st_bipush (pc' := 147) dX12_goesOn_145 rfl (by decide) ?_
      refine st_callV (pc' := 150) (kc := k - 1) (E' := LAY) (cal := m_X12_isSign) (n := 1) (as := [vI 42]) (S := [vR (some 74)]) dX12_goesOn_147 rfl l_X12_305 k_X12_isSign rfl L_74 c_X12 rfl rfl (Nat.le_of_ble_eq_true rfl) (by omega) ⟨Nat.le_refl _, Nat.le_refl _, Nat.le_refl _, Nat.le_refl _⟩ (Q1 := fun r M' => WP k LAY m_X12_goesOn 150 [(0, vR (some 74))] (r.toList ++ [vR (some 74)]) M' Q) (S_X12_isSign (by omega) (by decide) ?_) (fun r M' q => q)
      change WP _ LAY m_X12_goesOn 150 [(0, vR (some 74))] [vI (b2i (gi I2 74 3 = 3 ∧ gi I2 74 6 = 42)), vR (some 74)] (mem (P, some 5, some 22) I2 J3) Q
      refine st_if_eq (tg := 158) (pc' := 153) dX12_goesOn_150 (by decide) rfl (b2i_in _) (fun c => ?_) (fun c => ?_)
      · replace h := h.1 (b2i_f.mp c)
        refine st_aload_n (pc' := 159) dX12_goesOn_158 rfl rfl (j := 0) rfl ?_
        refine st_bipush (pc' := 161) dX12_goesOn_159 rfl (by decide) ?_
        refine st_callV (pc' := 164) (kc := k - 1) (E' := LAY) (cal := m_X12_isSign) (n := 1) (as := [vI 47]) (S := [vR (some 74)]) dX12_goesOn_161 rfl l_X12_305 k_X12_isSign rfl L_74 c_X12 rfl rfl (Nat.le_of_ble_eq_true rfl) (by omega) ⟨Nat.le_refl _, Nat.le_refl _, Nat.le_refl _, Nat.le_refl _⟩ (Q1 := fun r M' => WP k LAY m_X12_goesOn 164 [(0, vR (some 74))] (r.toList ++ [vR (some 74)]) M' Q) (S_X12_isSign (by omega) (by decide) ?_) (fun r M' q => q)
        change WP _ LAY m_X12_goesOn 164 [(0, vR (some 74))] [vI (b2i (gi I2 74 3 = 3 ∧ gi I2 74 6 = 47)), vR (some 74)] (mem (P, some 5, some 22) I2 J3) Q
        refine st_if_eq (tg := 172) (pc' := 167) dX12_goesOn_164 (by decide) rfl (b2i_in _) (fun c => ?_) (fun c => ?_)
        · replace h := h.1 (b2i_f.mp c)
          refine st_bipush (pc' := 174) dX12_goesOn_172 rfl (by decide) ?_
          exact h
        · replace h := h.2 (b2i_t.mp c)
          refine st_bipush (pc' := 169) dX12_goesOn_167 rfl (by decide) ?_
          refine st_goto (pc' := 174) dX12_goesOn_169 (by decide) ?_
          exact h
      · replace h := h.2 (b2i_t.mp c)
        refine st_bipush (pc' := 155) dX12_goesOn_153 rfl (by decide) ?_
        refine st_goto (pc' := 174) dX12_goesOn_155 (by decide) ?_
        exact h
    · replace h := h.2 (b2i_t.mp c)
      refine st_bipush (pc' := 141) dX12_goesOn_139 rfl (by decide) ?_
      refine st_goto (pc' := 174) dX12_goesOn_141 (by decide) ?_
      exact h
  · replace h := h.2 (b2i_t.mp c)
    refine st_bipush (pc' := 127) dX12_goesOn_125 rfl (by decide) ?_
    refine st_goto (pc' := 174) dX12_goesOn_127 (by decide) ?_
    exact h
set_option maxRecDepth 20000 in
set_option maxHeartbeats 4000000 in
theorem B_X12_goesOn_356 {k : Nat} {P : Option Nat} {I : Nat → Nat → Int32} {J : Nat → Nat → Int64} {x1 : Int} {x4 : Int} {s1 : Int} {Q : Option AV → Mem → Prop} (hk : 1 ≤ k) (h : WPm (k - 1) LAY m_X12_joins [vR (some 74), vI s1] (mem (P, some 5, some 22) I J) (retV (fun I2 J3 => inR x4 ∧ ((x4 = 0 → (WP k LAY m_X12_goesOn 372 [(0, vR (some 74)), (1, vI x1)] [vI 21, vR (some 74)] (mem (P, some 5, some 22) I2 J3) Q)) ∧ (¬ x4 = 0 → (WP k LAY m_X12_goesOn 372 [(0, vR (some 74)), (1, vI x1)] [vI 20, vR (some 74)] (mem (P, some 5, some 22) I2 J3) Q)))) (P, some 5, some 22))) : WP k LAY m_X12_goesOn 356 [(0, vR (some 74)), (1, vI x1), (4, vI x4)] [vI s1, vR (some 74)] (mem (P, some 5, some 22) I J) Q := by
  refine st_callV (pc' := 359) (kc := k - 1) (E' := LAY) (cal := m_X12_joins) (n := 1) (as := [vI s1]) (S := []) dX12_goesOn_356 rfl l_X12_394 k_X12_joins rfl L_74 c_X12 rfl rfl (Nat.le_of_ble_eq_true rfl) (by omega) ⟨Nat.le_refl _, Nat.le_refl _, Nat.le_refl _, Nat.le_refl _⟩ h (fun r M' q => ?_)
  obtain ⟨I2, J3, rfl, rfl, h⟩ := q
  change WP _ LAY m_X12_goesOn 359 [(0, vR (some 74)), (1, vI x1), (4, vI x4)] [] (mem (P, some 5, some 22) I2 J3) Q
  refine st_aload_n (pc' := 360) dX12_goesOn_359 rfl rfl (j := 0) rfl ?_
  refine st_iload (pc' := 362) dX12_goesOn_360 rfl (j := 2) rfl ?_
  obtain ⟨e4, h⟩ := h
  refine st_if_eq (tg := 370) (pc' := 365) dX12_goesOn_362 (by decide) rfl e4 (fun c => ?_) (fun c => ?_)
  · replace h := h.1 c
    refine st_bipush (pc' := 372) dX12_goesOn_370 rfl (by decide) ?_
    refine WP_sub (L' := [(0, vR (some 74)), (1, vI x1)]) [0, 1] rfl ?_
    exact h
  · replace h := h.2 c
    refine st_bipush (pc' := 367) dX12_goesOn_365 rfl (by decide) ?_
    refine st_goto (pc' := 372) dX12_goesOn_367 (by decide) ?_
    refine WP_sub (L' := [(0, vR (some 74)), (1, vI x1)]) [0, 1] rfl ?_
    exact h
set_option maxRecDepth 20000 in
set_option maxHeartbeats 4000000 in
theorem B_X12_goesOn_174 {k : Nat} {P : Option Nat} {I : Nat → Nat → Int32} {J : Nat → Nat → Int64} {s1 : Int} {Q : Option AV → Mem → Prop} (hk : 1 ≤ k) (h : (0 ≤ (gi I 74 49) ∧ (gi I 74 49) < 500) ∧ (WPm (k - 1) LAY m_X12_ahead [vR (some 74)] (mem (P, some 5, some 22) (si (si I 106 (gi I 74 49).toNat s1) 74 49 ((gi I 74 49) + 1)) J) (retV (fun I3 J4 => Q (some (vI 1)) (mem (P, some 5, some 22) (si I3 74 50 0) J4)) (P, some 5, some 22)))) : WP k LAY m_X12_goesOn 174 [(0, vR (some 74))] [vI s1, vR (some 74)] (mem (P, some 5, some 22) I J) Q := by
  refine st_callV (pc' := 177) (kc := k - 1) (E' := LAY) (cal := m_X12_holdsBack) (n := 1) (as := [vI s1]) (S := []) dX12_goesOn_174 rfl l_X12_388 k_X12_holdsBack rfl L_74 c_X12 rfl rfl (Nat.le_of_ble_eq_true rfl) (by omega) ⟨Nat.le_refl _, Nat.le_refl _, Nat.le_refl _, Nat.le_refl _⟩ (Q1 := fun r M' => WP k LAY m_X12_goesOn 177 [(0, vR (some 74))] (r.toList ++ []) M' Q) (WPm.of k_X12_holdsBack.1 (Nat.le_of_ble_eq_true rfl) (B_X12_holdsBack_0 (by omega) ?_)) (fun r M' q => q)
  obtain ⟨e1, h⟩ := h
  refine ⟨e1, ?_⟩
  change WP _ LAY m_X12_goesOn 177 [(0, vR (some 74))] [] (mem (P, some 5, some 22) (si (si I 106 (gi I 74 49).toNat s1) 74 49 ((gi I 74 49) + 1)) J) Q
  refine st_aload_n (pc' := 178) dX12_goesOn_177 rfl rfl (j := 0) rfl ?_
  refine st_callV (pc' := 181) (kc := k - 1) (E' := LAY) (cal := m_X12_ahead) (n := 0) (as := []) (S := []) dX12_goesOn_178 rfl l_X12_308 k_X12_ahead rfl L_74 c_X12 rfl rfl (Nat.le_of_ble_eq_true rfl) (by omega) ⟨Nat.le_refl _, Nat.le_refl _, Nat.le_refl _, Nat.le_refl _⟩ h (fun r M' q => ?_)
  obtain ⟨I3, J4, rfl, rfl, h⟩ := q
  change WP _ LAY m_X12_goesOn 181 [(0, vR (some 74))] [] (mem (P, some 5, some 22) I3 J4) Q
  refine st_aload_n (pc' := 182) dX12_goesOn_181 rfl rfl (j := 0) rfl ?_
  refine st_iconst (pc' := 183) dX12_goesOn_182 rfl ?_
  refine P_X12_164_74 dX12_goesOn_183 (pc' := 186) rfl rfl (by decide) ?_
  refine st_iconst (pc' := 187) dX12_goesOn_186 rfl ?_
  exact st_iret (ty := .boolean) dX12_goesOn_187 rfl (by decide) rfl h
set_option maxRecDepth 20000 in
set_option maxHeartbeats 4000000 in
theorem B_X12_goesOn_372 {k : Nat} {P : Option Nat} {I : Nat → Nat → Int32} {J : Nat → Nat → Int64} {x1 : Int} {s1 : Int} {Q : Option AV → Mem → Prop} (hk : 1 ≤ k) (h : (0 ≤ (gi I 74 49) ∧ (gi I 74 49) < 500) ∧ ((0 ≤ x1 ∧ x1 < 20) ∧ (WPm (k - 1) LAY m_X12_ahead [vR (some 74)] (mem (P, some 5, some 22) (si (si (si (si I 106 (gi I 74 49).toNat s1) 74 49 ((gi I 74 49) + 1)) 102 (x1).toNat 0) 103 (x1).toNat 1) J) (retV (fun I4 J5 => Q (some (vI 1)) (mem (P, some 5, some 22) (si I4 74 50 0) J5)) (P, some 5, some 22))))) : WP k LAY m_X12_goesOn 372 [(0, vR (some 74)), (1, vI x1)] [vI s1, vR (some 74)] (mem (P, some 5, some 22) I J) Q := by
  refine st_callV (pc' := 375) (kc := k - 1) (E' := LAY) (cal := m_X12_holdsBack) (n := 1) (as := [vI s1]) (S := []) dX12_goesOn_372 rfl l_X12_388 k_X12_holdsBack rfl L_74 c_X12 rfl rfl (Nat.le_of_ble_eq_true rfl) (by omega) ⟨Nat.le_refl _, Nat.le_refl _, Nat.le_refl _, Nat.le_refl _⟩ (Q1 := fun r M' => WP k LAY m_X12_goesOn 375 [(0, vR (some 74)), (1, vI x1)] (r.toList ++ []) M' Q) (WPm.of k_X12_holdsBack.1 (Nat.le_of_ble_eq_true rfl) (B_X12_holdsBack_0 (by omega) ?_)) (fun r M' q => q)
  obtain ⟨e1, h⟩ := h
  refine ⟨e1, ?_⟩
  change WP _ LAY m_X12_goesOn 375 [(0, vR (some 74)), (1, vI x1)] [] (mem (P, some 5, some 22) (si (si I 106 (gi I 74 49).toNat s1) 74 49 ((gi I 74 49) + 1)) J) Q
  refine st_aload_n (pc' := 376) dX12_goesOn_375 rfl rfl (j := 0) rfl ?_
  refine G_X12_139_74 dX12_goesOn_376 (pc' := 379) rfl rfl ?_
  refine st_iload_n (pc' := 380) dX12_goesOn_379 rfl rfl (j := 1) rfl ?_
  refine st_iconst (pc' := 381) dX12_goesOn_380 rfl ?_
  obtain ⟨e2, h⟩ := h
  refine st_iastore (pc' := 382) (M' := (mem (P, some 5, some 22) (si (si (si I 106 (gi I 74 49).toNat s1) 74 49 ((gi I 74 49) + 1)) 102 (x1).toNat 0) J)) dX12_goesOn_381 rfl L_102 (by decide) e2 rfl ?_
  refine st_aload_n (pc' := 383) dX12_goesOn_382 rfl rfl (j := 0) rfl ?_
  refine G_X12_142_74 dX12_goesOn_383 (pc' := 386) rfl rfl ?_
  refine st_iload_n (pc' := 387) dX12_goesOn_386 rfl rfl (j := 1) rfl ?_
  refine st_iconst (pc' := 388) dX12_goesOn_387 rfl ?_
  refine st_zastore (pc' := 389) (M' := (mem (P, some 5, some 22) (si (si (si (si I 106 (gi I 74 49).toNat s1) 74 49 ((gi I 74 49) + 1)) 102 (x1).toNat 0) 103 (x1).toNat 1) J)) dX12_goesOn_388 rfl L_103 (by decide) e2 (by decide) rfl ?_
  refine st_aload_n (pc' := 390) dX12_goesOn_389 rfl rfl (j := 0) rfl ?_
  refine st_callV (pc' := 393) (kc := k - 1) (E' := LAY) (cal := m_X12_ahead) (n := 0) (as := []) (S := []) dX12_goesOn_390 rfl l_X12_308 k_X12_ahead rfl L_74 c_X12 rfl rfl (Nat.le_of_ble_eq_true rfl) (by omega) ⟨Nat.le_refl _, Nat.le_refl _, Nat.le_refl _, Nat.le_refl _⟩ h (fun r M' q => ?_)
  obtain ⟨I4, J5, rfl, rfl, h⟩ := q
  change WP _ LAY m_X12_goesOn 393 [(0, vR (some 74)), (1, vI x1)] [] (mem (P, some 5, some 22) I4 J5) Q
  refine st_aload_n (pc' := 394) dX12_goesOn_393 rfl rfl (j := 0) rfl ?_
  refine st_iconst (pc' := 395) dX12_goesOn_394 rfl ?_
  refine P_X12_164_74 dX12_goesOn_395 (pc' := 398) rfl rfl (by decide) ?_
  refine st_iconst (pc' := 399) dX12_goesOn_398 rfl ?_
  exact st_iret (ty := .boolean) dX12_goesOn_399 rfl (by decide) rfl h
end WM1

section WM2
set_option maxRecDepth 20000 in
set_option maxHeartbeats 4000000 in
theorem B_X12_reads_0 {k : Nat} {P : Option Nat} {I : Nat → Nat → Int32} {J : Nat → Nat → Int64} {x1 : Int} {Q : Option AV → Mem → Prop} (hk : 1 ≤ k) (h : ((gi I 74 8) ≤ 0 → (inR x1 ∧ ((x1 = 0 → ((0 ≤ (gi (si (si (si (si I 74 46 0) 74 47 0) 74 49 0) 74 50 0) 74 46) ∧ (gi (si (si (si (si I 74 46 0) 74 47 0) 74 49 0) 74 50 0) 74 46) < 20) ∧ (WP k LAY m_X12_reads 43 [(0, vR (some 74)), (2, vI 1)] [] (mem (P, some 5, some 22) (si (si (si (si (si (si (si (si (si I 74 46 0) 74 47 0) 74 49 0) 74 50 0) 101 (gi (si (si (si (si I 74 46 0) 74 47 0) 74 49 0) 74 50 0) 74 46).toNat 0) 102 (gi (si (si (si (si I 74 46 0) 74 47 0) 74 49 0) 74 50 0) 74 46).toNat 0) 103 (gi (si (si (si (si I 74 46 0) 74 47 0) 74 49 0) 74 50 0) 74 46).toNat 1) 105 (gi (si (si (si (si I 74 46 0) 74 47 0) 74 49 0) 74 50 0) 74 46).toNat (gi (si (si (si (si I 74 46 0) 74 47 0) 74 49 0) 74 50 0) 74 49)) 74 46 ((gi (si (si (si (si I 74 46 0) 74 47 0) 74 49 0) 74 50 0) 74 46) + 1)) J) Q))) ∧ (¬ x1 = 0 → ((0 ≤ (gi (si (si (si (si I 74 46 0) 74 47 0) 74 49 0) 74 50 0) 74 46) ∧ (gi (si (si (si (si I 74 46 0) 74 47 0) 74 49 0) 74 50 0) 74 46) < 20) ∧ (WP k LAY m_X12_reads 43 [(0, vR (some 74)), (2, vI 1)] [] (mem (P, some 5, some 22) (si (si (si (si (si (si (si (si (si I 74 46 0) 74 47 0) 74 49 0) 74 50 0) 101 (gi (si (si (si (si I 74 46 0) 74 47 0) 74 49 0) 74 50 0) 74 46).toNat 1) 102 (gi (si (si (si (si I 74 46 0) 74 47 0) 74 49 0) 74 50 0) 74 46).toNat 0) 103 (gi (si (si (si (si I 74 46 0) 74 47 0) 74 49 0) 74 50 0) 74 46).toNat 1) 105 (gi (si (si (si (si I 74 46 0) 74 47 0) 74 49 0) 74 50 0) 74 46).toNat (gi (si (si (si (si I 74 46 0) 74 47 0) 74 49 0) 74 50 0) 74 49)) 74 46 ((gi (si (si (si (si I 74 46 0) 74 47 0) 74 49 0) 74 50 0) 74 46) + 1)) J) Q)))))) ∧ (¬ (gi I 74 8) ≤ 0 → (Q none (mem (P, some 5, some 22) I J)))) : WP k LAY m_X12_reads 0 [(0, vR (some 74)), (1, vI x1)] [] (mem (P, some 5, some 22) I J) Q := by
  refine st_aload_n (pc' := 1) dX12_reads_0 rfl rfl (j := 0) rfl ?_
  refine G_X12_36_74 dX12_reads_1 (pc' := 4) rfl rfl ?_
  refine st_if_le (tg := 8) (pc' := 7) dX12_reads_4 (by decide) rfl (gi_in _ _ _) (fun c => ?_) (fun c => ?_)
  · replace h := h.1 c
    refine st_aload_n (pc' := 9) dX12_reads_8 rfl rfl (j := 0) rfl ?_
    refine st_iconst (pc' := 10) dX12_reads_9 rfl ?_
    refine P_X12_152_74 dX12_reads_10 (pc' := 13) rfl rfl ?_
    refine st_aload_n (pc' := 14) dX12_reads_13 rfl rfl (j := 0) rfl ?_
    refine st_iconst (pc' := 15) dX12_reads_14 rfl ?_
    refine P_X12_155_74 dX12_reads_15 (pc' := 18) rfl rfl ?_
    refine st_aload_n (pc' := 19) dX12_reads_18 rfl rfl (j := 0) rfl ?_
    refine st_iconst (pc' := 20) dX12_reads_19 rfl ?_
    refine P_X12_161_74 dX12_reads_20 (pc' := 23) rfl rfl ?_
    refine st_aload_n (pc' := 24) dX12_reads_23 rfl rfl (j := 0) rfl ?_
    refine st_iconst (pc' := 25) dX12_reads_24 rfl ?_
    refine P_X12_164_74 dX12_reads_25 (pc' := 28) rfl rfl (by decide) ?_
    refine st_aload_n (pc' := 29) dX12_reads_28 rfl rfl (j := 0) rfl ?_
    refine st_iload_n (pc' := 30) dX12_reads_29 rfl rfl (j := 1) rfl ?_
    obtain ⟨e1, h⟩ := h
    refine st_if_eq (tg := 37) (pc' := 33) dX12_reads_30 (by decide) rfl e1 (fun c => ?_) (fun c => ?_)
    · replace h := h.1 c
      refine st_iconst (pc' := 38) dX12_reads_37 rfl ?_
      refine st_callV (pc' := 41) (kc := k - 1) (E' := LAY) (cal := m_X12_pushes) (n := 1) (as := [vI 0]) (S := []) dX12_reads_38 rfl l_X12_379 k_X12_pushes rfl L_74 c_X12 rfl rfl (Nat.le_of_ble_eq_true rfl) (by omega) ⟨Nat.le_refl _, Nat.le_refl _, Nat.le_refl _, Nat.le_refl _⟩ (Q1 := fun r M' => WP k LAY m_X12_reads 41 [(0, vR (some 74)), (1, vI x1)] (r.toList ++ []) M' Q) (WPm.of k_X12_pushes.1 (Nat.le_of_ble_eq_true rfl) (B_X12_pushes_0 (by omega) ?_)) (fun r M' q => q)
      obtain ⟨e2, h⟩ := h
      refine ⟨e2, ?_⟩
      change WP _ LAY m_X12_reads 41 [(0, vR (some 74)), (1, vI x1)] [] (mem (P, some 5, some 22) (si (si (si (si (si (si (si (si (si I 74 46 0) 74 47 0) 74 49 0) 74 50 0) 101 (gi (si (si (si (si I 74 46 0) 74 47 0) 74 49 0) 74 50 0) 74 46).toNat 0) 102 (gi (si (si (si (si I 74 46 0) 74 47 0) 74 49 0) 74 50 0) 74 46).toNat 0) 103 (gi (si (si (si (si I 74 46 0) 74 47 0) 74 49 0) 74 50 0) 74 46).toNat 1) 105 (gi (si (si (si (si I 74 46 0) 74 47 0) 74 49 0) 74 50 0) 74 46).toNat (gi (si (si (si (si I 74 46 0) 74 47 0) 74 49 0) 74 50 0) 74 49)) 74 46 ((gi (si (si (si (si I 74 46 0) 74 47 0) 74 49 0) 74 50 0) 74 46) + 1)) J) Q
      refine st_iconst (pc' := 42) dX12_reads_41 rfl ?_
      refine st_istore_n (pc' := 43) (L' := [(2, vI 1), (0, vR (some 74)), (1, vI x1)]) dX12_reads_42 rfl rfl (by decide) rfl ?_
      refine WP_sub (L' := [(0, vR (some 74)), (2, vI 1)]) [1, 0] rfl ?_
      exact h
    · replace h := h.2 c
      refine st_iconst (pc' := 34) dX12_reads_33 rfl ?_
      refine st_goto (pc' := 38) dX12_reads_34 (by decide) ?_
      refine st_callV (pc' := 41) (kc := k - 1) (E' := LAY) (cal := m_X12_pushes) (n := 1) (as := [vI 1]) (S := []) dX12_reads_38 rfl l_X12_379 k_X12_pushes rfl L_74 c_X12 rfl rfl (Nat.le_of_ble_eq_true rfl) (by omega) ⟨Nat.le_refl _, Nat.le_refl _, Nat.le_refl _, Nat.le_refl _⟩ (Q1 := fun r M' => WP k LAY m_X12_reads 41 [(0, vR (some 74)), (1, vI x1)] (r.toList ++ []) M' Q) (WPm.of k_X12_pushes.1 (Nat.le_of_ble_eq_true rfl) (B_X12_pushes_0 (by omega) ?_)) (fun r M' q => q)
      obtain ⟨e3, h⟩ := h
      refine ⟨e3, ?_⟩
      change WP _ LAY m_X12_reads 41 [(0, vR (some 74)), (1, vI x1)] [] (mem (P, some 5, some 22) (si (si (si (si (si (si (si (si (si I 74 46 0) 74 47 0) 74 49 0) 74 50 0) 101 (gi (si (si (si (si I 74 46 0) 74 47 0) 74 49 0) 74 50 0) 74 46).toNat 1) 102 (gi (si (si (si (si I 74 46 0) 74 47 0) 74 49 0) 74 50 0) 74 46).toNat 0) 103 (gi (si (si (si (si I 74 46 0) 74 47 0) 74 49 0) 74 50 0) 74 46).toNat 1) 105 (gi (si (si (si (si I 74 46 0) 74 47 0) 74 49 0) 74 50 0) 74 46).toNat (gi (si (si (si (si I 74 46 0) 74 47 0) 74 49 0) 74 50 0) 74 49)) 74 46 ((gi (si (si (si (si I 74 46 0) 74 47 0) 74 49 0) 74 50 0) 74 46) + 1)) J) Q
      refine st_iconst (pc' := 42) dX12_reads_41 rfl ?_
      refine st_istore_n (pc' := 43) (L' := [(2, vI 1), (0, vR (some 74)), (1, vI x1)]) dX12_reads_42 rfl rfl (by decide) rfl ?_
      refine WP_sub (L' := [(0, vR (some 74)), (2, vI 1)]) [1, 0] rfl ?_
      exact h
  · replace h := h.2 c
    exact st_vret dX12_reads_7 rfl rfl h
set_option maxRecDepth 20000 in
set_option maxHeartbeats 4000000 in
theorem B_X12_reads_43 {k : Nat} {P : Option Nat} {I : Nat → Nat → Int32} {J : Nat → Nat → Int64} {x2 : Int} {Q : Option AV → Mem → Prop} (hk : 1 ≤ k) (h : inR x2 ∧ ((x2 = 0 → (Q none (mem (P, some 5, some 22) I J))) ∧ (¬ x2 = 0 → ((¬ (gi I 74 50) = 0 → (WPm (k - 1) LAY m_X12_goesOn [vR (some 74)] (mem (P, some 5, some 22) I J) (retI (fun v2 I3 J4 => inR v2 ∧ ((v2 = 0 → (WP k LAY m_X12_reads 43 [(0, vR (some 74)), (2, vI 0)] [] (mem (P, some 5, some 22) I3 J4) Q)) ∧ (¬ v2 = 0 → ((¬ (gi I3 74 8) = 0 → (WP k LAY m_X12_reads 43 [(0, vR (some 74)), (2, vI 0)] [] (mem (P, some 5, some 22) I3 J4) Q)) ∧ ((gi I3 74 8) = 0 → (WP k LAY m_X12_reads 43 [(0, vR (some 74)), (2, vI 1)] [] (mem (P, some 5, some 22) I3 J4) Q)))))) (P, some 5, some 22)))) ∧ ((gi I 74 50) = 0 → (WPm (k - 1) LAY m_X12_operand [vR (some 74)] (mem (P, some 5, some 22) I J) (retI (fun v6 I7 J8 => (v6 = 0 ∨ v6 = 1) ∧ ((x2 = 0 → (WP k LAY m_X12_reads 43 [(0, vR (some 74)), (2, vI 0)] [] (mem (P, some 5, some 22) (si I7 74 50 v6) J8) Q)) ∧ (¬ x2 = 0 → ((¬ (gi I7 74 8) = 0 → (WP k LAY m_X12_reads 43 [(0, vR (some 74)), (2, vI 0)] [] (mem (P, some 5, some 22) (si I7 74 50 v6) J8) Q)) ∧ ((gi I7 74 8) = 0 → (WP k LAY m_X12_reads 43 [(0, vR (some 74)), (2, vI 1)] [] (mem (P, some 5, some 22) (si I7 74 50 v6) J8) Q)))))) (P, some 5, some 22)))))))) : WP k LAY m_X12_reads 43 [(0, vR (some 74)), (2, vI x2)] [] (mem (P, some 5, some 22) I J) Q := by
  refine st_iload_n (pc' := 44) dX12_reads_43 rfl rfl (j := 1) rfl ?_
  obtain ⟨e1, h⟩ := h
  refine st_if_eq (tg := 90) (pc' := 47) dX12_reads_44 (by decide) rfl e1 (fun c => ?_) (fun c => ?_)
  · replace h := h.1 c
    exact st_vret dX12_reads_90 rfl rfl h
  · replace h := h.2 c
    refine st_aload_n (pc' := 48) dX12_reads_47 rfl rfl (j := 0) rfl ?_
    refine G_X12_164_74 dX12_reads_48 (pc' := 51) rfl rfl ?_
    refine st_if_ne (tg := 65) (pc' := 54) dX12_reads_51 (by decide) rfl (gi_in _ _ _) (fun c => ?_) (fun c => ?_)
    · replace h := h.1 c
      refine st_aload_n (pc' := 66) dX12_reads_65 rfl rfl (j := 0) rfl ?_
      refine st_callV (pc' := 69) (kc := k - 1) (E' := LAY) (cal := m_X12_goesOn) (n := 0) (as := []) (S := []) dX12_reads_66 rfl l_X12_400 k_X12_goesOn rfl L_74 c_X12 rfl rfl (Nat.le_of_ble_eq_true rfl) (by omega) ⟨Nat.le_refl _, Nat.le_refl _, Nat.le_refl _, Nat.le_refl _⟩ h (fun r M' q => ?_)
      obtain ⟨v2, I3, J4, rfl, rfl, h⟩ := q
      change WP _ LAY m_X12_reads 69 [(0, vR (some 74)), (2, vI x2)] [vI v2] (mem (P, some 5, some 22) I3 J4) Q
      refine st_istore_n (pc' := 70) (L' := [(2, vI v2), (0, vR (some 74))]) dX12_reads_69 rfl rfl (by decide) rfl ?_
      refine st_iload_n (pc' := 71) dX12_reads_70 rfl rfl (j := 0) rfl ?_
      obtain ⟨e5, h⟩ := h
      refine st_if_eq (tg := 85) (pc' := 74) dX12_reads_71 (by decide) rfl e5 (fun c => ?_) (fun c => ?_)
      · replace h := h.1 c
        refine st_iconst (pc' := 86) dX12_reads_85 rfl ?_
        refine st_istore_n (pc' := 87) (L' := [(2, vI 0), (0, vR (some 74))]) dX12_reads_86 rfl rfl (by decide) rfl ?_
        refine st_goto (pc' := 43) dX12_reads_87 (by decide) ?_
        refine WP_sub (L' := [(0, vR (some 74)), (2, vI 0)]) [1, 0] rfl ?_
        exact h
      · replace h := h.2 c
        refine st_aload_n (pc' := 75) dX12_reads_74 rfl rfl (j := 1) rfl ?_
        refine G_X12_36_74 dX12_reads_75 (pc' := 78) rfl rfl ?_
        refine st_if_ne (tg := 85) (pc' := 81) dX12_reads_78 (by decide) rfl (gi_in _ _ _) (fun c => ?_) (fun c => ?_)
        · replace h := h.1 c
          refine st_iconst (pc' := 86) dX12_reads_85 rfl ?_
          refine st_istore_n (pc' := 87) (L' := [(2, vI 0), (0, vR (some 74))]) dX12_reads_86 rfl rfl (by decide) rfl ?_
          refine st_goto (pc' := 43) dX12_reads_87 (by decide) ?_
          refine WP_sub (L' := [(0, vR (some 74)), (2, vI 0)]) [1, 0] rfl ?_
          exact h
        · replace h := h.2 c
          refine st_iconst (pc' := 82) dX12_reads_81 rfl ?_
          refine st_goto (pc' := 86) dX12_reads_82 (by decide) ?_
          refine st_istore_n (pc' := 87) (L' := [(2, vI 1), (0, vR (some 74))]) dX12_reads_86 rfl rfl (by decide) rfl ?_
          refine st_goto (pc' := 43) dX12_reads_87 (by decide) ?_
          refine WP_sub (L' := [(0, vR (some 74)), (2, vI 1)]) [1, 0] rfl ?_
          exact h
    · replace h := h.2 c
      refine st_aload_n (pc' := 55) dX12_reads_54 rfl rfl (j := 0) rfl ?_
      refine st_aload_n (pc' := 56) dX12_reads_55 rfl rfl (j := 0) rfl ?_
      refine st_callV (pc' := 59) (kc := k - 1) (E' := LAY) (cal := m_X12_operand) (n := 0) (as := []) (S := [vR (some 74)]) dX12_reads_56 rfl l_X12_397 k_X12_operand rfl L_74 c_X12 rfl rfl (Nat.le_of_ble_eq_true rfl) (by omega) ⟨Nat.le_refl _, Nat.le_refl _, Nat.le_refl _, Nat.le_refl _⟩ h (fun r M' q => ?_)
      obtain ⟨v6, I7, J8, rfl, rfl, h⟩ := q
      change WP _ LAY m_X12_reads 59 [(0, vR (some 74)), (2, vI x2)] [vI v6, vR (some 74)] (mem (P, some 5, some 22) I7 J8) Q
      obtain ⟨e9, h⟩ := h
      refine P_X12_164_74 dX12_reads_59 (pc' := 62) rfl rfl e9 ?_
      refine st_goto (pc' := 70) dX12_reads_62 (by decide) ?_
      refine st_iload_n (pc' := 71) dX12_reads_70 rfl rfl (j := 1) rfl ?_
      refine st_if_eq (tg := 85) (pc' := 74) dX12_reads_71 (by decide) rfl e1 (fun c => ?_) (fun c => ?_)
      · replace h := h.1 c
        refine st_iconst (pc' := 86) dX12_reads_85 rfl ?_
        refine st_istore_n (pc' := 87) (L' := [(2, vI 0), (0, vR (some 74))]) dX12_reads_86 rfl rfl (by decide) rfl ?_
        refine st_goto (pc' := 43) dX12_reads_87 (by decide) ?_
        refine WP_sub (L' := [(0, vR (some 74)), (2, vI 0)]) [1, 0] rfl ?_
        exact h
      · replace h := h.2 c
        refine st_aload_n (pc' := 75) dX12_reads_74 rfl rfl (j := 0) rfl ?_
        refine G_X12_36_74 dX12_reads_75 (pc' := 78) rfl rfl ?_
        rw [show gi (si I7 74 50 v6) 74 8 = (gi I7 74 8) from (gi_idx _ _ _ (by decide))]
        refine st_if_ne (tg := 85) (pc' := 81) dX12_reads_78 (by decide) rfl (gi_in _ _ _) (fun c => ?_) (fun c => ?_)
        · replace h := h.1 c
          refine st_iconst (pc' := 86) dX12_reads_85 rfl ?_
          refine st_istore_n (pc' := 87) (L' := [(2, vI 0), (0, vR (some 74))]) dX12_reads_86 rfl rfl (by decide) rfl ?_
          refine st_goto (pc' := 43) dX12_reads_87 (by decide) ?_
          refine WP_sub (L' := [(0, vR (some 74)), (2, vI 0)]) [1, 0] rfl ?_
          exact h
        · replace h := h.2 c
          refine st_iconst (pc' := 82) dX12_reads_81 rfl ?_
          refine st_goto (pc' := 86) dX12_reads_82 (by decide) ?_
          refine st_istore_n (pc' := 87) (L' := [(2, vI 1), (0, vR (some 74))]) dX12_reads_86 rfl rfl (by decide) rfl ?_
          refine st_goto (pc' := 43) dX12_reads_87 (by decide) ?_
          refine WP_sub (L' := [(0, vR (some 74)), (2, vI 1)]) [1, 0] rfl ?_
          exact h
set_option maxRecDepth 20000 in
set_option maxHeartbeats 4000000 in
theorem B_X12_burning_0 {k : Nat} {P : Option Nat} {I : Nat → Nat → Int32} {J : Nat → Nat → Int64}  {Q : Option AV → Mem → Prop} (hk : 1 ≤ k) (h : (0 ≤ (gi I 74 40) ∧ (gi I 74 40) < 2) ∧ (((gi I 89 (gi I 74 40).toNat) = (-1) → (WPm (k - 1) LAY m_X12_counts [vR (some 74), vI 0] (mem (P, some 5, some 22) I J) (retI (fun v2 I3 J4 => inR v2 ∧ ((¬ v2 = 0 → ((0 ≤ (gi I3 74 40) ∧ (gi I3 74 40) < 2) ∧ (WPm (k - 1) LAY m_X12_reads [vR (some 74), vI 0] (mem (P, some 5, some 22) (si I3 89 (gi I3 74 40).toNat (gi I3 74 39)) J4) (retV (fun I8 J9 => (0 ≤ (gi I8 74 40) ∧ (gi I8 74 40) < 2) ∧ (Q none (mem (P, some 5, some 22) (si I8 90 (gi I8 74 40).toNat (gi I8 74 39)) J9))) (P, some 5, some 22))))) ∧ (v2 = 0 → (Q none (mem (P, some 5, some 22) I3 J4))))) (P, some 5, some 22)))) ∧ (¬ (gi I 89 (gi I 74 40).toNat) = (-1) → (WPm (k - 1) LAY m_X12_counts [vR (some 74), vI 1] (mem (P, some 5, some 22) I J) (retI (fun v11 I12 J13 => inR v11 ∧ ((¬ v11 = 0 → ((0 ≤ (gi I12 74 40) ∧ (gi I12 74 40) < 2) ∧ (WPm (k - 1) LAY m_X12_reads [vR (some 74), vI 0] (mem (P, some 5, some 22) (si I12 89 (gi I12 74 40).toNat (gi I12 74 39)) J13) (retV (fun I17 J18 => (0 ≤ (gi I17 74 40) ∧ (gi I17 74 40) < 2) ∧ (Q none (mem (P, some 5, some 22) (si I17 90 (gi I17 74 40).toNat (gi I17 74 39)) J18))) (P, some 5, some 22))))) ∧ (v11 = 0 → (Q none (mem (P, some 5, some 22) I12 J13))))) (P, some 5, some 22)))))) : WP k LAY m_X12_burning 0 [(0, vR (some 74))] [] (mem (P, some 5, some 22) I J) Q := by
  refine st_aload_n (pc' := 1) dX12_burning_0 rfl rfl (j := 0) rfl ?_
  refine st_aload_n (pc' := 2) dX12_burning_1 rfl rfl (j := 0) rfl ?_
  refine G_X12_93_74 dX12_burning_2 (pc' := 5) rfl rfl ?_
  refine st_aload_n (pc' := 6) dX12_burning_5 rfl rfl (j := 0) rfl ?_
  refine G_X12_133_74 dX12_burning_6 (pc' := 9) rfl rfl ?_
  obtain ⟨e1, h⟩ := h
  refine st_iaload (pc' := 10) (v := (gi I 89 (gi I 74 40).toNat)) dX12_burning_9 rfl L_89 (by decide) e1 (show gi I 89 (gi I 74 40).toNat = (gi I 89 (gi I 74 40).toNat) from rfl) ?_
  refine st_iconst (pc' := 11) dX12_burning_10 rfl ?_
  refine st_icmp_eq (tg := 18) (pc' := 14) dX12_burning_11 (by decide) rfl (gi_in _ _ _) (by decide) (fun c => ?_) (fun c => ?_)
  · replace h := h.1 c
    refine st_iconst (pc' := 19) dX12_burning_18 rfl ?_
    refine st_callV (pc' := 22) (kc := k - 1) (E' := LAY) (cal := m_X12_counts) (n := 1) (as := [vI 0]) (S := []) dX12_burning_19 rfl l_X12_410 k_X12_counts rfl L_74 c_X12 rfl rfl (Nat.le_of_ble_eq_true rfl) (by omega) ⟨Nat.le_refl _, Nat.le_refl _, Nat.le_refl _, Nat.le_refl _⟩ h (fun r M' q => ?_)
    obtain ⟨v2, I3, J4, rfl, rfl, h⟩ := q
    change WP _ LAY m_X12_burning 22 [(0, vR (some 74))] [vI v2] (mem (P, some 5, some 22) I3 J4) Q
    obtain ⟨e5, h⟩ := h
    refine st_if_ne (tg := 26) (pc' := 25) dX12_burning_22 (by decide) rfl e5 (fun c => ?_) (fun c => ?_)
    · replace h := h.1 c
      refine st_aload_n (pc' := 27) dX12_burning_26 rfl rfl (j := 0) rfl ?_
      refine G_X12_93_74 dX12_burning_27 (pc' := 30) rfl rfl ?_
      refine st_aload_n (pc' := 31) dX12_burning_30 rfl rfl (j := 0) rfl ?_
      refine G_X12_133_74 dX12_burning_31 (pc' := 34) rfl rfl ?_
      refine st_aload_n (pc' := 35) dX12_burning_34 rfl rfl (j := 0) rfl ?_
      refine G_X12_130_74 dX12_burning_35 (pc' := 38) rfl rfl ?_
      obtain ⟨e6, h⟩ := h
      refine st_iastore (pc' := 39) (M' := (mem (P, some 5, some 22) (si I3 89 (gi I3 74 40).toNat (gi I3 74 39)) J4)) dX12_burning_38 rfl L_89 (by decide) e6 rfl ?_
      refine st_aload_n (pc' := 40) dX12_burning_39 rfl rfl (j := 0) rfl ?_
      refine st_iconst (pc' := 41) dX12_burning_40 rfl ?_
      refine st_callV (pc' := 44) (kc := k - 1) (E' := LAY) (cal := m_X12_reads) (n := 1) (as := [vI 0]) (S := []) dX12_burning_41 rfl l_X12_428 k_X12_reads rfl L_74 c_X12 rfl rfl (Nat.le_of_ble_eq_true rfl) (by omega) ⟨Nat.le_refl _, Nat.le_refl _, Nat.le_refl _, Nat.le_refl _⟩ h (fun r M' q => ?_)
      obtain ⟨I8, J9, rfl, rfl, h⟩ := q
      change WP _ LAY m_X12_burning 44 [(0, vR (some 74))] [] (mem (P, some 5, some 22) I8 J9) Q
      refine st_aload_n (pc' := 45) dX12_burning_44 rfl rfl (j := 0) rfl ?_
      refine G_X12_96_74 dX12_burning_45 (pc' := 48) rfl rfl ?_
      refine st_aload_n (pc' := 49) dX12_burning_48 rfl rfl (j := 0) rfl ?_
      refine G_X12_133_74 dX12_burning_49 (pc' := 52) rfl rfl ?_
      refine st_aload_n (pc' := 53) dX12_burning_52 rfl rfl (j := 0) rfl ?_
      refine G_X12_130_74 dX12_burning_53 (pc' := 56) rfl rfl ?_
      obtain ⟨e10, h⟩ := h
      refine st_iastore (pc' := 57) (M' := (mem (P, some 5, some 22) (si I8 90 (gi I8 74 40).toNat (gi I8 74 39)) J9)) dX12_burning_56 rfl L_90 (by decide) e10 rfl ?_
      exact st_vret dX12_burning_57 rfl rfl h
    · replace h := h.2 c
      exact st_vret dX12_burning_25 rfl rfl h
  · replace h := h.2 c
    refine st_iconst (pc' := 15) dX12_burning_14 rfl ?_
    refine st_goto (pc' := 19) dX12_burning_15 (by decide) ?_
    refine st_callV (pc' := 22) (kc := k - 1) (E' := LAY) (cal := m_X12_counts) (n := 1) (as := [vI 1]) (S := []) dX12_burning_19 rfl l_X12_410 k_X12_counts rfl L_74 c_X12 rfl rfl (Nat.le_of_ble_eq_true rfl) (by omega) ⟨Nat.le_refl _, Nat.le_refl _, Nat.le_refl _, Nat.le_refl _⟩ h (fun r M' q => ?_)
    obtain ⟨v11, I12, J13, rfl, rfl, h⟩ := q
    change WP _ LAY m_X12_burning 22 [(0, vR (some 74))] [vI v11] (mem (P, some 5, some 22) I12 J13) Q
    obtain ⟨e14, h⟩ := h
    refine st_if_ne (tg := 26) (pc' := 25) dX12_burning_22 (by decide) rfl e14 (fun c => ?_) (fun c => ?_)
    · replace h := h.1 c
      refine st_aload_n (pc' := 27) dX12_burning_26 rfl rfl (j := 0) rfl ?_
      refine G_X12_93_74 dX12_burning_27 (pc' := 30) rfl rfl ?_
      refine st_aload_n (pc' := 31) dX12_burning_30 rfl rfl (j := 0) rfl ?_
      refine G_X12_133_74 dX12_burning_31 (pc' := 34) rfl rfl ?_
      refine st_aload_n (pc' := 35) dX12_burning_34 rfl rfl (j := 0) rfl ?_
      refine G_X12_130_74 dX12_burning_35 (pc' := 38) rfl rfl ?_
      obtain ⟨e15, h⟩ := h
      refine st_iastore (pc' := 39) (M' := (mem (P, some 5, some 22) (si I12 89 (gi I12 74 40).toNat (gi I12 74 39)) J13)) dX12_burning_38 rfl L_89 (by decide) e15 rfl ?_
      refine st_aload_n (pc' := 40) dX12_burning_39 rfl rfl (j := 0) rfl ?_
      refine st_iconst (pc' := 41) dX12_burning_40 rfl ?_
      refine st_callV (pc' := 44) (kc := k - 1) (E' := LAY) (cal := m_X12_reads) (n := 1) (as := [vI 0]) (S := []) dX12_burning_41 rfl l_X12_428 k_X12_reads rfl L_74 c_X12 rfl rfl (Nat.le_of_ble_eq_true rfl) (by omega) ⟨Nat.le_refl _, Nat.le_refl _, Nat.le_refl _, Nat.le_refl _⟩ h (fun r M' q => ?_)
      obtain ⟨I17, J18, rfl, rfl, h⟩ := q
      change WP _ LAY m_X12_burning 44 [(0, vR (some 74))] [] (mem (P, some 5, some 22) I17 J18) Q
      refine st_aload_n (pc' := 45) dX12_burning_44 rfl rfl (j := 0) rfl ?_
      refine G_X12_96_74 dX12_burning_45 (pc' := 48) rfl rfl ?_
      refine st_aload_n (pc' := 49) dX12_burning_48 rfl rfl (j := 0) rfl ?_
      refine G_X12_133_74 dX12_burning_49 (pc' := 52) rfl rfl ?_
      refine st_aload_n (pc' := 53) dX12_burning_52 rfl rfl (j := 0) rfl ?_
      refine G_X12_130_74 dX12_burning_53 (pc' := 56) rfl rfl ?_
      obtain ⟨e19, h⟩ := h
      refine st_iastore (pc' := 57) (M' := (mem (P, some 5, some 22) (si I17 90 (gi I17 74 40).toNat (gi I17 74 39)) J18)) dX12_burning_56 rfl L_90 (by decide) e19 rfl ?_
      exact st_vret dX12_burning_57 rfl rfl h
    · replace h := h.2 c
      exact st_vret dX12_burning_25 rfl rfl h
set_option maxRecDepth 20000 in
set_option maxHeartbeats 4000000 in
theorem B_X12_burnsOf_0 {k : Nat} {P : Option Nat} {I : Nat → Nat → Int32} {J : Nat → Nat → Int64} {x1 : Int} {x2 : Int} {Q : Option AV → Mem → Prop} (hk : 1 ≤ k) (h : (0 ≤ (gi I 74 13) ∧ (gi I 74 13) < 2) ∧ ((¬ (gi I 89 (gi I 74 13).toNat) = (-1) → (WPm (k - 1) LAY m_X12_reckons [vR (some 74), vI (gi I 89 (gi I 74 13).toNat), vI (gi I 90 (gi I 74 13).toNat)] (mem (P, some 5, some 22) (si (si (si I 74 69 x1) 74 70 x2) 74 71 (-1)) J) (retL (fun v2 I3 J4 => inL v2 ∧ ((0 ≤ v2 → ((v2 ≤ 500 → (Q (some (vI v2)) (mem (P, some 5, some 22) I3 J4))) ∧ (¬ v2 ≤ 500 → (Q (some (vI 500)) (mem (P, some 5, some 22) I3 J4))))) ∧ (¬ 0 ≤ v2 → (Q (some (vI 0)) (mem (P, some 5, some 22) I3 J4))))) (P, some 5, some 22)))) ∧ ((gi I 89 (gi I 74 13).toNat) = (-1) → (Q (some (vI (gi I 88 (gi I 74 13).toNat))) (mem (P, some 5, some 22) (si (si (si I 74 69 x1) 74 70 x2) 74 71 (-1)) J))))) : WP k LAY m_X12_burnsOf 0 [(0, vR (some 74)), (1, vI x1), (2, vI x2)] [] (mem (P, some 5, some 22) I J) Q := by
  refine st_aload_n (pc' := 1) dX12_burnsOf_0 rfl rfl (j := 0) rfl ?_
  refine st_iload_n (pc' := 2) dX12_burnsOf_1 rfl rfl (j := 1) rfl ?_
  refine P_X12_222_74 dX12_burnsOf_2 (pc' := 5) rfl rfl ?_
  refine st_aload_n (pc' := 6) dX12_burnsOf_5 rfl rfl (j := 0) rfl ?_
  refine st_iload_n (pc' := 7) dX12_burnsOf_6 rfl rfl (j := 2) rfl ?_
  refine P_X12_225_74 dX12_burnsOf_7 (pc' := 10) rfl rfl ?_
  refine st_aload_n (pc' := 11) dX12_burnsOf_10 rfl rfl (j := 0) rfl ?_
  refine st_iconst (pc' := 12) dX12_burnsOf_11 rfl ?_
  refine P_X12_228_74 dX12_burnsOf_12 (pc' := 15) rfl rfl ?_
  refine st_aload_n (pc' := 16) dX12_burnsOf_15 rfl rfl (j := 0) rfl ?_
  refine G_X12_93_74 dX12_burnsOf_16 (pc' := 19) rfl rfl ?_
  refine st_aload_n (pc' := 20) dX12_burnsOf_19 rfl rfl (j := 0) rfl ?_
  refine G_X12_51_74 dX12_burnsOf_20 (pc' := 23) rfl rfl ?_
  rw [show gi (si (si (si I 74 69 x1) 74 70 x2) 74 71 (-1)) 74 13 = (gi I 74 13) from ((gi_idx _ _ _ (by decide)).trans ((gi_idx _ _ _ (by decide)).trans (gi_idx _ _ _ (by decide))))]
  obtain ⟨e1, h⟩ := h
  refine st_iaload (pc' := 24) (v := (gi I 89 (gi I 74 13).toNat)) dX12_burnsOf_23 rfl L_89 (by decide) e1 (show gi (si (si (si I 74 69 x1) 74 70 x2) 74 71 (-1)) 89 (gi I 74 13).toNat = (gi I 89 (gi I 74 13).toNat) from ((gi_cell _ _ _ _ (by decide)).trans ((gi_cell _ _ _ _ (by decide)).trans (gi_cell _ _ _ _ (by decide))))) ?_
  refine st_iconst (pc' := 25) dX12_burnsOf_24 rfl ?_
  refine st_icmp_ne (tg := 40) (pc' := 28) dX12_burnsOf_25 (by decide) rfl (gi_in _ _ _) (by decide) (fun c => ?_) (fun c => ?_)
  · replace h := h.1 c
    refine st_aload_n (pc' := 41) dX12_burnsOf_40 rfl rfl (j := 0) rfl ?_
    refine st_aload_n (pc' := 42) dX12_burnsOf_41 rfl rfl (j := 0) rfl ?_
    refine G_X12_93_74 dX12_burnsOf_42 (pc' := 45) rfl rfl ?_
    refine st_aload_n (pc' := 46) dX12_burnsOf_45 rfl rfl (j := 0) rfl ?_
    refine G_X12_51_74 dX12_burnsOf_46 (pc' := 49) rfl rfl ?_
    rw [show gi (si (si (si I 74 69 x1) 74 70 x2) 74 71 (-1)) 74 13 = (gi I 74 13) from ((gi_idx _ _ _ (by decide)).trans ((gi_idx _ _ _ (by decide)).trans (gi_idx _ _ _ (by decide))))]
    refine st_iaload (pc' := 50) (v := (gi I 89 (gi I 74 13).toNat)) dX12_burnsOf_49 rfl L_89 (by decide) e1 (show gi (si (si (si I 74 69 x1) 74 70 x2) 74 71 (-1)) 89 (gi I 74 13).toNat = (gi I 89 (gi I 74 13).toNat) from ((gi_cell _ _ _ _ (by decide)).trans ((gi_cell _ _ _ _ (by decide)).trans (gi_cell _ _ _ _ (by decide))))) ?_
    refine st_aload_n (pc' := 51) dX12_burnsOf_50 rfl rfl (j := 0) rfl ?_
    refine G_X12_96_74 dX12_burnsOf_51 (pc' := 54) rfl rfl ?_
    refine st_aload_n (pc' := 55) dX12_burnsOf_54 rfl rfl (j := 0) rfl ?_
    refine G_X12_51_74 dX12_burnsOf_55 (pc' := 58) rfl rfl ?_
    rw [show gi (si (si (si I 74 69 x1) 74 70 x2) 74 71 (-1)) 74 13 = (gi I 74 13) from ((gi_idx _ _ _ (by decide)).trans ((gi_idx _ _ _ (by decide)).trans (gi_idx _ _ _ (by decide))))]
    refine st_iaload (pc' := 59) (v := (gi I 90 (gi I 74 13).toNat)) dX12_burnsOf_58 rfl L_90 (by decide) e1 (show gi (si (si (si I 74 69 x1) 74 70 x2) 74 71 (-1)) 90 (gi I 74 13).toNat = (gi I 90 (gi I 74 13).toNat) from ((gi_cell _ _ _ _ (by decide)).trans ((gi_cell _ _ _ _ (by decide)).trans (gi_cell _ _ _ _ (by decide))))) ?_
    refine st_callV (pc' := 62) (kc := k - 1) (E' := LAY) (cal := m_X12_reckons) (n := 2) (as := [vI (gi I 89 (gi I 74 13).toNat), vI (gi I 90 (gi I 74 13).toNat)]) (S := []) dX12_burnsOf_59 rfl l_X12_514 k_X12_reckons rfl L_74 c_X12 rfl rfl (Nat.le_of_ble_eq_true rfl) (by omega) ⟨Nat.le_refl _, Nat.le_refl _, Nat.le_refl _, Nat.le_refl _⟩ h (fun r M' q => ?_)
    obtain ⟨v2, I3, J4, rfl, rfl, h⟩ := q
    change WP _ LAY m_X12_burnsOf 62 [(0, vR (some 74)), (1, vI x1), (2, vI x2)] [vL v2] (mem (P, some 5, some 22) I3 J4) Q
    refine st_iconst (pc' := 63) dX12_burnsOf_62 rfl ?_
    refine st_sipush (pc' := 66) dX12_burnsOf_63 rfl (by decide) ?_
    refine st_callS (pc' := 69) (kc := k - 1) (E' := LAY) (cal := m_X12_between) (n := 3) (as := [vL v2, vI 0, vI 500]) (S := []) dX12_burnsOf_66 rfl l_X12_517 k_X12_between rfl rfl (Nat.le_of_ble_eq_true rfl) (by omega) ⟨Nat.le_refl _, Nat.le_refl _, Nat.le_refl _, Nat.le_refl _⟩ (Q1 := fun r M' => WP k LAY m_X12_burnsOf 69 [(0, vR (some 74)), (1, vI x1), (2, vI x2)] (r.toList ++ []) M' Q) (WPm.of k_X12_between.1 (Nat.le_of_ble_eq_true rfl) (B_X12_between_0 (by omega) ?_)) (fun r M' q => q)
    refine ⟨(by decide), ?_⟩
    obtain ⟨e5, h⟩ := h
    refine ⟨e5, ?_⟩
    refine ⟨fun c => ?_, fun c => ?_⟩
    · replace h := h.1 c
      refine ⟨(by decide), ?_⟩
      refine ⟨fun c => ?_, fun c => ?_⟩
      · replace h := h.1 c
        change WP _ LAY m_X12_burnsOf 69 [(0, vR (some 74)), (1, vI x1), (2, vI x2)] [vI v2] (mem (P, some 5, some 22) I3 J4) Q
        exact st_iret (ty := .int) dX12_burnsOf_69 rfl rfl rfl h
      · replace h := h.2 c
        change WP _ LAY m_X12_burnsOf 69 [(0, vR (some 74)), (1, vI x1), (2, vI x2)] [vI 500] (mem (P, some 5, some 22) I3 J4) Q
        exact st_iret (ty := .int) dX12_burnsOf_69 rfl rfl rfl h
    · replace h := h.2 c
      change WP _ LAY m_X12_burnsOf 69 [(0, vR (some 74)), (1, vI x1), (2, vI x2)] [vI 0] (mem (P, some 5, some 22) I3 J4) Q
      exact st_iret (ty := .int) dX12_burnsOf_69 rfl rfl rfl h
  · replace h := h.2 c
    refine st_aload_n (pc' := 29) dX12_burnsOf_28 rfl rfl (j := 0) rfl ?_
    refine G_X12_90_74 dX12_burnsOf_29 (pc' := 32) rfl rfl ?_
    refine st_aload_n (pc' := 33) dX12_burnsOf_32 rfl rfl (j := 0) rfl ?_
    refine G_X12_51_74 dX12_burnsOf_33 (pc' := 36) rfl rfl ?_
    rw [show gi (si (si (si I 74 69 x1) 74 70 x2) 74 71 (-1)) 74 13 = (gi I 74 13) from ((gi_idx _ _ _ (by decide)).trans ((gi_idx _ _ _ (by decide)).trans (gi_idx _ _ _ (by decide))))]
    refine st_iaload (pc' := 37) (v := (gi I 88 (gi I 74 13).toNat)) dX12_burnsOf_36 rfl L_88 (by decide) e1 (show gi (si (si (si I 74 69 x1) 74 70 x2) 74 71 (-1)) 88 (gi I 74 13).toNat = (gi I 88 (gi I 74 13).toNat) from ((gi_cell _ _ _ _ (by decide)).trans ((gi_cell _ _ _ _ (by decide)).trans (gi_cell _ _ _ _ (by decide))))) ?_
    refine st_goto (pc' := 69) dX12_burnsOf_37 (by decide) ?_
    exact st_iret (ty := .int) dX12_burnsOf_69 rfl rfl rfl h
set_option maxRecDepth 20000 in
set_option maxHeartbeats 4000000 in
theorem B_X12_burns_0 {k : Nat} {P : Option Nat} {I : Nat → Nat → Int32} {J : Nat → Nat → Int64} {x1 : Int} {Q : Option AV → Mem → Prop} (hk : 1 ≤ k) (h : (0 ≤ (gi I 74 13) ∧ (gi I 74 13) < 2) ∧ (inR x1 ∧ ((¬ (0 ≤ x1 ∧ x1 < gi I 83 (gi I 74 13).toNat) → (Q (some (vI (-1))) (mem (P, some 5, some 22) I J))) ∧ ((0 ≤ x1 ∧ x1 < gi I 83 (gi I 74 13).toNat) → (WPm (k - 1) LAY m_X12_burnsOf [vR (some 74), vI 0, vI x1] (mem (P, some 5, some 22) I J) (retI (fun v3 I4 J5 => Q (some (vI v3)) (mem (P, some 5, some 22) I4 J5)) (P, some 5, some 22))))))) : WP k LAY m_X12_burns 0 [(0, vR (some 74)), (1, vI x1)] [] (mem (P, some 5, some 22) I J) Q := by
  refine st_aload_n (pc' := 1) dX12_burns_0 rfl rfl (j := 0) rfl ?_
  refine st_iload_n (pc' := 2) dX12_burns_1 rfl rfl (j := 1) rfl ?_
  obtain ⟨e1, h⟩ := h
  obtain ⟨e2, h⟩ := h
  refine st_callV (pc' := 5) (kc := k - 1) (E' := LAY) (cal := m_X12_isReader) (n := 1) (as := [vI x1]) (S := []) dX12_burns_2 rfl l_X12_562 k_X12_isReader rfl L_74 c_X12 rfl rfl (Nat.le_of_ble_eq_true rfl) (by omega) ⟨Nat.le_refl _, Nat.le_refl _, Nat.le_refl _, Nat.le_refl _⟩ (Q1 := fun r M' => WP k LAY m_X12_burns 5 [(0, vR (some 74)), (1, vI x1)] (r.toList ++ []) M' Q) (S_X12_isReader (by omega) e1 e2 ?_) (fun r M' q => q)
  change WP _ LAY m_X12_burns 5 [(0, vR (some 74)), (1, vI x1)] [vI (b2i (0 ≤ x1 ∧ x1 < gi I 83 (gi I 74 13).toNat))] (mem (P, some 5, some 22) I J) Q
  refine st_if_eq (tg := 17) (pc' := 8) dX12_burns_5 (by decide) rfl (b2i_in _) (fun c => ?_) (fun c => ?_)
  · replace h := h.1 (b2i_f.mp c)
    refine st_iconst (pc' := 18) dX12_burns_17 rfl ?_
    exact st_iret (ty := .int) dX12_burns_18 rfl rfl rfl h
  · replace h := h.2 (b2i_t.mp c)
    refine st_aload_n (pc' := 9) dX12_burns_8 rfl rfl (j := 0) rfl ?_
    refine st_iconst (pc' := 10) dX12_burns_9 rfl ?_
    refine st_iload_n (pc' := 11) dX12_burns_10 rfl rfl (j := 1) rfl ?_
    refine st_callV (pc' := 14) (kc := k - 1) (E' := LAY) (cal := m_X12_burnsOf) (n := 2) (as := [vI 0, vI x1]) (S := []) dX12_burns_11 rfl l_X12_521 k_X12_burnsOf rfl L_74 c_X12 rfl rfl (Nat.le_of_ble_eq_true rfl) (by omega) ⟨Nat.le_refl _, Nat.le_refl _, Nat.le_refl _, Nat.le_refl _⟩ h (fun r M' q => ?_)
    obtain ⟨v3, I4, J5, rfl, rfl, h⟩ := q
    change WP _ LAY m_X12_burns 14 [(0, vR (some 74)), (1, vI x1)] [vI v3] (mem (P, some 5, some 22) I4 J5) Q
    refine st_goto (pc' := 18) dX12_burns_14 (by decide) ?_
    exact st_iret (ty := .int) dX12_burns_18 rfl rfl rfl h
set_option maxRecDepth 20000 in
set_option maxHeartbeats 4000000 in
theorem B_X12_twoBytes_0 {k : Nat} {P : Option Nat} {I : Nat → Nat → Int32} {J : Nat → Nat → Int64} {x1 : Int} {Q : Option AV → Mem → Prop} (hk : 0 ≤ k) (h : (0 ≤ x1 ∧ x1 < 1800) ∧ ((0 ≤ (x1 + 1) ∧ (x1 + 1) < 1800) ∧ (Q (some (vI (or32 (shl32 (gi I 75 (x1).toNat) 8) (gi I 75 ((x1 + 1) : Int).toNat)))) (mem (P, some 5, some 22) I J)))) : WP k LAY m_X12_twoBytes 0 [(0, vR (some 74)), (1, vI x1)] [] (mem (P, some 5, some 22) I J) Q := by
  refine st_aload_n (pc' := 1) dX12_twoBytes_0 rfl rfl (j := 0) rfl ?_
  refine G_X12_7_74 dX12_twoBytes_1 (pc' := 4) rfl rfl ?_
  refine st_iload_n (pc' := 5) dX12_twoBytes_4 rfl rfl (j := 1) rfl ?_
  obtain ⟨e1, h⟩ := h
  refine st_iaload (pc' := 6) (v := (gi I 75 (x1).toNat)) dX12_twoBytes_5 rfl L_75 (by decide) e1 (show gi I 75 (x1).toNat = (gi I 75 (x1).toNat) from rfl) ?_
  refine st_bipush (pc' := 8) dX12_twoBytes_6 rfl (by decide) ?_
  refine st_ishl (pc' := 9) (z := (shl32 (gi I 75 (x1).toNat) 8)) dX12_twoBytes_8 rfl rfl ?_
  refine st_aload_n (pc' := 10) dX12_twoBytes_9 rfl rfl (j := 0) rfl ?_
  refine G_X12_7_74 dX12_twoBytes_10 (pc' := 13) rfl rfl ?_
  refine st_iload_n (pc' := 14) dX12_twoBytes_13 rfl rfl (j := 1) rfl ?_
  refine st_iconst (pc' := 15) dX12_twoBytes_14 rfl ?_
  refine st_iadd (pc' := 16) dX12_twoBytes_15 rfl ?_
  obtain ⟨e2, h⟩ := h
  refine st_iaload (pc' := 17) (v := (gi I 75 ((x1 + 1) : Int).toNat)) dX12_twoBytes_16 rfl L_75 (by decide) e2 (show gi I 75 ((x1 + 1) : Int).toNat = (gi I 75 ((x1 + 1) : Int).toNat) from rfl) ?_
  refine st_ior (pc' := 18) (z := (or32 (shl32 (gi I 75 (x1).toNat) 8) (gi I 75 ((x1 + 1) : Int).toNat))) dX12_twoBytes_17 rfl rfl ?_
  exact st_iret (ty := .int) dX12_twoBytes_18 rfl rfl rfl h
set_option maxRecDepth 20000 in
set_option maxHeartbeats 4000000 in
theorem B_X12_copies_0 {k : Nat} {P : Option Nat} {I : Nat → Nat → Int32} {J : Nat → Nat → Int64} {x1 : Int} {x2 : Int} {Q : Option AV → Mem → Prop} (hk : 0 ≤ k) (h : (0 ≤ x2 ∧ x2 < 22) ∧ ((0 ≤ x1 ∧ x1 < 22) ∧ (WP k LAY m_X12_copies 26 [(0, vR (some 74)), (1, vI x1), (2, vI x2), (3, vI 0)] [] (mem (P, some 5, some 22) (si (si I 108 (x1).toNat (gi I 108 (x2).toNat)) 109 (x1).toNat (gi I 109 (x2).toNat)) J) Q))) : WP k LAY m_X12_copies 0 [(0, vR (some 74)), (1, vI x1), (2, vI x2)] [] (mem (P, some 5, some 22) I J) Q := by
  refine st_aload_n (pc' := 1) dX12_copies_0 rfl rfl (j := 0) rfl ?_
  refine G_X12_171_74 dX12_copies_1 (pc' := 4) rfl rfl ?_
  refine st_iload_n (pc' := 5) dX12_copies_4 rfl rfl (j := 1) rfl ?_
  refine st_aload_n (pc' := 6) dX12_copies_5 rfl rfl (j := 0) rfl ?_
  refine G_X12_171_74 dX12_copies_6 (pc' := 9) rfl rfl ?_
  refine st_iload_n (pc' := 10) dX12_copies_9 rfl rfl (j := 2) rfl ?_
  obtain ⟨e1, h⟩ := h
  refine st_iaload (pc' := 11) (v := (gi I 108 (x2).toNat)) dX12_copies_10 rfl L_108 (by decide) e1 (show gi I 108 (x2).toNat = (gi I 108 (x2).toNat) from rfl) ?_
  obtain ⟨e2, h⟩ := h
  refine st_iastore (pc' := 12) (M' := (mem (P, some 5, some 22) (si I 108 (x1).toNat (gi I 108 (x2).toNat)) J)) dX12_copies_11 rfl L_108 (by decide) e2 rfl ?_
  refine st_aload_n (pc' := 13) dX12_copies_12 rfl rfl (j := 0) rfl ?_
  refine G_X12_174_74 dX12_copies_13 (pc' := 16) rfl rfl ?_
  refine st_iload_n (pc' := 17) dX12_copies_16 rfl rfl (j := 1) rfl ?_
  refine st_aload_n (pc' := 18) dX12_copies_17 rfl rfl (j := 0) rfl ?_
  refine G_X12_174_74 dX12_copies_18 (pc' := 21) rfl rfl ?_
  refine st_iload_n (pc' := 22) dX12_copies_21 rfl rfl (j := 2) rfl ?_
  refine st_iaload (pc' := 23) (v := (gi I 109 (x2).toNat)) dX12_copies_22 rfl L_109 (by decide) e1 (show gi (si I 108 (x1).toNat (gi I 108 (x2).toNat)) 109 (x2).toNat = (gi I 109 (x2).toNat) from (gi_cell _ _ _ _ (by decide))) ?_
  refine st_iastore (pc' := 24) (M' := (mem (P, some 5, some 22) (si (si I 108 (x1).toNat (gi I 108 (x2).toNat)) 109 (x1).toNat (gi I 109 (x2).toNat)) J)) dX12_copies_23 rfl L_109 (by decide) e2 rfl ?_
  refine st_iconst (pc' := 25) dX12_copies_24 rfl ?_
  refine st_istore_n (pc' := 26) (L' := [(3, vI 0), (0, vR (some 74)), (1, vI x1), (2, vI x2)]) dX12_copies_25 rfl rfl (by decide) rfl ?_
  refine WP_sub (L' := [(0, vR (some 74)), (1, vI x1), (2, vI x2), (3, vI 0)]) [1, 2, 3, 0] rfl ?_
  exact h
set_option maxRecDepth 20000 in
set_option maxHeartbeats 4000000 in
theorem B_X12_copies_26 {k : Nat} {P : Option Nat} {I : Nat → Nat → Int32} {J : Nat → Nat → Int64} {x1 : Int} {x2 : Int} {x3 : Int} {Q : Option AV → Mem → Prop} (hk : 0 ≤ k) (h : inR x3 ∧ ((6 ≤ x3 → ((0 ≤ x2 ∧ x2 < 22) ∧ ((0 ≤ x1 ∧ x1 < 22) ∧ (WP k LAY m_X12_copies 194 [(0, vR (some 74)), (1, vI x1), (2, vI x2), (3, vI 0)] [] (mem (P, some 5, some 22) (si I 117 (x1).toNat (gi I 117 (x2).toNat)) J) Q)))) ∧ (¬ 6 ≤ x3 → ((0 ≤ ((6 * x2) + x3) ∧ ((6 * x2) + x3) < 132) ∧ ((0 ≤ ((6 * x1) + x3) ∧ ((6 * x1) + x3) < 132) ∧ (WP k LAY m_X12_copies 135 [(0, vR (some 74)), (1, vI x1), (2, vI x2), (3, vI x3), (4, vI ((6 * x1) + x3)), (5, vI ((6 * x2) + x3)), (6, vI 0)] [] (mem (P, some 5, some 22) (si (si (si (si (si (si I 110 (((6 * x1) + x3) : Int).toNat (gi I 110 (((6 * x2) + x3) : Int).toNat)) 111 (((6 * x1) + x3) : Int).toNat (gi I 111 (((6 * x2) + x3) : Int).toNat)) 112 (((6 * x1) + x3) : Int).toNat (gi I 112 (((6 * x2) + x3) : Int).toNat)) 113 (((6 * x1) + x3) : Int).toNat (gi I 113 (((6 * x2) + x3) : Int).toNat)) 114 (((6 * x1) + x3) : Int).toNat (gi I 114 (((6 * x2) + x3) : Int).toNat)) 115 (((6 * x1) + x3) : Int).toNat (gi I 115 (((6 * x2) + x3) : Int).toNat)) J) Q)))))) : WP k LAY m_X12_copies 26 [(0, vR (some 74)), (1, vI x1), (2, vI x2), (3, vI x3)] [] (mem (P, some 5, some 22) I J) Q := by
  refine st_iload_n (pc' := 27) dX12_copies_26 rfl rfl (j := 3) rfl ?_
  refine st_bipush (pc' := 29) dX12_copies_27 rfl (by decide) ?_
  obtain ⟨e1, h⟩ := h
  refine st_icmp_ge (tg := 180) (pc' := 32) dX12_copies_29 (by decide) rfl e1 (by decide) (fun c => ?_) (fun c => ?_)
  · replace h := h.1 c
    refine st_aload_n (pc' := 181) dX12_copies_180 rfl rfl (j := 0) rfl ?_
    refine G_X12_198_74 dX12_copies_181 (pc' := 184) rfl rfl ?_
    refine st_iload_n (pc' := 185) dX12_copies_184 rfl rfl (j := 1) rfl ?_
    refine st_aload_n (pc' := 186) dX12_copies_185 rfl rfl (j := 0) rfl ?_
    refine G_X12_198_74 dX12_copies_186 (pc' := 189) rfl rfl ?_
    refine st_iload_n (pc' := 190) dX12_copies_189 rfl rfl (j := 2) rfl ?_
    obtain ⟨e2, h⟩ := h
    refine st_iaload (pc' := 191) (v := (gi I 117 (x2).toNat)) dX12_copies_190 rfl L_117 (by decide) e2 (show gi I 117 (x2).toNat = (gi I 117 (x2).toNat) from rfl) ?_
    obtain ⟨e3, h⟩ := h
    refine st_iastore (pc' := 192) (M' := (mem (P, some 5, some 22) (si I 117 (x1).toNat (gi I 117 (x2).toNat)) J)) dX12_copies_191 rfl L_117 (by decide) e3 rfl ?_
    refine st_iconst (pc' := 193) dX12_copies_192 rfl ?_
    refine st_istore_n (pc' := 194) (L' := [(3, vI 0), (0, vR (some 74)), (1, vI x1), (2, vI x2)]) dX12_copies_193 rfl rfl (by decide) rfl ?_
    refine WP_sub (L' := [(0, vR (some 74)), (1, vI x1), (2, vI x2), (3, vI 0)]) [1, 2, 3, 0] rfl ?_
    exact h
  · replace h := h.2 c
    refine st_bipush (pc' := 34) dX12_copies_32 rfl (by decide) ?_
    refine st_iload_n (pc' := 35) dX12_copies_34 rfl rfl (j := 1) rfl ?_
    refine st_imul (pc' := 36) dX12_copies_35 rfl ?_
    refine st_iload_n (pc' := 37) dX12_copies_36 rfl rfl (j := 3) rfl ?_
    refine st_iadd (pc' := 38) dX12_copies_37 rfl ?_
    refine st_istore (pc' := 40) (L' := [(4, vI ((6 * x1) + x3)), (0, vR (some 74)), (1, vI x1), (2, vI x2), (3, vI x3)]) dX12_copies_38 rfl (by decide) rfl ?_
    refine st_bipush (pc' := 42) dX12_copies_40 rfl (by decide) ?_
    refine st_iload_n (pc' := 43) dX12_copies_42 rfl rfl (j := 3) rfl ?_
    refine st_imul (pc' := 44) dX12_copies_43 rfl ?_
    refine st_iload_n (pc' := 45) dX12_copies_44 rfl rfl (j := 4) rfl ?_
    refine st_iadd (pc' := 46) dX12_copies_45 rfl ?_
    refine st_istore (pc' := 48) (L' := [(5, vI ((6 * x2) + x3)), (4, vI ((6 * x1) + x3)), (0, vR (some 74)), (1, vI x1), (2, vI x2), (3, vI x3)]) dX12_copies_46 rfl (by decide) rfl ?_
    refine st_aload_n (pc' := 49) dX12_copies_48 rfl rfl (j := 2) rfl ?_
    refine G_X12_177_74 dX12_copies_49 (pc' := 52) rfl rfl ?_
    refine st_iload (pc' := 54) dX12_copies_52 rfl (j := 1) rfl ?_
    refine st_aload_n (pc' := 55) dX12_copies_54 rfl rfl (j := 2) rfl ?_
    refine G_X12_177_74 dX12_copies_55 (pc' := 58) rfl rfl ?_
    refine st_iload (pc' := 60) dX12_copies_58 rfl (j := 0) rfl ?_
    obtain ⟨e4, h⟩ := h
    refine st_iaload (pc' := 61) (v := (gi I 110 (((6 * x2) + x3) : Int).toNat)) dX12_copies_60 rfl L_110 (by decide) e4 (show gi I 110 (((6 * x2) + x3) : Int).toNat = (gi I 110 (((6 * x2) + x3) : Int).toNat) from rfl) ?_
    obtain ⟨e5, h⟩ := h
    refine st_iastore (pc' := 62) (M' := (mem (P, some 5, some 22) (si I 110 (((6 * x1) + x3) : Int).toNat (gi I 110 (((6 * x2) + x3) : Int).toNat)) J)) dX12_copies_61 rfl L_110 (by decide) e5 rfl ?_
    refine st_aload_n (pc' := 63) dX12_copies_62 rfl rfl (j := 2) rfl ?_
    refine G_X12_180_74 dX12_copies_63 (pc' := 66) rfl rfl ?_
    refine st_iload (pc' := 68) dX12_copies_66 rfl (j := 1) rfl ?_
    refine st_aload_n (pc' := 69) dX12_copies_68 rfl rfl (j := 2) rfl ?_
    refine G_X12_180_74 dX12_copies_69 (pc' := 72) rfl rfl ?_
    refine st_iload (pc' := 74) dX12_copies_72 rfl (j := 0) rfl ?_
    refine st_iaload (pc' := 75) (v := (gi I 111 (((6 * x2) + x3) : Int).toNat)) dX12_copies_74 rfl L_111 (by decide) e4 (show gi (si I 110 (((6 * x1) + x3) : Int).toNat (gi I 110 (((6 * x2) + x3) : Int).toNat)) 111 (((6 * x2) + x3) : Int).toNat = (gi I 111 (((6 * x2) + x3) : Int).toNat) from (gi_cell _ _ _ _ (by decide))) ?_
    refine st_iastore (pc' := 76) (M' := (mem (P, some 5, some 22) (si (si I 110 (((6 * x1) + x3) : Int).toNat (gi I 110 (((6 * x2) + x3) : Int).toNat)) 111 (((6 * x1) + x3) : Int).toNat (gi I 111 (((6 * x2) + x3) : Int).toNat)) J)) dX12_copies_75 rfl L_111 (by decide) e5 rfl ?_
    refine st_aload_n (pc' := 77) dX12_copies_76 rfl rfl (j := 2) rfl ?_
    refine G_X12_183_74 dX12_copies_77 (pc' := 80) rfl rfl ?_
    refine st_iload (pc' := 82) dX12_copies_80 rfl (j := 1) rfl ?_
    refine st_aload_n (pc' := 83) dX12_copies_82 rfl rfl (j := 2) rfl ?_
    refine G_X12_183_74 dX12_copies_83 (pc' := 86) rfl rfl ?_
    refine st_iload (pc' := 88) dX12_copies_86 rfl (j := 0) rfl ?_
    refine st_iaload (pc' := 89) (v := (gi I 112 (((6 * x2) + x3) : Int).toNat)) dX12_copies_88 rfl L_112 (by decide) e4 (show gi (si (si I 110 (((6 * x1) + x3) : Int).toNat (gi I 110 (((6 * x2) + x3) : Int).toNat)) 111 (((6 * x1) + x3) : Int).toNat (gi I 111 (((6 * x2) + x3) : Int).toNat)) 112 (((6 * x2) + x3) : Int).toNat = (gi I 112 (((6 * x2) + x3) : Int).toNat) from ((gi_cell _ _ _ _ (by decide)).trans (gi_cell _ _ _ _ (by decide)))) ?_
    refine st_iastore (pc' := 90) (M' := (mem (P, some 5, some 22) (si (si (si I 110 (((6 * x1) + x3) : Int).toNat (gi I 110 (((6 * x2) + x3) : Int).toNat)) 111 (((6 * x1) + x3) : Int).toNat (gi I 111 (((6 * x2) + x3) : Int).toNat)) 112 (((6 * x1) + x3) : Int).toNat (gi I 112 (((6 * x2) + x3) : Int).toNat)) J)) dX12_copies_89 rfl L_112 (by decide) e5 rfl ?_
    refine st_aload_n (pc' := 91) dX12_copies_90 rfl rfl (j := 2) rfl ?_
    refine G_X12_186_74 dX12_copies_91 (pc' := 94) rfl rfl ?_
    refine st_iload (pc' := 96) dX12_copies_94 rfl (j := 1) rfl ?_
    refine st_aload_n (pc' := 97) dX12_copies_96 rfl rfl (j := 2) rfl ?_
    refine G_X12_186_74 dX12_copies_97 (pc' := 100) rfl rfl ?_
    refine st_iload (pc' := 102) dX12_copies_100 rfl (j := 0) rfl ?_
    refine st_iaload (pc' := 103) (v := (gi I 113 (((6 * x2) + x3) : Int).toNat)) dX12_copies_102 rfl L_113 (by decide) e4 (show gi (si (si (si I 110 (((6 * x1) + x3) : Int).toNat (gi I 110 (((6 * x2) + x3) : Int).toNat)) 111 (((6 * x1) + x3) : Int).toNat (gi I 111 (((6 * x2) + x3) : Int).toNat)) 112 (((6 * x1) + x3) : Int).toNat (gi I 112 (((6 * x2) + x3) : Int).toNat)) 113 (((6 * x2) + x3) : Int).toNat = (gi I 113 (((6 * x2) + x3) : Int).toNat) from ((gi_cell _ _ _ _ (by decide)).trans ((gi_cell _ _ _ _ (by decide)).trans (gi_cell _ _ _ _ (by decide))))) ?_
    refine st_iastore (pc' := 104) (M' := (mem (P, some 5, some 22) (si (si (si (si I 110 (((6 * x1) + x3) : Int).toNat (gi I 110 (((6 * x2) + x3) : Int).toNat)) 111 (((6 * x1) + x3) : Int).toNat (gi I 111 (((6 * x2) + x3) : Int).toNat)) 112 (((6 * x1) + x3) : Int).toNat (gi I 112 (((6 * x2) + x3) : Int).toNat)) 113 (((6 * x1) + x3) : Int).toNat (gi I 113 (((6 * x2) + x3) : Int).toNat)) J)) dX12_copies_103 rfl L_113 (by decide) e5 rfl ?_
    refine st_aload_n (pc' := 105) dX12_copies_104 rfl rfl (j := 2) rfl ?_
    refine G_X12_189_74 dX12_copies_105 (pc' := 108) rfl rfl ?_
    refine st_iload (pc' := 110) dX12_copies_108 rfl (j := 1) rfl ?_
    refine st_aload_n (pc' := 111) dX12_copies_110 rfl rfl (j := 2) rfl ?_
    refine G_X12_189_74 dX12_copies_111 (pc' := 114) rfl rfl ?_
    refine st_iload (pc' := 116) dX12_copies_114 rfl (j := 0) rfl ?_
    refine st_iaload (pc' := 117) (v := (gi I 114 (((6 * x2) + x3) : Int).toNat)) dX12_copies_116 rfl L_114 (by decide) e4 (show gi (si (si (si (si I 110 (((6 * x1) + x3) : Int).toNat (gi I 110 (((6 * x2) + x3) : Int).toNat)) 111 (((6 * x1) + x3) : Int).toNat (gi I 111 (((6 * x2) + x3) : Int).toNat)) 112 (((6 * x1) + x3) : Int).toNat (gi I 112 (((6 * x2) + x3) : Int).toNat)) 113 (((6 * x1) + x3) : Int).toNat (gi I 113 (((6 * x2) + x3) : Int).toNat)) 114 (((6 * x2) + x3) : Int).toNat = (gi I 114 (((6 * x2) + x3) : Int).toNat) from ((gi_cell _ _ _ _ (by decide)).trans ((gi_cell _ _ _ _ (by decide)).trans ((gi_cell _ _ _ _ (by decide)).trans (gi_cell _ _ _ _ (by decide)))))) ?_
    refine st_iastore (pc' := 118) (M' := (mem (P, some 5, some 22) (si (si (si (si (si I 110 (((6 * x1) + x3) : Int).toNat (gi I 110 (((6 * x2) + x3) : Int).toNat)) 111 (((6 * x1) + x3) : Int).toNat (gi I 111 (((6 * x2) + x3) : Int).toNat)) 112 (((6 * x1) + x3) : Int).toNat (gi I 112 (((6 * x2) + x3) : Int).toNat)) 113 (((6 * x1) + x3) : Int).toNat (gi I 113 (((6 * x2) + x3) : Int).toNat)) 114 (((6 * x1) + x3) : Int).toNat (gi I 114 (((6 * x2) + x3) : Int).toNat)) J)) dX12_copies_117 rfl L_114 (by decide) e5 rfl ?_
    refine st_aload_n (pc' := 119) dX12_copies_118 rfl rfl (j := 2) rfl ?_
    refine G_X12_192_74 dX12_copies_119 (pc' := 122) rfl rfl ?_
    refine st_iload (pc' := 124) dX12_copies_122 rfl (j := 1) rfl ?_
    refine st_aload_n (pc' := 125) dX12_copies_124 rfl rfl (j := 2) rfl ?_
    refine G_X12_192_74 dX12_copies_125 (pc' := 128) rfl rfl ?_
    refine st_iload (pc' := 130) dX12_copies_128 rfl (j := 0) rfl ?_
    refine st_iaload (pc' := 131) (v := (gi I 115 (((6 * x2) + x3) : Int).toNat)) dX12_copies_130 rfl L_115 (by decide) e4 (show gi (si (si (si (si (si I 110 (((6 * x1) + x3) : Int).toNat (gi I 110 (((6 * x2) + x3) : Int).toNat)) 111 (((6 * x1) + x3) : Int).toNat (gi I 111 (((6 * x2) + x3) : Int).toNat)) 112 (((6 * x1) + x3) : Int).toNat (gi I 112 (((6 * x2) + x3) : Int).toNat)) 113 (((6 * x1) + x3) : Int).toNat (gi I 113 (((6 * x2) + x3) : Int).toNat)) 114 (((6 * x1) + x3) : Int).toNat (gi I 114 (((6 * x2) + x3) : Int).toNat)) 115 (((6 * x2) + x3) : Int).toNat = (gi I 115 (((6 * x2) + x3) : Int).toNat) from ((gi_cell _ _ _ _ (by decide)).trans ((gi_cell _ _ _ _ (by decide)).trans ((gi_cell _ _ _ _ (by decide)).trans ((gi_cell _ _ _ _ (by decide)).trans (gi_cell _ _ _ _ (by decide))))))) ?_
    refine st_iastore (pc' := 132) (M' := (mem (P, some 5, some 22) (si (si (si (si (si (si I 110 (((6 * x1) + x3) : Int).toNat (gi I 110 (((6 * x2) + x3) : Int).toNat)) 111 (((6 * x1) + x3) : Int).toNat (gi I 111 (((6 * x2) + x3) : Int).toNat)) 112 (((6 * x1) + x3) : Int).toNat (gi I 112 (((6 * x2) + x3) : Int).toNat)) 113 (((6 * x1) + x3) : Int).toNat (gi I 113 (((6 * x2) + x3) : Int).toNat)) 114 (((6 * x1) + x3) : Int).toNat (gi I 114 (((6 * x2) + x3) : Int).toNat)) 115 (((6 * x1) + x3) : Int).toNat (gi I 115 (((6 * x2) + x3) : Int).toNat)) J)) dX12_copies_131 rfl L_115 (by decide) e5 rfl ?_
    refine st_iconst (pc' := 133) dX12_copies_132 rfl ?_
    refine st_istore (pc' := 135) (L' := [(6, vI 0), (5, vI ((6 * x2) + x3)), (4, vI ((6 * x1) + x3)), (0, vR (some 74)), (1, vI x1), (2, vI x2), (3, vI x3)]) dX12_copies_133 rfl (by decide) rfl ?_
    refine WP_sub (L' := [(0, vR (some 74)), (1, vI x1), (2, vI x2), (3, vI x3), (4, vI ((6 * x1) + x3)), (5, vI ((6 * x2) + x3)), (6, vI 0)]) [3, 4, 5, 6, 2, 1, 0] rfl ?_
    exact h
set_option maxRecDepth 20000 in
set_option maxHeartbeats 4000000 in
theorem B_X12_copies_194 {k : Nat} {P : Option Nat} {I : Nat → Nat → Int32} {J : Nat → Nat → Int64} {x1 : Int} {x2 : Int} {x3 : Int} {Q : Option AV → Mem → Prop} (hk : 0 ≤ k) (h : inR x3 ∧ ((60 ≤ x3 → (Q none (mem (P, some 5, some 22) I J))) ∧ (¬ 60 ≤ x3 → ((0 ≤ ((60 * x2) + x3) ∧ ((60 * x2) + x3) < 1320) ∧ ((0 ≤ ((60 * x1) + x3) ∧ ((60 * x1) + x3) < 1320) ∧ (WP k LAY m_X12_copies 194 [(0, vR (some 74)), (1, vI x1), (2, vI x2), (3, vI (x3 + 1))] [] (mem (P, some 5, some 22) (si (si (si I 118 (((60 * x1) + x3) : Int).toNat (gi I 118 (((60 * x2) + x3) : Int).toNat)) 119 (((60 * x1) + x3) : Int).toNat (gi I 119 (((60 * x2) + x3) : Int).toNat)) 120 (((60 * x1) + x3) : Int).toNat (gi I 120 (((60 * x2) + x3) : Int).toNat)) J) Q)))))) : WP k LAY m_X12_copies 194 [(0, vR (some 74)), (1, vI x1), (2, vI x2), (3, vI x3)] [] (mem (P, some 5, some 22) I J) Q := by
  refine st_iload_n (pc' := 195) dX12_copies_194 rfl rfl (j := 3) rfl ?_
  refine st_bipush (pc' := 197) dX12_copies_195 rfl (by decide) ?_
  obtain ⟨e1, h⟩ := h
  refine st_icmp_ge (tg := 272) (pc' := 200) dX12_copies_197 (by decide) rfl e1 (by decide) (fun c => ?_) (fun c => ?_)
  · replace h := h.1 c
    exact st_vret dX12_copies_272 rfl rfl h
  · replace h := h.2 c
    refine st_aload_n (pc' := 201) dX12_copies_200 rfl rfl (j := 0) rfl ?_
    refine G_X12_201_74 dX12_copies_201 (pc' := 204) rfl rfl ?_
    refine st_bipush (pc' := 206) dX12_copies_204 rfl (by decide) ?_
    refine st_iload_n (pc' := 207) dX12_copies_206 rfl rfl (j := 1) rfl ?_
    refine st_imul (pc' := 208) dX12_copies_207 rfl ?_
    refine st_iload_n (pc' := 209) dX12_copies_208 rfl rfl (j := 3) rfl ?_
    refine st_iadd (pc' := 210) dX12_copies_209 rfl ?_
    refine st_aload_n (pc' := 211) dX12_copies_210 rfl rfl (j := 0) rfl ?_
    refine G_X12_201_74 dX12_copies_211 (pc' := 214) rfl rfl ?_
    refine st_bipush (pc' := 216) dX12_copies_214 rfl (by decide) ?_
    refine st_iload_n (pc' := 217) dX12_copies_216 rfl rfl (j := 2) rfl ?_
    refine st_imul (pc' := 218) dX12_copies_217 rfl ?_
    refine st_iload_n (pc' := 219) dX12_copies_218 rfl rfl (j := 3) rfl ?_
    refine st_iadd (pc' := 220) dX12_copies_219 rfl ?_
    obtain ⟨e2, h⟩ := h
    refine st_iaload (pc' := 221) (v := (gi I 118 (((60 * x2) + x3) : Int).toNat)) dX12_copies_220 rfl L_118 (by decide) e2 (show gi I 118 (((60 * x2) + x3) : Int).toNat = (gi I 118 (((60 * x2) + x3) : Int).toNat) from rfl) ?_
    obtain ⟨e3, h⟩ := h
    refine st_iastore (pc' := 222) (M' := (mem (P, some 5, some 22) (si I 118 (((60 * x1) + x3) : Int).toNat (gi I 118 (((60 * x2) + x3) : Int).toNat)) J)) dX12_copies_221 rfl L_118 (by decide) e3 rfl ?_
    refine st_aload_n (pc' := 223) dX12_copies_222 rfl rfl (j := 0) rfl ?_
    refine G_X12_204_74 dX12_copies_223 (pc' := 226) rfl rfl ?_
    refine st_bipush (pc' := 228) dX12_copies_226 rfl (by decide) ?_
    refine st_iload_n (pc' := 229) dX12_copies_228 rfl rfl (j := 1) rfl ?_
    refine st_imul (pc' := 230) dX12_copies_229 rfl ?_
    refine st_iload_n (pc' := 231) dX12_copies_230 rfl rfl (j := 3) rfl ?_
    refine st_iadd (pc' := 232) dX12_copies_231 rfl ?_
    refine st_aload_n (pc' := 233) dX12_copies_232 rfl rfl (j := 0) rfl ?_
    refine G_X12_204_74 dX12_copies_233 (pc' := 236) rfl rfl ?_
    refine st_bipush (pc' := 238) dX12_copies_236 rfl (by decide) ?_
    refine st_iload_n (pc' := 239) dX12_copies_238 rfl rfl (j := 2) rfl ?_
    refine st_imul (pc' := 240) dX12_copies_239 rfl ?_
    refine st_iload_n (pc' := 241) dX12_copies_240 rfl rfl (j := 3) rfl ?_
    refine st_iadd (pc' := 242) dX12_copies_241 rfl ?_
    refine st_iaload (pc' := 243) (v := (gi I 119 (((60 * x2) + x3) : Int).toNat)) dX12_copies_242 rfl L_119 (by decide) e2 (show gi (si I 118 (((60 * x1) + x3) : Int).toNat (gi I 118 (((60 * x2) + x3) : Int).toNat)) 119 (((60 * x2) + x3) : Int).toNat = (gi I 119 (((60 * x2) + x3) : Int).toNat) from (gi_cell _ _ _ _ (by decide))) ?_
    refine st_iastore (pc' := 244) (M' := (mem (P, some 5, some 22) (si (si I 118 (((60 * x1) + x3) : Int).toNat (gi I 118 (((60 * x2) + x3) : Int).toNat)) 119 (((60 * x1) + x3) : Int).toNat (gi I 119 (((60 * x2) + x3) : Int).toNat)) J)) dX12_copies_243 rfl L_119 (by decide) e3 rfl ?_
    refine st_aload_n (pc' := 245) dX12_copies_244 rfl rfl (j := 0) rfl ?_
    refine G_X12_207_74 dX12_copies_245 (pc' := 248) rfl rfl ?_
    refine st_bipush (pc' := 250) dX12_copies_248 rfl (by decide) ?_
    refine st_iload_n (pc' := 251) dX12_copies_250 rfl rfl (j := 1) rfl ?_
    refine st_imul (pc' := 252) dX12_copies_251 rfl ?_
    refine st_iload_n (pc' := 253) dX12_copies_252 rfl rfl (j := 3) rfl ?_
    refine st_iadd (pc' := 254) dX12_copies_253 rfl ?_
    refine st_aload_n (pc' := 255) dX12_copies_254 rfl rfl (j := 0) rfl ?_
    refine G_X12_207_74 dX12_copies_255 (pc' := 258) rfl rfl ?_
    refine st_bipush (pc' := 260) dX12_copies_258 rfl (by decide) ?_
    refine st_iload_n (pc' := 261) dX12_copies_260 rfl rfl (j := 2) rfl ?_
    refine st_imul (pc' := 262) dX12_copies_261 rfl ?_
    refine st_iload_n (pc' := 263) dX12_copies_262 rfl rfl (j := 3) rfl ?_
    refine st_iadd (pc' := 264) dX12_copies_263 rfl ?_
    refine st_iaload (pc' := 265) (v := (gi I 120 (((60 * x2) + x3) : Int).toNat)) dX12_copies_264 rfl L_120 (by decide) e2 (show gi (si (si I 118 (((60 * x1) + x3) : Int).toNat (gi I 118 (((60 * x2) + x3) : Int).toNat)) 119 (((60 * x1) + x3) : Int).toNat (gi I 119 (((60 * x2) + x3) : Int).toNat)) 120 (((60 * x2) + x3) : Int).toNat = (gi I 120 (((60 * x2) + x3) : Int).toNat) from ((gi_cell _ _ _ _ (by decide)).trans (gi_cell _ _ _ _ (by decide)))) ?_
    refine st_iastore (pc' := 266) (M' := (mem (P, some 5, some 22) (si (si (si I 118 (((60 * x1) + x3) : Int).toNat (gi I 118 (((60 * x2) + x3) : Int).toNat)) 119 (((60 * x1) + x3) : Int).toNat (gi I 119 (((60 * x2) + x3) : Int).toNat)) 120 (((60 * x1) + x3) : Int).toNat (gi I 120 (((60 * x2) + x3) : Int).toNat)) J)) dX12_copies_265 rfl L_120 (by decide) e3 rfl ?_
    refine st_iinc (pc' := 269) (L' := [(3, vI (x3 + 1)), (0, vR (some 74)), (1, vI x1), (2, vI x2)]) (j := 3) dX12_copies_266 rfl (by decide) rfl rfl ?_
    refine st_goto (pc' := 194) dX12_copies_269 (by decide) ?_
    refine WP_sub (L' := [(0, vR (some 74)), (1, vI x1), (2, vI x2), (3, vI (x3 + 1))]) [1, 2, 3, 0] rfl ?_
    exact h
set_option maxRecDepth 20000 in
set_option maxHeartbeats 4000000 in
theorem B_X12_copies_135 {k : Nat} {P : Option Nat} {I : Nat → Nat → Int32} {J : Nat → Nat → Int64} {x1 : Int} {x2 : Int} {x3 : Int} {x4 : Int} {x5 : Int} {x6 : Int} {Q : Option AV → Mem → Prop} (hk : 0 ≤ k) (h : inR x6 ∧ ((8 ≤ x6 → (WP k LAY m_X12_copies 26 [(0, vR (some 74)), (1, vI x1), (2, vI x2), (3, vI (x3 + 1))] [] (mem (P, some 5, some 22) I J) Q)) ∧ (¬ 8 ≤ x6 → ((0 ≤ ((8 * x5) + x6) ∧ ((8 * x5) + x6) < 1056) ∧ ((0 ≤ ((8 * x4) + x6) ∧ ((8 * x4) + x6) < 1056) ∧ (WP k LAY m_X12_copies 135 [(0, vR (some 74)), (1, vI x1), (2, vI x2), (3, vI x3), (4, vI x4), (5, vI x5), (6, vI (x6 + 1))] [] (mem (P, some 5, some 22) (si I 116 (((8 * x4) + x6) : Int).toNat (gi I 116 (((8 * x5) + x6) : Int).toNat)) J) Q)))))) : WP k LAY m_X12_copies 135 [(0, vR (some 74)), (1, vI x1), (2, vI x2), (3, vI x3), (4, vI x4), (5, vI x5), (6, vI x6)] [] (mem (P, some 5, some 22) I J) Q := by
  refine st_iload (pc' := 137) dX12_copies_135 rfl (j := 6) rfl ?_
  refine st_bipush (pc' := 139) dX12_copies_137 rfl (by decide) ?_
  obtain ⟨e1, h⟩ := h
  refine st_icmp_ge (tg := 174) (pc' := 142) dX12_copies_139 (by decide) rfl e1 (by decide) (fun c => ?_) (fun c => ?_)
  · replace h := h.1 c
    refine st_iinc (pc' := 177) (L' := [(3, vI (x3 + 1)), (0, vR (some 74)), (1, vI x1), (2, vI x2), (4, vI x4), (5, vI x5), (6, vI x6)]) (j := 3) dX12_copies_174 rfl (by decide) rfl rfl ?_
    refine st_goto (pc' := 26) dX12_copies_177 (by decide) ?_
    refine WP_sub (L' := [(0, vR (some 74)), (1, vI x1), (2, vI x2), (3, vI (x3 + 1))]) [1, 2, 3, 0] rfl ?_
    exact h
  · replace h := h.2 c
    refine st_aload_n (pc' := 143) dX12_copies_142 rfl rfl (j := 0) rfl ?_
    refine G_X12_195_74 dX12_copies_143 (pc' := 146) rfl rfl ?_
    refine st_bipush (pc' := 148) dX12_copies_146 rfl (by decide) ?_
    refine st_iload (pc' := 150) dX12_copies_148 rfl (j := 4) rfl ?_
    refine st_imul (pc' := 151) dX12_copies_150 rfl ?_
    refine st_iload (pc' := 153) dX12_copies_151 rfl (j := 6) rfl ?_
    refine st_iadd (pc' := 154) dX12_copies_153 rfl ?_
    refine st_aload_n (pc' := 155) dX12_copies_154 rfl rfl (j := 0) rfl ?_
    refine G_X12_195_74 dX12_copies_155 (pc' := 158) rfl rfl ?_
    refine st_bipush (pc' := 160) dX12_copies_158 rfl (by decide) ?_
    refine st_iload (pc' := 162) dX12_copies_160 rfl (j := 5) rfl ?_
    refine st_imul (pc' := 163) dX12_copies_162 rfl ?_
    refine st_iload (pc' := 165) dX12_copies_163 rfl (j := 6) rfl ?_
    refine st_iadd (pc' := 166) dX12_copies_165 rfl ?_
    obtain ⟨e2, h⟩ := h
    refine st_iaload (pc' := 167) (v := (gi I 116 (((8 * x5) + x6) : Int).toNat)) dX12_copies_166 rfl L_116 (by decide) e2 (show gi I 116 (((8 * x5) + x6) : Int).toNat = (gi I 116 (((8 * x5) + x6) : Int).toNat) from rfl) ?_
    obtain ⟨e3, h⟩ := h
    refine st_iastore (pc' := 168) (M' := (mem (P, some 5, some 22) (si I 116 (((8 * x4) + x6) : Int).toNat (gi I 116 (((8 * x5) + x6) : Int).toNat)) J)) dX12_copies_167 rfl L_116 (by decide) e3 rfl ?_
    refine st_iinc (pc' := 171) (L' := [(6, vI (x6 + 1)), (0, vR (some 74)), (1, vI x1), (2, vI x2), (3, vI x3), (4, vI x4), (5, vI x5)]) (j := 6) dX12_copies_168 rfl (by decide) rfl rfl ?_
    refine st_goto (pc' := 135) dX12_copies_171 (by decide) ?_
    refine WP_sub (L' := [(0, vR (some 74)), (1, vI x1), (2, vI x2), (3, vI x3), (4, vI x4), (5, vI x5), (6, vI (x6 + 1))]) [1, 2, 3, 4, 5, 6, 0] rfl ?_
    exact h
set_option maxRecDepth 20000 in
set_option maxHeartbeats 4000000 in
theorem B_X12_readerOn_0 {k : Nat} {P : Option Nat} {I : Nat → Nat → Int32} {J : Nat → Nat → Int64} {x1 : Int} {x2 : Int} {x3 : Int} {Q : Option AV → Mem → Prop} (hk : 1 ≤ k) (h : inR (x2 + 9) ∧ (inR x3 ∧ ((x3 < (x2 + 9) → (Q (some (vI (-1))) (mem (P, some 5, some 22) I J))) ∧ (¬ x3 < (x2 + 9) → ((0 ≤ (x2 + 8) ∧ (x2 + 8) < 1800) ∧ ((8 < (gi I 75 ((x2 + 8) : Int).toNat) → (Q (some (vI (-1))) (mem (P, some 5, some 22) I J))) ∧ (¬ 8 < (gi I 75 ((x2 + 8) : Int).toNat) → (inR ((x2 + 9) + (gi I 75 ((x2 + 8) : Int).toNat)) ∧ ((((x2 + 9) + (gi I 75 ((x2 + 8) : Int).toNat)) ≤ x3 → ((0 ≤ x2 ∧ x2 < 1800) ∧ ((0 ≤ (6 + x1) ∧ (6 + x1) < 132) ∧ ((0 ≤ (x2 + 1) ∧ (x2 + 1) < 1800) ∧ ((0 ≤ ((x2 + 1) + 1) ∧ ((x2 + 1) + 1) < 1800) ∧ ((0 ≤ (x2 + 3) ∧ (x2 + 3) < 1800) ∧ ((0 ≤ ((x2 + 3) + 1) ∧ ((x2 + 3) + 1) < 1800) ∧ ((0 ≤ (x2 + 5) ∧ (x2 + 5) < 1800) ∧ ((0 ≤ (x2 + 6) ∧ (x2 + 6) < 1800) ∧ ((0 ≤ ((x2 + 6) + 1) ∧ ((x2 + 6) + 1) < 1800) ∧ (∀ y14 : Int, y14 = (or32 (or32 (shl32 (gi (si I 110 ((6 + x1) : Int).toNat (gi I 75 (x2).toNat)) 75 ((x2 + 1) : Int).toNat) 8) (gi (si I 110 ((6 + x1) : Int).toNat (gi I 75 (x2).toNat)) 75 (((x2 + 1) + 1) : Int).toNat)) (or32 (shl32 (gi (si (si I 110 ((6 + x1) : Int).toNat (gi I 75 (x2).toNat)) 111 ((6 + x1) : Int).toNat (or32 (shl32 (gi (si I 110 ((6 + x1) : Int).toNat (gi I 75 (x2).toNat)) 75 ((x2 + 1) : Int).toNat) 8) (gi (si I 110 ((6 + x1) : Int).toNat (gi I 75 (x2).toNat)) 75 (((x2 + 1) + 1) : Int).toNat))) 75 ((x2 + 3) : Int).toNat) 8) (gi (si (si I 110 ((6 + x1) : Int).toNat (gi I 75 (x2).toNat)) 111 ((6 + x1) : Int).toNat (or32 (shl32 (gi (si I 110 ((6 + x1) : Int).toNat (gi I 75 (x2).toNat)) 75 ((x2 + 1) : Int).toNat) 8) (gi (si I 110 ((6 + x1) : Int).toNat (gi I 75 (x2).toNat)) 75 (((x2 + 1) + 1) : Int).toNat))) 75 (((x2 + 3) + 1) : Int).toNat))) → ((0 ≤ (gi (si (si (si (si (si (si I 110 ((6 + x1) : Int).toNat (gi I 75 (x2).toNat)) 111 ((6 + x1) : Int).toNat (or32 (shl32 (gi (si I 110 ((6 + x1) : Int).toNat (gi I 75 (x2).toNat)) 75 ((x2 + 1) : Int).toNat) 8) (gi (si I 110 ((6 + x1) : Int).toNat (gi I 75 (x2).toNat)) 75 (((x2 + 1) + 1) : Int).toNat))) 112 ((6 + x1) : Int).toNat (or32 (shl32 (gi (si (si I 110 ((6 + x1) : Int).toNat (gi I 75 (x2).toNat)) 111 ((6 + x1) : Int).toNat (or32 (shl32 (gi (si I 110 ((6 + x1) : Int).toNat (gi I 75 (x2).toNat)) 75 ((x2 + 1) : Int).toNat) 8) (gi (si I 110 ((6 + x1) : Int).toNat (gi I 75 (x2).toNat)) 75 (((x2 + 1) + 1) : Int).toNat))) 75 ((x2 + 3) : Int).toNat) 8) (gi (si (si I 110 ((6 + x1) : Int).toNat (gi I 75 (x2).toNat)) 111 ((6 + x1) : Int).toNat (or32 (shl32 (gi (si I 110 ((6 + x1) : Int).toNat (gi I 75 (x2).toNat)) 75 ((x2 + 1) : Int).toNat) 8) (gi (si I 110 ((6 + x1) : Int).toNat (gi I 75 (x2).toNat)) 75 (((x2 + 1) + 1) : Int).toNat))) 75 (((x2 + 3) + 1) : Int).toNat))) 113 ((6 + x1) : Int).toNat ((gi I 75 ((x2 + 5) : Int).toNat) - 1)) 114 ((6 + x1) : Int).toNat (or32 (shl32 (gi (si (si (si (si I 110 ((6 + x1) : Int).toNat (gi I 75 (x2).toNat)) 111 ((6 + x1) : Int).toNat (or32 (shl32 (gi (si I 110 ((6 + x1) : Int).toNat (gi I 75 (x2).toNat)) 75 ((x2 + 1) : Int).toNat) 8) (gi (si I 110 ((6 + x1) : Int).toNat (gi I 75 (x2).toNat)) 75 (((x2 + 1) + 1) : Int).toNat))) 112 ((6 + x1) : Int).toNat (or32 (shl32 (gi (si (si I 110 ((6 + x1) : Int).toNat (gi I 75 (x2).toNat)) 111 ((6 + x1) : Int).toNat (or32 (shl32 (gi (si I 110 ((6 + x1) : Int).toNat (gi I 75 (x2).toNat)) 75 ((x2 + 1) : Int).toNat) 8) (gi (si I 110 ((6 + x1) : Int).toNat (gi I 75 (x2).toNat)) 75 (((x2 + 1) + 1) : Int).toNat))) 75 ((x2 + 3) : Int).toNat) 8) (gi (si (si I 110 ((6 + x1) : Int).toNat (gi I 75 (x2).toNat)) 111 ((6 + x1) : Int).toNat (or32 (shl32 (gi (si I 110 ((6 + x1) : Int).toNat (gi I 75 (x2).toNat)) 75 ((x2 + 1) : Int).toNat) 8) (gi (si I 110 ((6 + x1) : Int).toNat (gi I 75 (x2).toNat)) 75 (((x2 + 1) + 1) : Int).toNat))) 75 (((x2 + 3) + 1) : Int).toNat))) 113 ((6 + x1) : Int).toNat ((gi I 75 ((x2 + 5) : Int).toNat) - 1)) 75 ((x2 + 6) : Int).toNat) 8) (gi (si (si (si (si I 110 ((6 + x1) : Int).toNat (gi I 75 (x2).toNat)) 111 ((6 + x1) : Int).toNat (or32 (shl32 (gi (si I 110 ((6 + x1) : Int).toNat (gi I 75 (x2).toNat)) 75 ((x2 + 1) : Int).toNat) 8) (gi (si I 110 ((6 + x1) : Int).toNat (gi I 75 (x2).toNat)) 75 (((x2 + 1) + 1) : Int).toNat))) 112 ((6 + x1) : Int).toNat (or32 (shl32 (gi (si (si I 110 ((6 + x1) : Int).toNat (gi I 75 (x2).toNat)) 111 ((6 + x1) : Int).toNat (or32 (shl32 (gi (si I 110 ((6 + x1) : Int).toNat (gi I 75 (x2).toNat)) 75 ((x2 + 1) : Int).toNat) 8) (gi (si I 110 ((6 + x1) : Int).toNat (gi I 75 (x2).toNat)) 75 (((x2 + 1) + 1) : Int).toNat))) 75 ((x2 + 3) : Int).toNat) 8) (gi (si (si I 110 ((6 + x1) : Int).toNat (gi I 75 (x2).toNat)) 111 ((6 + x1) : Int).toNat (or32 (shl32 (gi (si I 110 ((6 + x1) : Int).toNat (gi I 75 (x2).toNat)) 75 ((x2 + 1) : Int).toNat) 8) (gi (si I 110 ((6 + x1) : Int).toNat (gi I 75 (x2).toNat)) 75 (((x2 + 1) + 1) : Int).toNat))) 75 (((x2 + 3) + 1) : Int).toNat))) 113 ((6 + x1) : Int).toNat ((gi I 75 ((x2 + 5) : Int).toNat) - 1)) 75 (((x2 + 6) + 1) : Int).toNat))) 115 ((6 + x1) : Int).toNat (gi I 75 ((x2 + 8) : Int).toNat)) 74 13) ∧ (gi (si (si (si (si (si (si I 110 ((6 + x1) : Int).toNat (gi I 75 (x2).toNat)) 111 ((6 + x1) : Int).toNat (or32 (shl32 (gi (si I 110 ((6 + x1) : Int).toNat (gi I 75 (x2).toNat)) 75 ((x2 + 1) : Int).toNat) 8) (gi (si I 110 ((6 + x1) : Int).toNat (gi I 75 (x2).toNat)) 75 (((x2 + 1) + 1) : Int).toNat))) 112 ((6 + x1) : Int).toNat (or32 (shl32 (gi (si (si I 110 ((6 + x1) : Int).toNat (gi I 75 (x2).toNat)) 111 ((6 + x1) : Int).toNat (or32 (shl32 (gi (si I 110 ((6 + x1) : Int).toNat (gi I 75 (x2).toNat)) 75 ((x2 + 1) : Int).toNat) 8) (gi (si I 110 ((6 + x1) : Int).toNat (gi I 75 (x2).toNat)) 75 (((x2 + 1) + 1) : Int).toNat))) 75 ((x2 + 3) : Int).toNat) 8) (gi (si (si I 110 ((6 + x1) : Int).toNat (gi I 75 (x2).toNat)) 111 ((6 + x1) : Int).toNat (or32 (shl32 (gi (si I 110 ((6 + x1) : Int).toNat (gi I 75 (x2).toNat)) 75 ((x2 + 1) : Int).toNat) 8) (gi (si I 110 ((6 + x1) : Int).toNat (gi I 75 (x2).toNat)) 75 (((x2 + 1) + 1) : Int).toNat))) 75 (((x2 + 3) + 1) : Int).toNat))) 113 ((6 + x1) : Int).toNat ((gi I 75 ((x2 + 5) : Int).toNat) - 1)) 114 ((6 + x1) : Int).toNat (or32 (shl32 (gi (si (si (si (si I 110 ((6 + x1) : Int).toNat (gi I 75 (x2).toNat)) 111 ((6 + x1) : Int).toNat (or32 (shl32 (gi (si I 110 ((6 + x1) : Int).toNat (gi I 75 (x2).toNat)) 75 ((x2 + 1) : Int).toNat) 8) (gi (si I 110 ((6 + x1) : Int).toNat (gi I 75 (x2).toNat)) 75 (((x2 + 1) + 1) : Int).toNat))) 112 ((6 + x1) : Int).toNat (or32 (shl32 (gi (si (si I 110 ((6 + x1) : Int).toNat (gi I 75 (x2).toNat)) 111 ((6 + x1) : Int).toNat (or32 (shl32 (gi (si I 110 ((6 + x1) : Int).toNat (gi I 75 (x2).toNat)) 75 ((x2 + 1) : Int).toNat) 8) (gi (si I 110 ((6 + x1) : Int).toNat (gi I 75 (x2).toNat)) 75 (((x2 + 1) + 1) : Int).toNat))) 75 ((x2 + 3) : Int).toNat) 8) (gi (si (si I 110 ((6 + x1) : Int).toNat (gi I 75 (x2).toNat)) 111 ((6 + x1) : Int).toNat (or32 (shl32 (gi (si I 110 ((6 + x1) : Int).toNat (gi I 75 (x2).toNat)) 75 ((x2 + 1) : Int).toNat) 8) (gi (si I 110 ((6 + x1) : Int).toNat (gi I 75 (x2).toNat)) 75 (((x2 + 1) + 1) : Int).toNat))) 75 (((x2 + 3) + 1) : Int).toNat))) 113 ((6 + x1) : Int).toNat ((gi I 75 ((x2 + 5) : Int).toNat) - 1)) 75 ((x2 + 6) : Int).toNat) 8) (gi (si (si (si (si I 110 ((6 + x1) : Int).toNat (gi I 75 (x2).toNat)) 111 ((6 + x1) : Int).toNat (or32 (shl32 (gi (si I 110 ((6 + x1) : Int).toNat (gi I 75 (x2).toNat)) 75 ((x2 + 1) : Int).toNat) 8) (gi (si I 110 ((6 + x1) : Int).toNat (gi I 75 (x2).toNat)) 75 (((x2 + 1) + 1) : Int).toNat))) 112 ((6 + x1) : Int).toNat (or32 (shl32 (gi (si (si I 110 ((6 + x1) : Int).toNat (gi I 75 (x2).toNat)) 111 ((6 + x1) : Int).toNat (or32 (shl32 (gi (si I 110 ((6 + x1) : Int).toNat (gi I 75 (x2).toNat)) 75 ((x2 + 1) : Int).toNat) 8) (gi (si I 110 ((6 + x1) : Int).toNat (gi I 75 (x2).toNat)) 75 (((x2 + 1) + 1) : Int).toNat))) 75 ((x2 + 3) : Int).toNat) 8) (gi (si (si I 110 ((6 + x1) : Int).toNat (gi I 75 (x2).toNat)) 111 ((6 + x1) : Int).toNat (or32 (shl32 (gi (si I 110 ((6 + x1) : Int).toNat (gi I 75 (x2).toNat)) 75 ((x2 + 1) : Int).toNat) 8) (gi (si I 110 ((6 + x1) : Int).toNat (gi I 75 (x2).toNat)) 75 (((x2 + 1) + 1) : Int).toNat))) 75 (((x2 + 3) + 1) : Int).toNat))) 113 ((6 + x1) : Int).toNat ((gi I 75 ((x2 + 5) : Int).toNat) - 1)) 75 (((x2 + 6) + 1) : Int).toNat))) 115 ((6 + x1) : Int).toNat (gi I 75 ((x2 + 8) : Int).toNat)) 74 13) < 2) ∧ ((¬ (0 ≤ (gi I 75 (x2).toNat) ∧ (gi I 75 (x2).toNat) < gi (si (si (si (si (si (si I 110 ((6 + x1) : Int).toNat (gi I 75 (x2).toNat)) 111 ((6 + x1) : Int).toNat (or32 (shl32 (gi (si I 110 ((6 + x1) : Int).toNat (gi I 75 (x2).toNat)) 75 ((x2 + 1) : Int).toNat) 8) (gi (si I 110 ((6 + x1) : Int).toNat (gi I 75 (x2).toNat)) 75 (((x2 + 1) + 1) : Int).toNat))) 112 ((6 + x1) : Int).toNat (or32 (shl32 (gi (si (si I 110 ((6 + x1) : Int).toNat (gi I 75 (x2).toNat)) 111 ((6 + x1) : Int).toNat (or32 (shl32 (gi (si I 110 ((6 + x1) : Int).toNat (gi I 75 (x2).toNat)) 75 ((x2 + 1) : Int).toNat) 8) (gi (si I 110 ((6 + x1) : Int).toNat (gi I 75 (x2).toNat)) 75 (((x2 + 1) + 1) : Int).toNat))) 75 ((x2 + 3) : Int).toNat) 8) (gi (si (si I 110 ((6 + x1) : Int).toNat (gi I 75 (x2).toNat)) 111 ((6 + x1) : Int).toNat (or32 (shl32 (gi (si I 110 ((6 + x1) : Int).toNat (gi I 75 (x2).toNat)) 75 ((x2 + 1) : Int).toNat) 8) (gi (si I 110 ((6 + x1) : Int).toNat (gi I 75 (x2).toNat)) 75 (((x2 + 1) + 1) : Int).toNat))) 75 (((x2 + 3) + 1) : Int).toNat))) 113 ((6 + x1) : Int).toNat ((gi I 75 ((x2 + 5) : Int).toNat) - 1)) 114 ((6 + x1) : Int).toNat (or32 (shl32 (gi (si (si (si (si I 110 ((6 + x1) : Int).toNat (gi I 75 (x2).toNat)) 111 ((6 + x1) : Int).toNat (or32 (shl32 (gi (si I 110 ((6 + x1) : Int).toNat (gi I 75 (x2).toNat)) 75 ((x2 + 1) : Int).toNat) 8) (gi (si I 110 ((6 + x1) : Int).toNat (gi I 75 (x2).toNat)) 75 (((x2 + 1) + 1) : Int).toNat))) 112 ((6 + x1) : Int).toNat (or32 (shl32 (gi (si (si I 110 ((6 + x1) : Int).toNat (gi I 75 (x2).toNat)) 111 ((6 + x1) : Int).toNat (or32 (shl32 (gi (si I 110 ((6 + x1) : Int).toNat (gi I 75 (x2).toNat)) 75 ((x2 + 1) : Int).toNat) 8) (gi (si I 110 ((6 + x1) : Int).toNat (gi I 75 (x2).toNat)) 75 (((x2 + 1) + 1) : Int).toNat))) 75 ((x2 + 3) : Int).toNat) 8) (gi (si (si I 110 ((6 + x1) : Int).toNat (gi I 75 (x2).toNat)) 111 ((6 + x1) : Int).toNat (or32 (shl32 (gi (si I 110 ((6 + x1) : Int).toNat (gi I 75 (x2).toNat)) 75 ((x2 + 1) : Int).toNat) 8) (gi (si I 110 ((6 + x1) : Int).toNat (gi I 75 (x2).toNat)) 75 (((x2 + 1) + 1) : Int).toNat))) 75 (((x2 + 3) + 1) : Int).toNat))) 113 ((6 + x1) : Int).toNat ((gi I 75 ((x2 + 5) : Int).toNat) - 1)) 75 ((x2 + 6) : Int).toNat) 8) (gi (si (si (si (si I 110 ((6 + x1) : Int).toNat (gi I 75 (x2).toNat)) 111 ((6 + x1) : Int).toNat (or32 (shl32 (gi (si I 110 ((6 + x1) : Int).toNat (gi I 75 (x2).toNat)) 75 ((x2 + 1) : Int).toNat) 8) (gi (si I 110 ((6 + x1) : Int).toNat (gi I 75 (x2).toNat)) 75 (((x2 + 1) + 1) : Int).toNat))) 112 ((6 + x1) : Int).toNat (or32 (shl32 (gi (si (si I 110 ((6 + x1) : Int).toNat (gi I 75 (x2).toNat)) 111 ((6 + x1) : Int).toNat (or32 (shl32 (gi (si I 110 ((6 + x1) : Int).toNat (gi I 75 (x2).toNat)) 75 ((x2 + 1) : Int).toNat) 8) (gi (si I 110 ((6 + x1) : Int).toNat (gi I 75 (x2).toNat)) 75 (((x2 + 1) + 1) : Int).toNat))) 75 ((x2 + 3) : Int).toNat) 8) (gi (si (si I 110 ((6 + x1) : Int).toNat (gi I 75 (x2).toNat)) 111 ((6 + x1) : Int).toNat (or32 (shl32 (gi (si I 110 ((6 + x1) : Int).toNat (gi I 75 (x2).toNat)) 75 ((x2 + 1) : Int).toNat) 8) (gi (si I 110 ((6 + x1) : Int).toNat (gi I 75 (x2).toNat)) 75 (((x2 + 1) + 1) : Int).toNat))) 75 (((x2 + 3) + 1) : Int).toNat))) 113 ((6 + x1) : Int).toNat ((gi I 75 ((x2 + 5) : Int).toNat) - 1)) 75 (((x2 + 6) + 1) : Int).toNat))) 115 ((6 + x1) : Int).toNat (gi I 75 ((x2 + 8) : Int).toNat)) 86 (gi (si (si (si (si (si (si I 110 ((6 + x1) : Int).toNat (gi I 75 (x2).toNat)) 111 ((6 + x1) : Int).toNat (or32 (shl32 (gi (si I 110 ((6 + x1) : Int).toNat (gi I 75 (x2).toNat)) 75 ((x2 + 1) : Int).toNat) 8) (gi (si I 110 ((6 + x1) : Int).toNat (gi I 75 (x2).toNat)) 75 (((x2 + 1) + 1) : Int).toNat))) 112 ((6 + x1) : Int).toNat (or32 (shl32 (gi (si (si I 110 ((6 + x1) : Int).toNat (gi I 75 (x2).toNat)) 111 ((6 + x1) : Int).toNat (or32 (shl32 (gi (si I 110 ((6 + x1) : Int).toNat (gi I 75 (x2).toNat)) 75 ((x2 + 1) : Int).toNat) 8) (gi (si I 110 ((6 + x1) : Int).toNat (gi I 75 (x2).toNat)) 75 (((x2 + 1) + 1) : Int).toNat))) 75 ((x2 + 3) : Int).toNat) 8) (gi (si (si I 110 ((6 + x1) : Int).toNat (gi I 75 (x2).toNat)) 111 ((6 + x1) : Int).toNat (or32 (shl32 (gi (si I 110 ((6 + x1) : Int).toNat (gi I 75 (x2).toNat)) 75 ((x2 + 1) : Int).toNat) 8) (gi (si I 110 ((6 + x1) : Int).toNat (gi I 75 (x2).toNat)) 75 (((x2 + 1) + 1) : Int).toNat))) 75 (((x2 + 3) + 1) : Int).toNat))) 113 ((6 + x1) : Int).toNat ((gi I 75 ((x2 + 5) : Int).toNat) - 1)) 114 ((6 + x1) : Int).toNat (or32 (shl32 (gi (si (si (si (si I 110 ((6 + x1) : Int).toNat (gi I 75 (x2).toNat)) 111 ((6 + x1) : Int).toNat (or32 (shl32 (gi (si I 110 ((6 + x1) : Int).toNat (gi I 75 (x2).toNat)) 75 ((x2 + 1) : Int).toNat) 8) (gi (si I 110 ((6 + x1) : Int).toNat (gi I 75 (x2).toNat)) 75 (((x2 + 1) + 1) : Int).toNat))) 112 ((6 + x1) : Int).toNat (or32 (shl32 (gi (si (si I 110 ((6 + x1) : Int).toNat (gi I 75 (x2).toNat)) 111 ((6 + x1) : Int).toNat (or32 (shl32 (gi (si I 110 ((6 + x1) : Int).toNat (gi I 75 (x2).toNat)) 75 ((x2 + 1) : Int).toNat) 8) (gi (si I 110 ((6 + x1) : Int).toNat (gi I 75 (x2).toNat)) 75 (((x2 + 1) + 1) : Int).toNat))) 75 ((x2 + 3) : Int).toNat) 8) (gi (si (si I 110 ((6 + x1) : Int).toNat (gi I 75 (x2).toNat)) 111 ((6 + x1) : Int).toNat (or32 (shl32 (gi (si I 110 ((6 + x1) : Int).toNat (gi I 75 (x2).toNat)) 75 ((x2 + 1) : Int).toNat) 8) (gi (si I 110 ((6 + x1) : Int).toNat (gi I 75 (x2).toNat)) 75 (((x2 + 1) + 1) : Int).toNat))) 75 (((x2 + 3) + 1) : Int).toNat))) 113 ((6 + x1) : Int).toNat ((gi I 75 ((x2 + 5) : Int).toNat) - 1)) 75 ((x2 + 6) : Int).toNat) 8) (gi (si (si (si (si I 110 ((6 + x1) : Int).toNat (gi I 75 (x2).toNat)) 111 ((6 + x1) : Int).toNat (or32 (shl32 (gi (si I 110 ((6 + x1) : Int).toNat (gi I 75 (x2).toNat)) 75 ((x2 + 1) : Int).toNat) 8) (gi (si I 110 ((6 + x1) : Int).toNat (gi I 75 (x2).toNat)) 75 (((x2 + 1) + 1) : Int).toNat))) 112 ((6 + x1) : Int).toNat (or32 (shl32 (gi (si (si I 110 ((6 + x1) : Int).toNat (gi I 75 (x2).toNat)) 111 ((6 + x1) : Int).toNat (or32 (shl32 (gi (si I 110 ((6 + x1) : Int).toNat (gi I 75 (x2).toNat)) 75 ((x2 + 1) : Int).toNat) 8) (gi (si I 110 ((6 + x1) : Int).toNat (gi I 75 (x2).toNat)) 75 (((x2 + 1) + 1) : Int).toNat))) 75 ((x2 + 3) : Int).toNat) 8) (gi (si (si I 110 ((6 + x1) : Int).toNat (gi I 75 (x2).toNat)) 111 ((6 + x1) : Int).toNat (or32 (shl32 (gi (si I 110 ((6 + x1) : Int).toNat (gi I 75 (x2).toNat)) 75 ((x2 + 1) : Int).toNat) 8) (gi (si I 110 ((6 + x1) : Int).toNat (gi I 75 (x2).toNat)) 75 (((x2 + 1) + 1) : Int).toNat))) 75 (((x2 + 3) + 1) : Int).toNat))) 113 ((6 + x1) : Int).toNat ((gi I 75 ((x2 + 5) : Int).toNat) - 1)) 75 (((x2 + 6) + 1) : Int).toNat))) 115 ((6 + x1) : Int).toNat (gi I 75 ((x2 + 8) : Int).toNat)) 74 13).toNat) → (WP k LAY m_X12_readerOn 202 [] [] (mem (P, some 5, some 22) (si (si (si (si (si (si I 110 ((6 + x1) : Int).toNat (gi I 75 (x2).toNat)) 111 ((6 + x1) : Int).toNat (or32 (shl32 (gi (si I 110 ((6 + x1) : Int).toNat (gi I 75 (x2).toNat)) 75 ((x2 + 1) : Int).toNat) 8) (gi (si I 110 ((6 + x1) : Int).toNat (gi I 75 (x2).toNat)) 75 (((x2 + 1) + 1) : Int).toNat))) 112 ((6 + x1) : Int).toNat (or32 (shl32 (gi (si (si I 110 ((6 + x1) : Int).toNat (gi I 75 (x2).toNat)) 111 ((6 + x1) : Int).toNat (or32 (shl32 (gi (si I 110 ((6 + x1) : Int).toNat (gi I 75 (x2).toNat)) 75 ((x2 + 1) : Int).toNat) 8) (gi (si I 110 ((6 + x1) : Int).toNat (gi I 75 (x2).toNat)) 75 (((x2 + 1) + 1) : Int).toNat))) 75 ((x2 + 3) : Int).toNat) 8) (gi (si (si I 110 ((6 + x1) : Int).toNat (gi I 75 (x2).toNat)) 111 ((6 + x1) : Int).toNat (or32 (shl32 (gi (si I 110 ((6 + x1) : Int).toNat (gi I 75 (x2).toNat)) 75 ((x2 + 1) : Int).toNat) 8) (gi (si I 110 ((6 + x1) : Int).toNat (gi I 75 (x2).toNat)) 75 (((x2 + 1) + 1) : Int).toNat))) 75 (((x2 + 3) + 1) : Int).toNat))) 113 ((6 + x1) : Int).toNat ((gi I 75 ((x2 + 5) : Int).toNat) - 1)) 114 ((6 + x1) : Int).toNat (or32 (shl32 (gi (si (si (si (si I 110 ((6 + x1) : Int).toNat (gi I 75 (x2).toNat)) 111 ((6 + x1) : Int).toNat (or32 (shl32 (gi (si I 110 ((6 + x1) : Int).toNat (gi I 75 (x2).toNat)) 75 ((x2 + 1) : Int).toNat) 8) (gi (si I 110 ((6 + x1) : Int).toNat (gi I 75 (x2).toNat)) 75 (((x2 + 1) + 1) : Int).toNat))) 112 ((6 + x1) : Int).toNat (or32 (shl32 (gi (si (si I 110 ((6 + x1) : Int).toNat (gi I 75 (x2).toNat)) 111 ((6 + x1) : Int).toNat (or32 (shl32 (gi (si I 110 ((6 + x1) : Int).toNat (gi I 75 (x2).toNat)) 75 ((x2 + 1) : Int).toNat) 8) (gi (si I 110 ((6 + x1) : Int).toNat (gi I 75 (x2).toNat)) 75 (((x2 + 1) + 1) : Int).toNat))) 75 ((x2 + 3) : Int).toNat) 8) (gi (si (si I 110 ((6 + x1) : Int).toNat (gi I 75 (x2).toNat)) 111 ((6 + x1) : Int).toNat (or32 (shl32 (gi (si I 110 ((6 + x1) : Int).toNat (gi I 75 (x2).toNat)) 75 ((x2 + 1) : Int).toNat) 8) (gi (si I 110 ((6 + x1) : Int).toNat (gi I 75 (x2).toNat)) 75 (((x2 + 1) + 1) : Int).toNat))) 75 (((x2 + 3) + 1) : Int).toNat))) 113 ((6 + x1) : Int).toNat ((gi I 75 ((x2 + 5) : Int).toNat) - 1)) 75 ((x2 + 6) : Int).toNat) 8) (gi (si (si (si (si I 110 ((6 + x1) : Int).toNat (gi I 75 (x2).toNat)) 111 ((6 + x1) : Int).toNat (or32 (shl32 (gi (si I 110 ((6 + x1) : Int).toNat (gi I 75 (x2).toNat)) 75 ((x2 + 1) : Int).toNat) 8) (gi (si I 110 ((6 + x1) : Int).toNat (gi I 75 (x2).toNat)) 75 (((x2 + 1) + 1) : Int).toNat))) 112 ((6 + x1) : Int).toNat (or32 (shl32 (gi (si (si I 110 ((6 + x1) : Int).toNat (gi I 75 (x2).toNat)) 111 ((6 + x1) : Int).toNat (or32 (shl32 (gi (si I 110 ((6 + x1) : Int).toNat (gi I 75 (x2).toNat)) 75 ((x2 + 1) : Int).toNat) 8) (gi (si I 110 ((6 + x1) : Int).toNat (gi I 75 (x2).toNat)) 75 (((x2 + 1) + 1) : Int).toNat))) 75 ((x2 + 3) : Int).toNat) 8) (gi (si (si I 110 ((6 + x1) : Int).toNat (gi I 75 (x2).toNat)) 111 ((6 + x1) : Int).toNat (or32 (shl32 (gi (si I 110 ((6 + x1) : Int).toNat (gi I 75 (x2).toNat)) 75 ((x2 + 1) : Int).toNat) 8) (gi (si I 110 ((6 + x1) : Int).toNat (gi I 75 (x2).toNat)) 75 (((x2 + 1) + 1) : Int).toNat))) 75 (((x2 + 3) + 1) : Int).toNat))) 113 ((6 + x1) : Int).toNat ((gi I 75 ((x2 + 5) : Int).toNat) - 1)) 75 (((x2 + 6) + 1) : Int).toNat))) 115 ((6 + x1) : Int).toNat (gi I 75 ((x2 + 8) : Int).toNat)) J) Q)) ∧ ((0 ≤ (gi I 75 (x2).toNat) ∧ (gi I 75 (x2).toNat) < gi (si (si (si (si (si (si I 110 ((6 + x1) : Int).toNat (gi I 75 (x2).toNat)) 111 ((6 + x1) : Int).toNat (or32 (shl32 (gi (si I 110 ((6 + x1) : Int).toNat (gi I 75 (x2).toNat)) 75 ((x2 + 1) : Int).toNat) 8) (gi (si I 110 ((6 + x1) : Int).toNat (gi I 75 (x2).toNat)) 75 (((x2 + 1) + 1) : Int).toNat))) 112 ((6 + x1) : Int).toNat (or32 (shl32 (gi (si (si I 110 ((6 + x1) : Int).toNat (gi I 75 (x2).toNat)) 111 ((6 + x1) : Int).toNat (or32 (shl32 (gi (si I 110 ((6 + x1) : Int).toNat (gi I 75 (x2).toNat)) 75 ((x2 + 1) : Int).toNat) 8) (gi (si I 110 ((6 + x1) : Int).toNat (gi I 75 (x2).toNat)) 75 (((x2 + 1) + 1) : Int).toNat))) 75 ((x2 + 3) : Int).toNat) 8) (gi (si (si I 110 ((6 + x1) : Int).toNat (gi I 75 (x2).toNat)) 111 ((6 + x1) : Int).toNat (or32 (shl32 (gi (si I 110 ((6 + x1) : Int).toNat (gi I 75 (x2).toNat)) 75 ((x2 + 1) : Int).toNat) 8) (gi (si I 110 ((6 + x1) : Int).toNat (gi I 75 (x2).toNat)) 75 (((x2 + 1) + 1) : Int).toNat))) 75 (((x2 + 3) + 1) : Int).toNat))) 113 ((6 + x1) : Int).toNat ((gi I 75 ((x2 + 5) : Int).toNat) - 1)) 114 ((6 + x1) : Int).toNat (or32 (shl32 (gi (si (si (si (si I 110 ((6 + x1) : Int).toNat (gi I 75 (x2).toNat)) 111 ((6 + x1) : Int).toNat (or32 (shl32 (gi (si I 110 ((6 + x1) : Int).toNat (gi I 75 (x2).toNat)) 75 ((x2 + 1) : Int).toNat) 8) (gi (si I 110 ((6 + x1) : Int).toNat (gi I 75 (x2).toNat)) 75 (((x2 + 1) + 1) : Int).toNat))) 112 ((6 + x1) : Int).toNat (or32 (shl32 (gi (si (si I 110 ((6 + x1) : Int).toNat (gi I 75 (x2).toNat)) 111 ((6 + x1) : Int).toNat (or32 (shl32 (gi (si I 110 ((6 + x1) : Int).toNat (gi I 75 (x2).toNat)) 75 ((x2 + 1) : Int).toNat) 8) (gi (si I 110 ((6 + x1) : Int).toNat (gi I 75 (x2).toNat)) 75 (((x2 + 1) + 1) : Int).toNat))) 75 ((x2 + 3) : Int).toNat) 8) (gi (si (si I 110 ((6 + x1) : Int).toNat (gi I 75 (x2).toNat)) 111 ((6 + x1) : Int).toNat (or32 (shl32 (gi (si I 110 ((6 + x1) : Int).toNat (gi I 75 (x2).toNat)) 75 ((x2 + 1) : Int).toNat) 8) (gi (si I 110 ((6 + x1) : Int).toNat (gi I 75 (x2).toNat)) 75 (((x2 + 1) + 1) : Int).toNat))) 75 (((x2 + 3) + 1) : Int).toNat))) 113 ((6 + x1) : Int).toNat ((gi I 75 ((x2 + 5) : Int).toNat) - 1)) 75 ((x2 + 6) : Int).toNat) 8) (gi (si (si (si (si I 110 ((6 + x1) : Int).toNat (gi I 75 (x2).toNat)) 111 ((6 + x1) : Int).toNat (or32 (shl32 (gi (si I 110 ((6 + x1) : Int).toNat (gi I 75 (x2).toNat)) 75 ((x2 + 1) : Int).toNat) 8) (gi (si I 110 ((6 + x1) : Int).toNat (gi I 75 (x2).toNat)) 75 (((x2 + 1) + 1) : Int).toNat))) 112 ((6 + x1) : Int).toNat (or32 (shl32 (gi (si (si I 110 ((6 + x1) : Int).toNat (gi I 75 (x2).toNat)) 111 ((6 + x1) : Int).toNat (or32 (shl32 (gi (si I 110 ((6 + x1) : Int).toNat (gi I 75 (x2).toNat)) 75 ((x2 + 1) : Int).toNat) 8) (gi (si I 110 ((6 + x1) : Int).toNat (gi I 75 (x2).toNat)) 75 (((x2 + 1) + 1) : Int).toNat))) 75 ((x2 + 3) : Int).toNat) 8) (gi (si (si I 110 ((6 + x1) : Int).toNat (gi I 75 (x2).toNat)) 111 ((6 + x1) : Int).toNat (or32 (shl32 (gi (si I 110 ((6 + x1) : Int).toNat (gi I 75 (x2).toNat)) 75 ((x2 + 1) : Int).toNat) 8) (gi (si I 110 ((6 + x1) : Int).toNat (gi I 75 (x2).toNat)) 75 (((x2 + 1) + 1) : Int).toNat))) 75 (((x2 + 3) + 1) : Int).toNat))) 113 ((6 + x1) : Int).toNat ((gi I 75 ((x2 + 5) : Int).toNat) - 1)) 75 (((x2 + 6) + 1) : Int).toNat))) 115 ((6 + x1) : Int).toNat (gi I 75 ((x2 + 8) : Int).toNat)) 86 (gi (si (si (si (si (si (si I 110 ((6 + x1) : Int).toNat (gi I 75 (x2).toNat)) 111 ((6 + x1) : Int).toNat (or32 (shl32 (gi (si I 110 ((6 + x1) : Int).toNat (gi I 75 (x2).toNat)) 75 ((x2 + 1) : Int).toNat) 8) (gi (si I 110 ((6 + x1) : Int).toNat (gi I 75 (x2).toNat)) 75 (((x2 + 1) + 1) : Int).toNat))) 112 ((6 + x1) : Int).toNat (or32 (shl32 (gi (si (si I 110 ((6 + x1) : Int).toNat (gi I 75 (x2).toNat)) 111 ((6 + x1) : Int).toNat (or32 (shl32 (gi (si I 110 ((6 + x1) : Int).toNat (gi I 75 (x2).toNat)) 75 ((x2 + 1) : Int).toNat) 8) (gi (si I 110 ((6 + x1) : Int).toNat (gi I 75 (x2).toNat)) 75 (((x2 + 1) + 1) : Int).toNat))) 75 ((x2 + 3) : Int).toNat) 8) (gi (si (si I 110 ((6 + x1) : Int).toNat (gi I 75 (x2).toNat)) 111 ((6 + x1) : Int).toNat (or32 (shl32 (gi (si I 110 ((6 + x1) : Int).toNat (gi I 75 (x2).toNat)) 75 ((x2 + 1) : Int).toNat) 8) (gi (si I 110 ((6 + x1) : Int).toNat (gi I 75 (x2).toNat)) 75 (((x2 + 1) + 1) : Int).toNat))) 75 (((x2 + 3) + 1) : Int).toNat))) 113 ((6 + x1) : Int).toNat ((gi I 75 ((x2 + 5) : Int).toNat) - 1)) 114 ((6 + x1) : Int).toNat (or32 (shl32 (gi (si (si (si (si I 110 ((6 + x1) : Int).toNat (gi I 75 (x2).toNat)) 111 ((6 + x1) : Int).toNat (or32 (shl32 (gi (si I 110 ((6 + x1) : Int).toNat (gi I 75 (x2).toNat)) 75 ((x2 + 1) : Int).toNat) 8) (gi (si I 110 ((6 + x1) : Int).toNat (gi I 75 (x2).toNat)) 75 (((x2 + 1) + 1) : Int).toNat))) 112 ((6 + x1) : Int).toNat (or32 (shl32 (gi (si (si I 110 ((6 + x1) : Int).toNat (gi I 75 (x2).toNat)) 111 ((6 + x1) : Int).toNat (or32 (shl32 (gi (si I 110 ((6 + x1) : Int).toNat (gi I 75 (x2).toNat)) 75 ((x2 + 1) : Int).toNat) 8) (gi (si I 110 ((6 + x1) : Int).toNat (gi I 75 (x2).toNat)) 75 (((x2 + 1) + 1) : Int).toNat))) 75 ((x2 + 3) : Int).toNat) 8) (gi (si (si I 110 ((6 + x1) : Int).toNat (gi I 75 (x2).toNat)) 111 ((6 + x1) : Int).toNat (or32 (shl32 (gi (si I 110 ((6 + x1) : Int).toNat (gi I 75 (x2).toNat)) 75 ((x2 + 1) : Int).toNat) 8) (gi (si I 110 ((6 + x1) : Int).toNat (gi I 75 (x2).toNat)) 75 (((x2 + 1) + 1) : Int).toNat))) 75 (((x2 + 3) + 1) : Int).toNat))) 113 ((6 + x1) : Int).toNat ((gi I 75 ((x2 + 5) : Int).toNat) - 1)) 75 ((x2 + 6) : Int).toNat) 8) (gi (si (si (si (si I 110 ((6 + x1) : Int).toNat (gi I 75 (x2).toNat)) 111 ((6 + x1) : Int).toNat (or32 (shl32 (gi (si I 110 ((6 + x1) : Int).toNat (gi I 75 (x2).toNat)) 75 ((x2 + 1) : Int).toNat) 8) (gi (si I 110 ((6 + x1) : Int).toNat (gi I 75 (x2).toNat)) 75 (((x2 + 1) + 1) : Int).toNat))) 112 ((6 + x1) : Int).toNat (or32 (shl32 (gi (si (si I 110 ((6 + x1) : Int).toNat (gi I 75 (x2).toNat)) 111 ((6 + x1) : Int).toNat (or32 (shl32 (gi (si I 110 ((6 + x1) : Int).toNat (gi I 75 (x2).toNat)) 75 ((x2 + 1) : Int).toNat) 8) (gi (si I 110 ((6 + x1) : Int).toNat (gi I 75 (x2).toNat)) 75 (((x2 + 1) + 1) : Int).toNat))) 75 ((x2 + 3) : Int).toNat) 8) (gi (si (si I 110 ((6 + x1) : Int).toNat (gi I 75 (x2).toNat)) 111 ((6 + x1) : Int).toNat (or32 (shl32 (gi (si I 110 ((6 + x1) : Int).toNat (gi I 75 (x2).toNat)) 75 ((x2 + 1) : Int).toNat) 8) (gi (si I 110 ((6 + x1) : Int).toNat (gi I 75 (x2).toNat)) 75 (((x2 + 1) + 1) : Int).toNat))) 75 (((x2 + 3) + 1) : Int).toNat))) 113 ((6 + x1) : Int).toNat ((gi I 75 ((x2 + 5) : Int).toNat) - 1)) 75 (((x2 + 6) + 1) : Int).toNat))) 115 ((6 + x1) : Int).toNat (gi I 75 ((x2 + 8) : Int).toNat)) 74 13).toNat) → ((¬ (and32 (or32 (shl32 (gi (si I 110 ((6 + x1) : Int).toNat (gi I 75 (x2).toNat)) 75 ((x2 + 1) : Int).toNat) 8) (gi (si I 110 ((6 + x1) : Int).toNat (gi I 75 (x2).toNat)) 75 (((x2 + 1) + 1) : Int).toNat)) (or32 (shl32 (gi (si (si I 110 ((6 + x1) : Int).toNat (gi I 75 (x2).toNat)) 111 ((6 + x1) : Int).toNat (or32 (shl32 (gi (si I 110 ((6 + x1) : Int).toNat (gi I 75 (x2).toNat)) 75 ((x2 + 1) : Int).toNat) 8) (gi (si I 110 ((6 + x1) : Int).toNat (gi I 75 (x2).toNat)) 75 (((x2 + 1) + 1) : Int).toNat))) 75 ((x2 + 3) : Int).toNat) 8) (gi (si (si I 110 ((6 + x1) : Int).toNat (gi I 75 (x2).toNat)) 111 ((6 + x1) : Int).toNat (or32 (shl32 (gi (si I 110 ((6 + x1) : Int).toNat (gi I 75 (x2).toNat)) 75 ((x2 + 1) : Int).toNat) 8) (gi (si I 110 ((6 + x1) : Int).toNat (gi I 75 (x2).toNat)) 75 (((x2 + 1) + 1) : Int).toNat))) 75 (((x2 + 3) + 1) : Int).toNat))) = 0 → (WP k LAY m_X12_readerOn 202 [] [] (mem (P, some 5, some 22) (si (si (si (si (si (si I 110 ((6 + x1) : Int).toNat (gi I 75 (x2).toNat)) 111 ((6 + x1) : Int).toNat (or32 (shl32 (gi (si I 110 ((6 + x1) : Int).toNat (gi I 75 (x2).toNat)) 75 ((x2 + 1) : Int).toNat) 8) (gi (si I 110 ((6 + x1) : Int).toNat (gi I 75 (x2).toNat)) 75 (((x2 + 1) + 1) : Int).toNat))) 112 ((6 + x1) : Int).toNat (or32 (shl32 (gi (si (si I 110 ((6 + x1) : Int).toNat (gi I 75 (x2).toNat)) 111 ((6 + x1) : Int).toNat (or32 (shl32 (gi (si I 110 ((6 + x1) : Int).toNat (gi I 75 (x2).toNat)) 75 ((x2 + 1) : Int).toNat) 8) (gi (si I 110 ((6 + x1) : Int).toNat (gi I 75 (x2).toNat)) 75 (((x2 + 1) + 1) : Int).toNat))) 75 ((x2 + 3) : Int).toNat) 8) (gi (si (si I 110 ((6 + x1) : Int).toNat (gi I 75 (x2).toNat)) 111 ((6 + x1) : Int).toNat (or32 (shl32 (gi (si I 110 ((6 + x1) : Int).toNat (gi I 75 (x2).toNat)) 75 ((x2 + 1) : Int).toNat) 8) (gi (si I 110 ((6 + x1) : Int).toNat (gi I 75 (x2).toNat)) 75 (((x2 + 1) + 1) : Int).toNat))) 75 (((x2 + 3) + 1) : Int).toNat))) 113 ((6 + x1) : Int).toNat ((gi I 75 ((x2 + 5) : Int).toNat) - 1)) 114 ((6 + x1) : Int).toNat (or32 (shl32 (gi (si (si (si (si I 110 ((6 + x1) : Int).toNat (gi I 75 (x2).toNat)) 111 ((6 + x1) : Int).toNat (or32 (shl32 (gi (si I 110 ((6 + x1) : Int).toNat (gi I 75 (x2).toNat)) 75 ((x2 + 1) : Int).toNat) 8) (gi (si I 110 ((6 + x1) : Int).toNat (gi I 75 (x2).toNat)) 75 (((x2 + 1) + 1) : Int).toNat))) 112 ((6 + x1) : Int).toNat (or32 (shl32 (gi (si (si I 110 ((6 + x1) : Int).toNat (gi I 75 (x2).toNat)) 111 ((6 + x1) : Int).toNat (or32 (shl32 (gi (si I 110 ((6 + x1) : Int).toNat (gi I 75 (x2).toNat)) 75 ((x2 + 1) : Int).toNat) 8) (gi (si I 110 ((6 + x1) : Int).toNat (gi I 75 (x2).toNat)) 75 (((x2 + 1) + 1) : Int).toNat))) 75 ((x2 + 3) : Int).toNat) 8) (gi (si (si I 110 ((6 + x1) : Int).toNat (gi I 75 (x2).toNat)) 111 ((6 + x1) : Int).toNat (or32 (shl32 (gi (si I 110 ((6 + x1) : Int).toNat (gi I 75 (x2).toNat)) 75 ((x2 + 1) : Int).toNat) 8) (gi (si I 110 ((6 + x1) : Int).toNat (gi I 75 (x2).toNat)) 75 (((x2 + 1) + 1) : Int).toNat))) 75 (((x2 + 3) + 1) : Int).toNat))) 113 ((6 + x1) : Int).toNat ((gi I 75 ((x2 + 5) : Int).toNat) - 1)) 75 ((x2 + 6) : Int).toNat) 8) (gi (si (si (si (si I 110 ((6 + x1) : Int).toNat (gi I 75 (x2).toNat)) 111 ((6 + x1) : Int).toNat (or32 (shl32 (gi (si I 110 ((6 + x1) : Int).toNat (gi I 75 (x2).toNat)) 75 ((x2 + 1) : Int).toNat) 8) (gi (si I 110 ((6 + x1) : Int).toNat (gi I 75 (x2).toNat)) 75 (((x2 + 1) + 1) : Int).toNat))) 112 ((6 + x1) : Int).toNat (or32 (shl32 (gi (si (si I 110 ((6 + x1) : Int).toNat (gi I 75 (x2).toNat)) 111 ((6 + x1) : Int).toNat (or32 (shl32 (gi (si I 110 ((6 + x1) : Int).toNat (gi I 75 (x2).toNat)) 75 ((x2 + 1) : Int).toNat) 8) (gi (si I 110 ((6 + x1) : Int).toNat (gi I 75 (x2).toNat)) 75 (((x2 + 1) + 1) : Int).toNat))) 75 ((x2 + 3) : Int).toNat) 8) (gi (si (si I 110 ((6 + x1) : Int).toNat (gi I 75 (x2).toNat)) 111 ((6 + x1) : Int).toNat (or32 (shl32 (gi (si I 110 ((6 + x1) : Int).toNat (gi I 75 (x2).toNat)) 75 ((x2 + 1) : Int).toNat) 8) (gi (si I 110 ((6 + x1) : Int).toNat (gi I 75 (x2).toNat)) 75 (((x2 + 1) + 1) : Int).toNat))) 75 (((x2 + 3) + 1) : Int).toNat))) 113 ((6 + x1) : Int).toNat ((gi I 75 ((x2 + 5) : Int).toNat) - 1)) 75 (((x2 + 6) + 1) : Int).toNat))) 115 ((6 + x1) : Int).toNat (gi I 75 ((x2 + 8) : Int).toNat)) J) Q)) ∧ ((and32 (or32 (shl32 (gi (si I 110 ((6 + x1) : Int).toNat (gi I 75 (x2).toNat)) 75 ((x2 + 1) : Int).toNat) 8) (gi (si I 110 ((6 + x1) : Int).toNat (gi I 75 (x2).toNat)) 75 (((x2 + 1) + 1) : Int).toNat)) (or32 (shl32 (gi (si (si I 110 ((6 + x1) : Int).toNat (gi I 75 (x2).toNat)) 111 ((6 + x1) : Int).toNat (or32 (shl32 (gi (si I 110 ((6 + x1) : Int).toNat (gi I 75 (x2).toNat)) 75 ((x2 + 1) : Int).toNat) 8) (gi (si I 110 ((6 + x1) : Int).toNat (gi I 75 (x2).toNat)) 75 (((x2 + 1) + 1) : Int).toNat))) 75 ((x2 + 3) : Int).toNat) 8) (gi (si (si I 110 ((6 + x1) : Int).toNat (gi I 75 (x2).toNat)) 111 ((6 + x1) : Int).toNat (or32 (shl32 (gi (si I 110 ((6 + x1) : Int).toNat (gi I 75 (x2).toNat)) 75 ((x2 + 1) : Int).toNat) 8) (gi (si I 110 ((6 + x1) : Int).toNat (gi I 75 (x2).toNat)) 75 (((x2 + 1) + 1) : Int).toNat))) 75 (((x2 + 3) + 1) : Int).toNat))) = 0 → ((0 ≤ (gi I 74 13) ∧ (gi I 74 13) < 2) ∧ ((y14 < (shl32 1 (gi I 77 (gi I 74 13).toNat)) → (WP k LAY m_X12_readerOn 210 [(0, vR (some 74)), (2, vI x2), (4, vI (6 + x1)), (5, vI y14), (6, vI 0), (7, vI 0)] [] (mem (P, some 5, some 22) (si (si (si (si (si (si I 110 ((6 + x1) : Int).toNat (gi I 75 (x2).toNat)) 111 ((6 + x1) : Int).toNat (or32 (shl32 (gi (si I 110 ((6 + x1) : Int).toNat (gi I 75 (x2).toNat)) 75 ((x2 + 1) : Int).toNat) 8) (gi (si I 110 ((6 + x1) : Int).toNat (gi I 75 (x2).toNat)) 75 (((x2 + 1) + 1) : Int).toNat))) 112 ((6 + x1) : Int).toNat (or32 (shl32 (gi (si (si I 110 ((6 + x1) : Int).toNat (gi I 75 (x2).toNat)) 111 ((6 + x1) : Int).toNat (or32 (shl32 (gi (si I 110 ((6 + x1) : Int).toNat (gi I 75 (x2).toNat)) 75 ((x2 + 1) : Int).toNat) 8) (gi (si I 110 ((6 + x1) : Int).toNat (gi I 75 (x2).toNat)) 75 (((x2 + 1) + 1) : Int).toNat))) 75 ((x2 + 3) : Int).toNat) 8) (gi (si (si I 110 ((6 + x1) : Int).toNat (gi I 75 (x2).toNat)) 111 ((6 + x1) : Int).toNat (or32 (shl32 (gi (si I 110 ((6 + x1) : Int).toNat (gi I 75 (x2).toNat)) 75 ((x2 + 1) : Int).toNat) 8) (gi (si I 110 ((6 + x1) : Int).toNat (gi I 75 (x2).toNat)) 75 (((x2 + 1) + 1) : Int).toNat))) 75 (((x2 + 3) + 1) : Int).toNat))) 113 ((6 + x1) : Int).toNat ((gi I 75 ((x2 + 5) : Int).toNat) - 1)) 114 ((6 + x1) : Int).toNat (or32 (shl32 (gi (si (si (si (si I 110 ((6 + x1) : Int).toNat (gi I 75 (x2).toNat)) 111 ((6 + x1) : Int).toNat (or32 (shl32 (gi (si I 110 ((6 + x1) : Int).toNat (gi I 75 (x2).toNat)) 75 ((x2 + 1) : Int).toNat) 8) (gi (si I 110 ((6 + x1) : Int).toNat (gi I 75 (x2).toNat)) 75 (((x2 + 1) + 1) : Int).toNat))) 112 ((6 + x1) : Int).toNat (or32 (shl32 (gi (si (si I 110 ((6 + x1) : Int).toNat (gi I 75 (x2).toNat)) 111 ((6 + x1) : Int).toNat (or32 (shl32 (gi (si I 110 ((6 + x1) : Int).toNat (gi I 75 (x2).toNat)) 75 ((x2 + 1) : Int).toNat) 8) (gi (si I 110 ((6 + x1) : Int).toNat (gi I 75 (x2).toNat)) 75 (((x2 + 1) + 1) : Int).toNat))) 75 ((x2 + 3) : Int).toNat) 8) (gi (si (si I 110 ((6 + x1) : Int).toNat (gi I 75 (x2).toNat)) 111 ((6 + x1) : Int).toNat (or32 (shl32 (gi (si I 110 ((6 + x1) : Int).toNat (gi I 75 (x2).toNat)) 75 ((x2 + 1) : Int).toNat) 8) (gi (si I 110 ((6 + x1) : Int).toNat (gi I 75 (x2).toNat)) 75 (((x2 + 1) + 1) : Int).toNat))) 75 (((x2 + 3) + 1) : Int).toNat))) 113 ((6 + x1) : Int).toNat ((gi I 75 ((x2 + 5) : Int).toNat) - 1)) 75 ((x2 + 6) : Int).toNat) 8) (gi (si (si (si (si I 110 ((6 + x1) : Int).toNat (gi I 75 (x2).toNat)) 111 ((6 + x1) : Int).toNat (or32 (shl32 (gi (si I 110 ((6 + x1) : Int).toNat (gi I 75 (x2).toNat)) 75 ((x2 + 1) : Int).toNat) 8) (gi (si I 110 ((6 + x1) : Int).toNat (gi I 75 (x2).toNat)) 75 (((x2 + 1) + 1) : Int).toNat))) 112 ((6 + x1) : Int).toNat (or32 (shl32 (gi (si (si I 110 ((6 + x1) : Int).toNat (gi I 75 (x2).toNat)) 111 ((6 + x1) : Int).toNat (or32 (shl32 (gi (si I 110 ((6 + x1) : Int).toNat (gi I 75 (x2).toNat)) 75 ((x2 + 1) : Int).toNat) 8) (gi (si I 110 ((6 + x1) : Int).toNat (gi I 75 (x2).toNat)) 75 (((x2 + 1) + 1) : Int).toNat))) 75 ((x2 + 3) : Int).toNat) 8) (gi (si (si I 110 ((6 + x1) : Int).toNat (gi I 75 (x2).toNat)) 111 ((6 + x1) : Int).toNat (or32 (shl32 (gi (si I 110 ((6 + x1) : Int).toNat (gi I 75 (x2).toNat)) 75 ((x2 + 1) : Int).toNat) 8) (gi (si I 110 ((6 + x1) : Int).toNat (gi I 75 (x2).toNat)) 75 (((x2 + 1) + 1) : Int).toNat))) 75 (((x2 + 3) + 1) : Int).toNat))) 113 ((6 + x1) : Int).toNat ((gi I 75 ((x2 + 5) : Int).toNat) - 1)) 75 (((x2 + 6) + 1) : Int).toNat))) 115 ((6 + x1) : Int).toNat (gi I 75 ((x2 + 8) : Int).toNat)) J) Q)) ∧ (¬ y14 < (shl32 1 (gi I 77 (gi I 74 13).toNat)) → (WP k LAY m_X12_readerOn 202 [] [] (mem (P, some 5, some 22) (si (si (si (si (si (si I 110 ((6 + x1) : Int).toNat (gi I 75 (x2).toNat)) 111 ((6 + x1) : Int).toNat (or32 (shl32 (gi (si I 110 ((6 + x1) : Int).toNat (gi I 75 (x2).toNat)) 75 ((x2 + 1) : Int).toNat) 8) (gi (si I 110 ((6 + x1) : Int).toNat (gi I 75 (x2).toNat)) 75 (((x2 + 1) + 1) : Int).toNat))) 112 ((6 + x1) : Int).toNat (or32 (shl32 (gi (si (si I 110 ((6 + x1) : Int).toNat (gi I 75 (x2).toNat)) 111 ((6 + x1) : Int).toNat (or32 (shl32 (gi (si I 110 ((6 + x1) : Int).toNat (gi I 75 (x2).toNat)) 75 ((x2 + 1) : Int).toNat) 8) (gi (si I 110 ((6 + x1) : Int).toNat (gi I 75 (x2).toNat)) 75 (((x2 + 1) + 1) : Int).toNat))) 75 ((x2 + 3) : Int).toNat) 8) (gi (si (si I 110 ((6 + x1) : Int).toNat (gi I 75 (x2).toNat)) 111 ((6 + x1) : Int).toNat (or32 (shl32 (gi (si I 110 ((6 + x1) : Int).toNat (gi I 75 (x2).toNat)) 75 ((x2 + 1) : Int).toNat) 8) (gi (si I 110 ((6 + x1) : Int).toNat (gi I 75 (x2).toNat)) 75 (((x2 + 1) + 1) : Int).toNat))) 75 (((x2 + 3) + 1) : Int).toNat))) 113 ((6 + x1) : Int).toNat ((gi I 75 ((x2 + 5) : Int).toNat) - 1)) 114 ((6 + x1) : Int).toNat (or32 (shl32 (gi (si (si (si (si I 110 ((6 + x1) : Int).toNat (gi I 75 (x2).toNat)) 111 ((6 + x1) : Int).toNat (or32 (shl32 (gi (si I 110 ((6 + x1) : Int).toNat (gi I 75 (x2).toNat)) 75 ((x2 + 1) : Int).toNat) 8) (gi (si I 110 ((6 + x1) : Int).toNat (gi I 75 (x2).toNat)) 75 (((x2 + 1) + 1) : Int).toNat))) 112 ((6 + x1) : Int).toNat (or32 (shl32 (gi (si (si I 110 ((6 + x1) : Int).toNat (gi I 75 (x2).toNat)) 111 ((6 + x1) : Int).toNat (or32 (shl32 (gi (si I 110 ((6 + x1) : Int).toNat (gi I 75 (x2).toNat)) 75 ((x2 + 1) : Int).toNat) 8) (gi (si I 110 ((6 + x1) : Int).toNat (gi I 75 (x2).toNat)) 75 (((x2 + 1) + 1) : Int).toNat))) 75 ((x2 + 3) : Int).toNat) 8) (gi (si (si I 110 ((6 + x1) : Int).toNat (gi I 75 (x2).toNat)) 111 ((6 + x1) : Int).toNat (or32 (shl32 (gi (si I 110 ((6 + x1) : Int).toNat (gi I 75 (x2).toNat)) 75 ((x2 + 1) : Int).toNat) 8) (gi (si I 110 ((6 + x1) : Int).toNat (gi I 75 (x2).toNat)) 75 (((x2 + 1) + 1) : Int).toNat))) 75 (((x2 + 3) + 1) : Int).toNat))) 113 ((6 + x1) : Int).toNat ((gi I 75 ((x2 + 5) : Int).toNat) - 1)) 75 ((x2 + 6) : Int).toNat) 8) (gi (si (si (si (si I 110 ((6 + x1) : Int).toNat (gi I 75 (x2).toNat)) 111 ((6 + x1) : Int).toNat (or32 (shl32 (gi (si I 110 ((6 + x1) : Int).toNat (gi I 75 (x2).toNat)) 75 ((x2 + 1) : Int).toNat) 8) (gi (si I 110 ((6 + x1) : Int).toNat (gi I 75 (x2).toNat)) 75 (((x2 + 1) + 1) : Int).toNat))) 112 ((6 + x1) : Int).toNat (or32 (shl32 (gi (si (si I 110 ((6 + x1) : Int).toNat (gi I 75 (x2).toNat)) 111 ((6 + x1) : Int).toNat (or32 (shl32 (gi (si I 110 ((6 + x1) : Int).toNat (gi I 75 (x2).toNat)) 75 ((x2 + 1) : Int).toNat) 8) (gi (si I 110 ((6 + x1) : Int).toNat (gi I 75 (x2).toNat)) 75 (((x2 + 1) + 1) : Int).toNat))) 75 ((x2 + 3) : Int).toNat) 8) (gi (si (si I 110 ((6 + x1) : Int).toNat (gi I 75 (x2).toNat)) 111 ((6 + x1) : Int).toNat (or32 (shl32 (gi (si I 110 ((6 + x1) : Int).toNat (gi I 75 (x2).toNat)) 75 ((x2 + 1) : Int).toNat) 8) (gi (si I 110 ((6 + x1) : Int).toNat (gi I 75 (x2).toNat)) 75 (((x2 + 1) + 1) : Int).toNat))) 75 (((x2 + 3) + 1) : Int).toNat))) 113 ((6 + x1) : Int).toNat ((gi I 75 ((x2 + 5) : Int).toNat) - 1)) 75 (((x2 + 6) + 1) : Int).toNat))) 115 ((6 + x1) : Int).toNat (gi I 75 ((x2 + 8) : Int).toNat)) J) Q)))))))))))))))))))) ∧ (¬ ((x2 + 9) + (gi I 75 ((x2 + 8) : Int).toNat)) ≤ x3 → (Q (some (vI (-1))) (mem (P, some 5, some 22) I J)))))))))))) : WP k LAY m_X12_readerOn 0 [(0, vR (some 74)), (1, vI x1), (2, vI x2), (3, vI x3)] [] (mem (P, some 5, some 22) I J) Q := by
  refine st_iload_n (pc' := 1) dX12_readerOn_0 rfl rfl (j := 2) rfl ?_
  refine st_bipush (pc' := 3) dX12_readerOn_1 rfl (by decide) ?_
  refine st_iadd (pc' := 4) dX12_readerOn_3 rfl ?_
  refine st_iload_n (pc' := 5) dX12_readerOn_4 rfl rfl (j := 3) rfl ?_
  obtain ⟨e1, h⟩ := h
  obtain ⟨e2, h⟩ := h
  refine st_icmp_gt (tg := 40) (pc' := 8) dX12_readerOn_5 (by decide) rfl e1 e2 (fun c => ?_) (fun c => ?_)
  · replace h := h.1 c
    refine st_iconst (pc' := 41) dX12_readerOn_40 rfl ?_
    exact st_iret (ty := .int) dX12_readerOn_41 rfl rfl rfl h
  · replace h := h.2 c
    refine st_aload_n (pc' := 9) dX12_readerOn_8 rfl rfl (j := 0) rfl ?_
    refine G_X12_7_74 dX12_readerOn_9 (pc' := 12) rfl rfl ?_
    refine st_iload_n (pc' := 13) dX12_readerOn_12 rfl rfl (j := 2) rfl ?_
    refine st_bipush (pc' := 15) dX12_readerOn_13 rfl (by decide) ?_
    refine st_iadd (pc' := 16) dX12_readerOn_15 rfl ?_
    obtain ⟨e3, h⟩ := h
    refine st_iaload (pc' := 17) (v := (gi I 75 ((x2 + 8) : Int).toNat)) dX12_readerOn_16 rfl L_75 (by decide) e3 (show gi I 75 ((x2 + 8) : Int).toNat = (gi I 75 ((x2 + 8) : Int).toNat) from rfl) ?_
    refine st_bipush (pc' := 19) dX12_readerOn_17 rfl (by decide) ?_
    refine st_icmp_gt (tg := 40) (pc' := 22) dX12_readerOn_19 (by decide) rfl (gi_in _ _ _) (by decide) (fun c => ?_) (fun c => ?_)
    · replace h := h.1 c
      refine st_iconst (pc' := 41) dX12_readerOn_40 rfl ?_
      exact st_iret (ty := .int) dX12_readerOn_41 rfl rfl rfl h
    · replace h := h.2 c
      refine st_iload_n (pc' := 23) dX12_readerOn_22 rfl rfl (j := 2) rfl ?_
      refine st_bipush (pc' := 25) dX12_readerOn_23 rfl (by decide) ?_
      refine st_iadd (pc' := 26) dX12_readerOn_25 rfl ?_
      refine st_aload_n (pc' := 27) dX12_readerOn_26 rfl rfl (j := 0) rfl ?_
      refine G_X12_7_74 dX12_readerOn_27 (pc' := 30) rfl rfl ?_
      refine st_iload_n (pc' := 31) dX12_readerOn_30 rfl rfl (j := 2) rfl ?_
      refine st_bipush (pc' := 33) dX12_readerOn_31 rfl (by decide) ?_
      refine st_iadd (pc' := 34) dX12_readerOn_33 rfl ?_
      refine st_iaload (pc' := 35) (v := (gi I 75 ((x2 + 8) : Int).toNat)) dX12_readerOn_34 rfl L_75 (by decide) e3 (show gi I 75 ((x2 + 8) : Int).toNat = (gi I 75 ((x2 + 8) : Int).toNat) from rfl) ?_
      refine st_iadd (pc' := 36) dX12_readerOn_35 rfl ?_
      refine st_iload_n (pc' := 37) dX12_readerOn_36 rfl rfl (j := 3) rfl ?_
      obtain ⟨e4, h⟩ := h
      refine st_icmp_le (tg := 42) (pc' := 40) dX12_readerOn_37 (by decide) rfl e4 e2 (fun c => ?_) (fun c => ?_)
      · replace h := h.1 c
        refine st_bipush (pc' := 44) dX12_readerOn_42 rfl (by decide) ?_
        refine st_iload_n (pc' := 45) dX12_readerOn_44 rfl rfl (j := 1) rfl ?_
        refine st_iadd (pc' := 46) dX12_readerOn_45 rfl ?_
        refine st_istore (pc' := 48) (L' := [(4, vI (6 + x1)), (0, vR (some 74)), (1, vI x1), (2, vI x2), (3, vI x3)]) dX12_readerOn_46 rfl (by decide) rfl ?_
        refine st_aload_n (pc' := 49) dX12_readerOn_48 rfl rfl (j := 1) rfl ?_
        refine G_X12_177_74 dX12_readerOn_49 (pc' := 52) rfl rfl ?_
        refine st_iload (pc' := 54) dX12_readerOn_52 rfl (j := 0) rfl ?_
        refine st_aload_n (pc' := 55) dX12_readerOn_54 rfl rfl (j := 1) rfl ?_
        refine G_X12_7_74 dX12_readerOn_55 (pc' := 58) rfl rfl ?_
        refine st_iload_n (pc' := 59) dX12_readerOn_58 rfl rfl (j := 3) rfl ?_
        obtain ⟨e5, h⟩ := h
        refine st_iaload (pc' := 60) (v := (gi I 75 (x2).toNat)) dX12_readerOn_59 rfl L_75 (by decide) e5 (show gi I 75 (x2).toNat = (gi I 75 (x2).toNat) from rfl) ?_
        obtain ⟨e6, h⟩ := h
        refine st_iastore (pc' := 61) (M' := (mem (P, some 5, some 22) (si I 110 ((6 + x1) : Int).toNat (gi I 75 (x2).toNat)) J)) dX12_readerOn_60 rfl L_110 (by decide) e6 rfl ?_
        refine st_aload_n (pc' := 62) dX12_readerOn_61 rfl rfl (j := 1) rfl ?_
        refine G_X12_180_74 dX12_readerOn_62 (pc' := 65) rfl rfl ?_
        refine st_iload (pc' := 67) dX12_readerOn_65 rfl (j := 0) rfl ?_
        refine st_aload_n (pc' := 68) dX12_readerOn_67 rfl rfl (j := 1) rfl ?_
        refine st_iload_n (pc' := 69) dX12_readerOn_68 rfl rfl (j := 3) rfl ?_
        refine st_iconst (pc' := 70) dX12_readerOn_69 rfl ?_
        refine st_iadd (pc' := 71) dX12_readerOn_70 rfl ?_
        refine st_callV (pc' := 74) (kc := k - 1) (E' := LAY) (cal := m_X12_twoBytes) (n := 1) (as := [vI (x2 + 1)]) (S := [vI (6 + x1), vR (some 111)]) dX12_readerOn_71 rfl l_X12_623 k_X12_twoBytes rfl L_74 c_X12 rfl rfl (Nat.le_of_ble_eq_true rfl) (by omega) ⟨Nat.le_refl _, Nat.le_refl _, Nat.le_refl _, Nat.le_refl _⟩ (Q1 := fun r M' => WP k LAY m_X12_readerOn 74 [(4, vI (6 + x1)), (0, vR (some 74)), (1, vI x1), (2, vI x2), (3, vI x3)] (r.toList ++ [vI (6 + x1), vR (some 111)]) M' Q) (WPm.of k_X12_twoBytes.1 (Nat.le_of_ble_eq_true rfl) (B_X12_twoBytes_0 (by omega) ?_)) (fun r M' q => q)
        obtain ⟨e7, h⟩ := h
        refine ⟨e7, ?_⟩
        obtain ⟨e8, h⟩ := h
        refine ⟨e8, ?_⟩
        change WP _ LAY m_X12_readerOn 74 [(4, vI (6 + x1)), (0, vR (some 74)), (1, vI x1), (2, vI x2), (3, vI x3)] [vI (or32 (shl32 (gi (si I 110 ((6 + x1) : Int).toNat (gi I 75 (x2).toNat)) 75 ((x2 + 1) : Int).toNat) 8) (gi (si I 110 ((6 + x1) : Int).toNat (gi I 75 (x2).toNat)) 75 (((x2 + 1) + 1) : Int).toNat)), vI (6 + x1), vR (some 111)] (mem (P, some 5, some 22) (si I 110 ((6 + x1) : Int).toNat (gi I 75 (x2).toNat)) J) Q
        refine st_iastore (pc' := 75) (M' := (mem (P, some 5, some 22) (si (si I 110 ((6 + x1) : Int).toNat (gi I 75 (x2).toNat)) 111 ((6 + x1) : Int).toNat (or32 (shl32 (gi (si I 110 ((6 + x1) : Int).toNat (gi I 75 (x2).toNat)) 75 ((x2 + 1) : Int).toNat) 8) (gi (si I 110 ((6 + x1) : Int).toNat (gi I 75 (x2).toNat)) 75 (((x2 + 1) + 1) : Int).toNat))) J)) dX12_readerOn_74 rfl L_111 (by decide) e6 rfl ?_
        refine st_aload_n (pc' := 76) dX12_readerOn_75 rfl rfl (j := 1) rfl ?_
        refine G_X12_183_74 dX12_readerOn_76 (pc' := 79) rfl rfl ?_
        refine st_iload (pc' := 81) dX12_readerOn_79 rfl (j := 0) rfl ?_
        refine st_aload_n (pc' := 82) dX12_readerOn_81 rfl rfl (j := 1) rfl ?_
        refine st_iload_n (pc' := 83) dX12_readerOn_82 rfl rfl (j := 3) rfl ?_
        refine st_iconst (pc' := 84) dX12_readerOn_83 rfl ?_
        refine st_iadd (pc' := 85) dX12_readerOn_84 rfl ?_
        refine st_callV (pc' := 88) (kc := k - 1) (E' := LAY) (cal := m_X12_twoBytes) (n := 1) (as := [vI (x2 + 3)]) (S := [vI (6 + x1), vR (some 112)]) dX12_readerOn_85 rfl l_X12_623 k_X12_twoBytes rfl L_74 c_X12 rfl rfl (Nat.le_of_ble_eq_true rfl) (by omega) ⟨Nat.le_refl _, Nat.le_refl _, Nat.le_refl _, Nat.le_refl _⟩ (Q1 := fun r M' => WP k LAY m_X12_readerOn 88 [(4, vI (6 + x1)), (0, vR (some 74)), (1, vI x1), (2, vI x2), (3, vI x3)] (r.toList ++ [vI (6 + x1), vR (some 112)]) M' Q) (WPm.of k_X12_twoBytes.1 (Nat.le_of_ble_eq_true rfl) (B_X12_twoBytes_0 (by omega) ?_)) (fun r M' q => q)
        obtain ⟨e9, h⟩ := h
        refine ⟨e9, ?_⟩
        obtain ⟨e10, h⟩ := h
        refine ⟨e10, ?_⟩
        change WP _ LAY m_X12_readerOn 88 [(4, vI (6 + x1)), (0, vR (some 74)), (1, vI x1), (2, vI x2), (3, vI x3)] [vI (or32 (shl32 (gi (si (si I 110 ((6 + x1) : Int).toNat (gi I 75 (x2).toNat)) 111 ((6 + x1) : Int).toNat (or32 (shl32 (gi (si I 110 ((6 + x1) : Int).toNat (gi I 75 (x2).toNat)) 75 ((x2 + 1) : Int).toNat) 8) (gi (si I 110 ((6 + x1) : Int).toNat (gi I 75 (x2).toNat)) 75 (((x2 + 1) + 1) : Int).toNat))) 75 ((x2 + 3) : Int).toNat) 8) (gi (si (si I 110 ((6 + x1) : Int).toNat (gi I 75 (x2).toNat)) 111 ((6 + x1) : Int).toNat (or32 (shl32 (gi (si I 110 ((6 + x1) : Int).toNat (gi I 75 (x2).toNat)) 75 ((x2 + 1) : Int).toNat) 8) (gi (si I 110 ((6 + x1) : Int).toNat (gi I 75 (x2).toNat)) 75 (((x2 + 1) + 1) : Int).toNat))) 75 (((x2 + 3) + 1) : Int).toNat)), vI (6 + x1), vR (some 112)] (mem (P, some 5, some 22) (si (si I 110 ((6 + x1) : Int).toNat (gi I 75 (x2).toNat)) 111 ((6 + x1) : Int).toNat (or32 (shl32 (gi (si I 110 ((6 + x1) : Int).toNat (gi I 75 (x2).toNat)) 75 ((x2 + 1) : Int).toNat) 8) (gi (si I 110 ((6 + x1) : Int).toNat (gi I 75 (x2).toNat)) 75 (((x2 + 1) + 1) : Int).toNat))) J) Q
        refine st_iastore (pc' := 89) (M' := (mem (P, some 5, some 22) (si (si (si I 110 ((6 + x1) : Int).toNat (gi I 75 (x2).toNat)) 111 ((6 + x1) : Int).toNat (or32 (shl32 (gi (si I 110 ((6 + x1) : Int).toNat (gi I 75 (x2).toNat)) 75 ((x2 + 1) : Int).toNat) 8) (gi (si I 110 ((6 + x1) : Int).toNat (gi I 75 (x2).toNat)) 75 (((x2 + 1) + 1) : Int).toNat))) 112 ((6 + x1) : Int).toNat (or32 (shl32 (gi (si (si I 110 ((6 + x1) : Int).toNat (gi I 75 (x2).toNat)) 111 ((6 + x1) : Int).toNat (or32 (shl32 (gi (si I 110 ((6 + x1) : Int).toNat (gi I 75 (x2).toNat)) 75 ((x2 + 1) : Int).toNat) 8) (gi (si I 110 ((6 + x1) : Int).toNat (gi I 75 (x2).toNat)) 75 (((x2 + 1) + 1) : Int).toNat))) 75 ((x2 + 3) : Int).toNat) 8) (gi (si (si I 110 ((6 + x1) : Int).toNat (gi I 75 (x2).toNat)) 111 ((6 + x1) : Int).toNat (or32 (shl32 (gi (si I 110 ((6 + x1) : Int).toNat (gi I 75 (x2).toNat)) 75 ((x2 + 1) : Int).toNat) 8) (gi (si I 110 ((6 + x1) : Int).toNat (gi I 75 (x2).toNat)) 75 (((x2 + 1) + 1) : Int).toNat))) 75 (((x2 + 3) + 1) : Int).toNat))) J)) dX12_readerOn_88 rfl L_112 (by decide) e6 rfl ?_
        refine st_aload_n (pc' := 90) dX12_readerOn_89 rfl rfl (j := 1) rfl ?_
        refine G_X12_186_74 dX12_readerOn_90 (pc' := 93) rfl rfl ?_
        refine st_iload (pc' := 95) dX12_readerOn_93 rfl (j := 0) rfl ?_
        refine st_aload_n (pc' := 96) dX12_readerOn_95 rfl rfl (j := 1) rfl ?_
        refine G_X12_7_74 dX12_readerOn_96 (pc' := 99) rfl rfl ?_
        refine st_iload_n (pc' := 100) dX12_readerOn_99 rfl rfl (j := 3) rfl ?_
        refine st_iconst (pc' := 101) dX12_readerOn_100 rfl ?_
        refine st_iadd (pc' := 102) dX12_readerOn_101 rfl ?_
        obtain ⟨e11, h⟩ := h
        refine st_iaload (pc' := 103) (v := (gi I 75 ((x2 + 5) : Int).toNat)) dX12_readerOn_102 rfl L_75 (by decide) e11 (show gi (si (si (si I 110 ((6 + x1) : Int).toNat (gi I 75 (x2).toNat)) 111 ((6 + x1) : Int).toNat (or32 (shl32 (gi (si I 110 ((6 + x1) : Int).toNat (gi I 75 (x2).toNat)) 75 ((x2 + 1) : Int).toNat) 8) (gi (si I 110 ((6 + x1) : Int).toNat (gi I 75 (x2).toNat)) 75 (((x2 + 1) + 1) : Int).toNat))) 112 ((6 + x1) : Int).toNat (or32 (shl32 (gi (si (si I 110 ((6 + x1) : Int).toNat (gi I 75 (x2).toNat)) 111 ((6 + x1) : Int).toNat (or32 (shl32 (gi (si I 110 ((6 + x1) : Int).toNat (gi I 75 (x2).toNat)) 75 ((x2 + 1) : Int).toNat) 8) (gi (si I 110 ((6 + x1) : Int).toNat (gi I 75 (x2).toNat)) 75 (((x2 + 1) + 1) : Int).toNat))) 75 ((x2 + 3) : Int).toNat) 8) (gi (si (si I 110 ((6 + x1) : Int).toNat (gi I 75 (x2).toNat)) 111 ((6 + x1) : Int).toNat (or32 (shl32 (gi (si I 110 ((6 + x1) : Int).toNat (gi I 75 (x2).toNat)) 75 ((x2 + 1) : Int).toNat) 8) (gi (si I 110 ((6 + x1) : Int).toNat (gi I 75 (x2).toNat)) 75 (((x2 + 1) + 1) : Int).toNat))) 75 (((x2 + 3) + 1) : Int).toNat))) 75 ((x2 + 5) : Int).toNat = (gi I 75 ((x2 + 5) : Int).toNat) from ((gi_cell _ _ _ _ (by decide)).trans ((gi_cell _ _ _ _ (by decide)).trans (gi_cell _ _ _ _ (by decide))))) ?_
        refine st_iconst (pc' := 104) dX12_readerOn_103 rfl ?_
        refine st_isub (pc' := 105) dX12_readerOn_104 rfl ?_
        refine st_iastore (pc' := 106) (M' := (mem (P, some 5, some 22) (si (si (si (si I 110 ((6 + x1) : Int).toNat (gi I 75 (x2).toNat)) 111 ((6 + x1) : Int).toNat (or32 (shl32 (gi (si I 110 ((6 + x1) : Int).toNat (gi I 75 (x2).toNat)) 75 ((x2 + 1) : Int).toNat) 8) (gi (si I 110 ((6 + x1) : Int).toNat (gi I 75 (x2).toNat)) 75 (((x2 + 1) + 1) : Int).toNat))) 112 ((6 + x1) : Int).toNat (or32 (shl32 (gi (si (si I 110 ((6 + x1) : Int).toNat (gi I 75 (x2).toNat)) 111 ((6 + x1) : Int).toNat (or32 (shl32 (gi (si I 110 ((6 + x1) : Int).toNat (gi I 75 (x2).toNat)) 75 ((x2 + 1) : Int).toNat) 8) (gi (si I 110 ((6 + x1) : Int).toNat (gi I 75 (x2).toNat)) 75 (((x2 + 1) + 1) : Int).toNat))) 75 ((x2 + 3) : Int).toNat) 8) (gi (si (si I 110 ((6 + x1) : Int).toNat (gi I 75 (x2).toNat)) 111 ((6 + x1) : Int).toNat (or32 (shl32 (gi (si I 110 ((6 + x1) : Int).toNat (gi I 75 (x2).toNat)) 75 ((x2 + 1) : Int).toNat) 8) (gi (si I 110 ((6 + x1) : Int).toNat (gi I 75 (x2).toNat)) 75 (((x2 + 1) + 1) : Int).toNat))) 75 (((x2 + 3) + 1) : Int).toNat))) 113 ((6 + x1) : Int).toNat ((gi I 75 ((x2 + 5) : Int).toNat) - 1)) J)) dX12_readerOn_105 rfl L_113 (by decide) e6 rfl ?_
        refine st_aload_n (pc' := 107) dX12_readerOn_106 rfl rfl (j := 1) rfl ?_
        refine G_X12_189_74 dX12_readerOn_107 (pc' := 110) rfl rfl ?_
        refine st_iload (pc' := 112) dX12_readerOn_110 rfl (j := 0) rfl ?_
        refine st_aload_n (pc' := 113) dX12_readerOn_112 rfl rfl (j := 1) rfl ?_
        refine st_iload_n (pc' := 114) dX12_readerOn_113 rfl rfl (j := 3) rfl ?_
        refine st_bipush (pc' := 116) dX12_readerOn_114 rfl (by decide) ?_
        refine st_iadd (pc' := 117) dX12_readerOn_116 rfl ?_
        refine st_callV (pc' := 120) (kc := k - 1) (E' := LAY) (cal := m_X12_twoBytes) (n := 1) (as := [vI (x2 + 6)]) (S := [vI (6 + x1), vR (some 114)]) dX12_readerOn_117 rfl l_X12_623 k_X12_twoBytes rfl L_74 c_X12 rfl rfl (Nat.le_of_ble_eq_true rfl) (by omega) ⟨Nat.le_refl _, Nat.le_refl _, Nat.le_refl _, Nat.le_refl _⟩ (Q1 := fun r M' => WP k LAY m_X12_readerOn 120 [(4, vI (6 + x1)), (0, vR (some 74)), (1, vI x1), (2, vI x2), (3, vI x3)] (r.toList ++ [vI (6 + x1), vR (some 114)]) M' Q) (WPm.of k_X12_twoBytes.1 (Nat.le_of_ble_eq_true rfl) (B_X12_twoBytes_0 (by omega) ?_)) (fun r M' q => q)
        obtain ⟨e12, h⟩ := h
        refine ⟨e12, ?_⟩
        obtain ⟨e13, h⟩ := h
        refine ⟨e13, ?_⟩
        change WP _ LAY m_X12_readerOn 120 [(4, vI (6 + x1)), (0, vR (some 74)), (1, vI x1), (2, vI x2), (3, vI x3)] [vI (or32 (shl32 (gi (si (si (si (si I 110 ((6 + x1) : Int).toNat (gi I 75 (x2).toNat)) 111 ((6 + x1) : Int).toNat (or32 (shl32 (gi (si I 110 ((6 + x1) : Int).toNat (gi I 75 (x2).toNat)) 75 ((x2 + 1) : Int).toNat) 8) (gi (si I 110 ((6 + x1) : Int).toNat (gi I 75 (x2).toNat)) 75 (((x2 + 1) + 1) : Int).toNat))) 112 ((6 + x1) : Int).toNat (or32 (shl32 (gi (si (si I 110 ((6 + x1) : Int).toNat (gi I 75 (x2).toNat)) 111 ((6 + x1) : Int).toNat (or32 (shl32 (gi (si I 110 ((6 + x1) : Int).toNat (gi I 75 (x2).toNat)) 75 ((x2 + 1) : Int).toNat) 8) (gi (si I 110 ((6 + x1) : Int).toNat (gi I 75 (x2).toNat)) 75 (((x2 + 1) + 1) : Int).toNat))) 75 ((x2 + 3) : Int).toNat) 8) (gi (si (si I 110 ((6 + x1) : Int).toNat (gi I 75 (x2).toNat)) 111 ((6 + x1) : Int).toNat (or32 (shl32 (gi (si I 110 ((6 + x1) : Int).toNat (gi I 75 (x2).toNat)) 75 ((x2 + 1) : Int).toNat) 8) (gi (si I 110 ((6 + x1) : Int).toNat (gi I 75 (x2).toNat)) 75 (((x2 + 1) + 1) : Int).toNat))) 75 (((x2 + 3) + 1) : Int).toNat))) 113 ((6 + x1) : Int).toNat ((gi I 75 ((x2 + 5) : Int).toNat) - 1)) 75 ((x2 + 6) : Int).toNat) 8) (gi (si (si (si (si I 110 ((6 + x1) : Int).toNat (gi I 75 (x2).toNat)) 111 ((6 + x1) : Int).toNat (or32 (shl32 (gi (si I 110 ((6 + x1) : Int).toNat (gi I 75 (x2).toNat)) 75 ((x2 + 1) : Int).toNat) 8) (gi (si I 110 ((6 + x1) : Int).toNat (gi I 75 (x2).toNat)) 75 (((x2 + 1) + 1) : Int).toNat))) 112 ((6 + x1) : Int).toNat (or32 (shl32 (gi (si (si I 110 ((6 + x1) : Int).toNat (gi I 75 (x2).toNat)) 111 ((6 + x1) : Int).toNat (or32 (shl32 (gi (si I 110 ((6 + x1) : Int).toNat (gi I 75 (x2).toNat)) 75 ((x2 + 1) : Int).toNat) 8) (gi (si I 110 ((6 + x1) : Int).toNat (gi I 75 (x2).toNat)) 75 (((x2 + 1) + 1) : Int).toNat))) 75 ((x2 + 3) : Int).toNat) 8) (gi (si (si I 110 ((6 + x1) : Int).toNat (gi I 75 (x2).toNat)) 111 ((6 + x1) : Int).toNat (or32 (shl32 (gi (si I 110 ((6 + x1) : Int).toNat (gi I 75 (x2).toNat)) 75 ((x2 + 1) : Int).toNat) 8) (gi (si I 110 ((6 + x1) : Int).toNat (gi I 75 (x2).toNat)) 75 (((x2 + 1) + 1) : Int).toNat))) 75 (((x2 + 3) + 1) : Int).toNat))) 113 ((6 + x1) : Int).toNat ((gi I 75 ((x2 + 5) : Int).toNat) - 1)) 75 (((x2 + 6) + 1) : Int).toNat)), vI (6 + x1), vR (some 114)] (mem (P, some 5, some 22) (si (si (si (si I 110 ((6 + x1) : Int).toNat (gi I 75 (x2).toNat)) 111 ((6 + x1) : Int).toNat (or32 (shl32 (gi (si I 110 ((6 + x1) : Int).toNat (gi I 75 (x2).toNat)) 75 ((x2 + 1) : Int).toNat) 8) (gi (si I 110 ((6 + x1) : Int).toNat (gi I 75 (x2).toNat)) 75 (((x2 + 1) + 1) : Int).toNat))) 112 ((6 + x1) : Int).toNat (or32 (shl32 (gi (si (si I 110 ((6 + x1) : Int).toNat (gi I 75 (x2).toNat)) 111 ((6 + x1) : Int).toNat (or32 (shl32 (gi (si I 110 ((6 + x1) : Int).toNat (gi I 75 (x2).toNat)) 75 ((x2 + 1) : Int).toNat) 8) (gi (si I 110 ((6 + x1) : Int).toNat (gi I 75 (x2).toNat)) 75 (((x2 + 1) + 1) : Int).toNat))) 75 ((x2 + 3) : Int).toNat) 8) (gi (si (si I 110 ((6 + x1) : Int).toNat (gi I 75 (x2).toNat)) 111 ((6 + x1) : Int).toNat (or32 (shl32 (gi (si I 110 ((6 + x1) : Int).toNat (gi I 75 (x2).toNat)) 75 ((x2 + 1) : Int).toNat) 8) (gi (si I 110 ((6 + x1) : Int).toNat (gi I 75 (x2).toNat)) 75 (((x2 + 1) + 1) : Int).toNat))) 75 (((x2 + 3) + 1) : Int).toNat))) 113 ((6 + x1) : Int).toNat ((gi I 75 ((x2 + 5) : Int).toNat) - 1)) J) Q
        refine st_iastore (pc' := 121) (M' := (mem (P, some 5, some 22) (si (si (si (si (si I 110 ((6 + x1) : Int).toNat (gi I 75 (x2).toNat)) 111 ((6 + x1) : Int).toNat (or32 (shl32 (gi (si I 110 ((6 + x1) : Int).toNat (gi I 75 (x2).toNat)) 75 ((x2 + 1) : Int).toNat) 8) (gi (si I 110 ((6 + x1) : Int).toNat (gi I 75 (x2).toNat)) 75 (((x2 + 1) + 1) : Int).toNat))) 112 ((6 + x1) : Int).toNat (or32 (shl32 (gi (si (si I 110 ((6 + x1) : Int).toNat (gi I 75 (x2).toNat)) 111 ((6 + x1) : Int).toNat (or32 (shl32 (gi (si I 110 ((6 + x1) : Int).toNat (gi I 75 (x2).toNat)) 75 ((x2 + 1) : Int).toNat) 8) (gi (si I 110 ((6 + x1) : Int).toNat (gi I 75 (x2).toNat)) 75 (((x2 + 1) + 1) : Int).toNat))) 75 ((x2 + 3) : Int).toNat) 8) (gi (si (si I 110 ((6 + x1) : Int).toNat (gi I 75 (x2).toNat)) 111 ((6 + x1) : Int).toNat (or32 (shl32 (gi (si I 110 ((6 + x1) : Int).toNat (gi I 75 (x2).toNat)) 75 ((x2 + 1) : Int).toNat) 8) (gi (si I 110 ((6 + x1) : Int).toNat (gi I 75 (x2).toNat)) 75 (((x2 + 1) + 1) : Int).toNat))) 75 (((x2 + 3) + 1) : Int).toNat))) 113 ((6 + x1) : Int).toNat ((gi I 75 ((x2 + 5) : Int).toNat) - 1)) 114 ((6 + x1) : Int).toNat (or32 (shl32 (gi (si (si (si (si I 110 ((6 + x1) : Int).toNat (gi I 75 (x2).toNat)) 111 ((6 + x1) : Int).toNat (or32 (shl32 (gi (si I 110 ((6 + x1) : Int).toNat (gi I 75 (x2).toNat)) 75 ((x2 + 1) : Int).toNat) 8) (gi (si I 110 ((6 + x1) : Int).toNat (gi I 75 (x2).toNat)) 75 (((x2 + 1) + 1) : Int).toNat))) 112 ((6 + x1) : Int).toNat (or32 (shl32 (gi (si (si I 110 ((6 + x1) : Int).toNat (gi I 75 (x2).toNat)) 111 ((6 + x1) : Int).toNat (or32 (shl32 (gi (si I 110 ((6 + x1) : Int).toNat (gi I 75 (x2).toNat)) 75 ((x2 + 1) : Int).toNat) 8) (gi (si I 110 ((6 + x1) : Int).toNat (gi I 75 (x2).toNat)) 75 (((x2 + 1) + 1) : Int).toNat))) 75 ((x2 + 3) : Int).toNat) 8) (gi (si (si I 110 ((6 + x1) : Int).toNat (gi I 75 (x2).toNat)) 111 ((6 + x1) : Int).toNat (or32 (shl32 (gi (si I 110 ((6 + x1) : Int).toNat (gi I 75 (x2).toNat)) 75 ((x2 + 1) : Int).toNat) 8) (gi (si I 110 ((6 + x1) : Int).toNat (gi I 75 (x2).toNat)) 75 (((x2 + 1) + 1) : Int).toNat))) 75 (((x2 + 3) + 1) : Int).toNat))) 113 ((6 + x1) : Int).toNat ((gi I 75 ((x2 + 5) : Int).toNat) - 1)) 75 ((x2 + 6) : Int).toNat) 8) (gi (si (si (si (si I 110 ((6 + x1) : Int).toNat (gi I 75 (x2).toNat)) 111 ((6 + x1) : Int).toNat (or32 (shl32 (gi (si I 110 ((6 + x1) : Int).toNat (gi I 75 (x2).toNat)) 75 ((x2 + 1) : Int).toNat) 8) (gi (si I 110 ((6 + x1) : Int).toNat (gi I 75 (x2).toNat)) 75 (((x2 + 1) + 1) : Int).toNat))) 112 ((6 + x1) : Int).toNat (or32 (shl32 (gi (si (si I 110 ((6 + x1) : Int).toNat (gi I 75 (x2).toNat)) 111 ((6 + x1) : Int).toNat (or32 (shl32 (gi (si I 110 ((6 + x1) : Int).toNat (gi I 75 (x2).toNat)) 75 ((x2 + 1) : Int).toNat) 8) (gi (si I 110 ((6 + x1) : Int).toNat (gi I 75 (x2).toNat)) 75 (((x2 + 1) + 1) : Int).toNat))) 75 ((x2 + 3) : Int).toNat) 8) (gi (si (si I 110 ((6 + x1) : Int).toNat (gi I 75 (x2).toNat)) 111 ((6 + x1) : Int).toNat (or32 (shl32 (gi (si I 110 ((6 + x1) : Int).toNat (gi I 75 (x2).toNat)) 75 ((x2 + 1) : Int).toNat) 8) (gi (si I 110 ((6 + x1) : Int).toNat (gi I 75 (x2).toNat)) 75 (((x2 + 1) + 1) : Int).toNat))) 75 (((x2 + 3) + 1) : Int).toNat))) 113 ((6 + x1) : Int).toNat ((gi I 75 ((x2 + 5) : Int).toNat) - 1)) 75 (((x2 + 6) + 1) : Int).toNat))) J)) dX12_readerOn_120 rfl L_114 (by decide) e6 rfl ?_
        refine st_aload_n (pc' := 122) dX12_readerOn_121 rfl rfl (j := 1) rfl ?_
        refine G_X12_192_74 dX12_readerOn_122 (pc' := 125) rfl rfl ?_
        refine st_iload (pc' := 127) dX12_readerOn_125 rfl (j := 0) rfl ?_
        refine st_aload_n (pc' := 128) dX12_readerOn_127 rfl rfl (j := 1) rfl ?_
        refine G_X12_7_74 dX12_readerOn_128 (pc' := 131) rfl rfl ?_
        refine st_iload_n (pc' := 132) dX12_readerOn_131 rfl rfl (j := 3) rfl ?_
        refine st_bipush (pc' := 134) dX12_readerOn_132 rfl (by decide) ?_
        refine st_iadd (pc' := 135) dX12_readerOn_134 rfl ?_
        refine st_iaload (pc' := 136) (v := (gi I 75 ((x2 + 8) : Int).toNat)) dX12_readerOn_135 rfl L_75 (by decide) e3 (show gi (si (si (si (si (si I 110 ((6 + x1) : Int).toNat (gi I 75 (x2).toNat)) 111 ((6 + x1) : Int).toNat (or32 (shl32 (gi (si I 110 ((6 + x1) : Int).toNat (gi I 75 (x2).toNat)) 75 ((x2 + 1) : Int).toNat) 8) (gi (si I 110 ((6 + x1) : Int).toNat (gi I 75 (x2).toNat)) 75 (((x2 + 1) + 1) : Int).toNat))) 112 ((6 + x1) : Int).toNat (or32 (shl32 (gi (si (si I 110 ((6 + x1) : Int).toNat (gi I 75 (x2).toNat)) 111 ((6 + x1) : Int).toNat (or32 (shl32 (gi (si I 110 ((6 + x1) : Int).toNat (gi I 75 (x2).toNat)) 75 ((x2 + 1) : Int).toNat) 8) (gi (si I 110 ((6 + x1) : Int).toNat (gi I 75 (x2).toNat)) 75 (((x2 + 1) + 1) : Int).toNat))) 75 ((x2 + 3) : Int).toNat) 8) (gi (si (si I 110 ((6 + x1) : Int).toNat (gi I 75 (x2).toNat)) 111 ((6 + x1) : Int).toNat (or32 (shl32 (gi (si I 110 ((6 + x1) : Int).toNat (gi I 75 (x2).toNat)) 75 ((x2 + 1) : Int).toNat) 8) (gi (si I 110 ((6 + x1) : Int).toNat (gi I 75 (x2).toNat)) 75 (((x2 + 1) + 1) : Int).toNat))) 75 (((x2 + 3) + 1) : Int).toNat))) 113 ((6 + x1) : Int).toNat ((gi I 75 ((x2 + 5) : Int).toNat) - 1)) 114 ((6 + x1) : Int).toNat (or32 (shl32 (gi (si (si (si (si I 110 ((6 + x1) : Int).toNat (gi I 75 (x2).toNat)) 111 ((6 + x1) : Int).toNat (or32 (shl32 (gi (si I 110 ((6 + x1) : Int).toNat (gi I 75 (x2).toNat)) 75 ((x2 + 1) : Int).toNat) 8) (gi (si I 110 ((6 + x1) : Int).toNat (gi I 75 (x2).toNat)) 75 (((x2 + 1) + 1) : Int).toNat))) 112 ((6 + x1) : Int).toNat (or32 (shl32 (gi (si (si I 110 ((6 + x1) : Int).toNat (gi I 75 (x2).toNat)) 111 ((6 + x1) : Int).toNat (or32 (shl32 (gi (si I 110 ((6 + x1) : Int).toNat (gi I 75 (x2).toNat)) 75 ((x2 + 1) : Int).toNat) 8) (gi (si I 110 ((6 + x1) : Int).toNat (gi I 75 (x2).toNat)) 75 (((x2 + 1) + 1) : Int).toNat))) 75 ((x2 + 3) : Int).toNat) 8) (gi (si (si I 110 ((6 + x1) : Int).toNat (gi I 75 (x2).toNat)) 111 ((6 + x1) : Int).toNat (or32 (shl32 (gi (si I 110 ((6 + x1) : Int).toNat (gi I 75 (x2).toNat)) 75 ((x2 + 1) : Int).toNat) 8) (gi (si I 110 ((6 + x1) : Int).toNat (gi I 75 (x2).toNat)) 75 (((x2 + 1) + 1) : Int).toNat))) 75 (((x2 + 3) + 1) : Int).toNat))) 113 ((6 + x1) : Int).toNat ((gi I 75 ((x2 + 5) : Int).toNat) - 1)) 75 ((x2 + 6) : Int).toNat) 8) (gi (si (si (si (si I 110 ((6 + x1) : Int).toNat (gi I 75 (x2).toNat)) 111 ((6 + x1) : Int).toNat (or32 (shl32 (gi (si I 110 ((6 + x1) : Int).toNat (gi I 75 (x2).toNat)) 75 ((x2 + 1) : Int).toNat) 8) (gi (si I 110 ((6 + x1) : Int).toNat (gi I 75 (x2).toNat)) 75 (((x2 + 1) + 1) : Int).toNat))) 112 ((6 + x1) : Int).toNat (or32 (shl32 (gi (si (si I 110 ((6 + x1) : Int).toNat (gi I 75 (x2).toNat)) 111 ((6 + x1) : Int).toNat (or32 (shl32 (gi (si I 110 ((6 + x1) : Int).toNat (gi I 75 (x2).toNat)) 75 ((x2 + 1) : Int).toNat) 8) (gi (si I 110 ((6 + x1) : Int).toNat (gi I 75 (x2).toNat)) 75 (((x2 + 1) + 1) : Int).toNat))) 75 ((x2 + 3) : Int).toNat) 8) (gi (si (si I 110 ((6 + x1) : Int).toNat (gi I 75 (x2).toNat)) 111 ((6 + x1) : Int).toNat (or32 (shl32 (gi (si I 110 ((6 + x1) : Int).toNat (gi I 75 (x2).toNat)) 75 ((x2 + 1) : Int).toNat) 8) (gi (si I 110 ((6 + x1) : Int).toNat (gi I 75 (x2).toNat)) 75 (((x2 + 1) + 1) : Int).toNat))) 75 (((x2 + 3) + 1) : Int).toNat))) 113 ((6 + x1) : Int).toNat ((gi I 75 ((x2 + 5) : Int).toNat) - 1)) 75 (((x2 + 6) + 1) : Int).toNat))) 75 ((x2 + 8) : Int).toNat = (gi I 75 ((x2 + 8) : Int).toNat) from ((gi_cell _ _ _ _ (by decide)).trans ((gi_cell _ _ _ _ (by decide)).trans ((gi_cell _ _ _ _ (by decide)).trans ((gi_cell _ _ _ _ (by decide)).trans (gi_cell _ _ _ _ (by decide))))))) ?_
        refine st_iastore (pc' := 137) (M' := (mem (P, some 5, some 22) (si (si (si (si (si (si I 110 ((6 + x1) : Int).toNat (gi I 75 (x2).toNat)) 111 ((6 + x1) : Int).toNat (or32 (shl32 (gi (si I 110 ((6 + x1) : Int).toNat (gi I 75 (x2).toNat)) 75 ((x2 + 1) : Int).toNat) 8) (gi (si I 110 ((6 + x1) : Int).toNat (gi I 75 (x2).toNat)) 75 (((x2 + 1) + 1) : Int).toNat))) 112 ((6 + x1) : Int).toNat (or32 (shl32 (gi (si (si I 110 ((6 + x1) : Int).toNat (gi I 75 (x2).toNat)) 111 ((6 + x1) : Int).toNat (or32 (shl32 (gi (si I 110 ((6 + x1) : Int).toNat (gi I 75 (x2).toNat)) 75 ((x2 + 1) : Int).toNat) 8) (gi (si I 110 ((6 + x1) : Int).toNat (gi I 75 (x2).toNat)) 75 (((x2 + 1) + 1) : Int).toNat))) 75 ((x2 + 3) : Int).toNat) 8) (gi (si (si I 110 ((6 + x1) : Int).toNat (gi I 75 (x2).toNat)) 111 ((6 + x1) : Int).toNat (or32 (shl32 (gi (si I 110 ((6 + x1) : Int).toNat (gi I 75 (x2).toNat)) 75 ((x2 + 1) : Int).toNat) 8) (gi (si I 110 ((6 + x1) : Int).toNat (gi I 75 (x2).toNat)) 75 (((x2 + 1) + 1) : Int).toNat))) 75 (((x2 + 3) + 1) : Int).toNat))) 113 ((6 + x1) : Int).toNat ((gi I 75 ((x2 + 5) : Int).toNat) - 1)) 114 ((6 + x1) : Int).toNat (or32 (shl32 (gi (si (si (si (si I 110 ((6 + x1) : Int).toNat (gi I 75 (x2).toNat)) 111 ((6 + x1) : Int).toNat (or32 (shl32 (gi (si I 110 ((6 + x1) : Int).toNat (gi I 75 (x2).toNat)) 75 ((x2 + 1) : Int).toNat) 8) (gi (si I 110 ((6 + x1) : Int).toNat (gi I 75 (x2).toNat)) 75 (((x2 + 1) + 1) : Int).toNat))) 112 ((6 + x1) : Int).toNat (or32 (shl32 (gi (si (si I 110 ((6 + x1) : Int).toNat (gi I 75 (x2).toNat)) 111 ((6 + x1) : Int).toNat (or32 (shl32 (gi (si I 110 ((6 + x1) : Int).toNat (gi I 75 (x2).toNat)) 75 ((x2 + 1) : Int).toNat) 8) (gi (si I 110 ((6 + x1) : Int).toNat (gi I 75 (x2).toNat)) 75 (((x2 + 1) + 1) : Int).toNat))) 75 ((x2 + 3) : Int).toNat) 8) (gi (si (si I 110 ((6 + x1) : Int).toNat (gi I 75 (x2).toNat)) 111 ((6 + x1) : Int).toNat (or32 (shl32 (gi (si I 110 ((6 + x1) : Int).toNat (gi I 75 (x2).toNat)) 75 ((x2 + 1) : Int).toNat) 8) (gi (si I 110 ((6 + x1) : Int).toNat (gi I 75 (x2).toNat)) 75 (((x2 + 1) + 1) : Int).toNat))) 75 (((x2 + 3) + 1) : Int).toNat))) 113 ((6 + x1) : Int).toNat ((gi I 75 ((x2 + 5) : Int).toNat) - 1)) 75 ((x2 + 6) : Int).toNat) 8) (gi (si (si (si (si I 110 ((6 + x1) : Int).toNat (gi I 75 (x2).toNat)) 111 ((6 + x1) : Int).toNat (or32 (shl32 (gi (si I 110 ((6 + x1) : Int).toNat (gi I 75 (x2).toNat)) 75 ((x2 + 1) : Int).toNat) 8) (gi (si I 110 ((6 + x1) : Int).toNat (gi I 75 (x2).toNat)) 75 (((x2 + 1) + 1) : Int).toNat))) 112 ((6 + x1) : Int).toNat (or32 (shl32 (gi (si (si I 110 ((6 + x1) : Int).toNat (gi I 75 (x2).toNat)) 111 ((6 + x1) : Int).toNat (or32 (shl32 (gi (si I 110 ((6 + x1) : Int).toNat (gi I 75 (x2).toNat)) 75 ((x2 + 1) : Int).toNat) 8) (gi (si I 110 ((6 + x1) : Int).toNat (gi I 75 (x2).toNat)) 75 (((x2 + 1) + 1) : Int).toNat))) 75 ((x2 + 3) : Int).toNat) 8) (gi (si (si I 110 ((6 + x1) : Int).toNat (gi I 75 (x2).toNat)) 111 ((6 + x1) : Int).toNat (or32 (shl32 (gi (si I 110 ((6 + x1) : Int).toNat (gi I 75 (x2).toNat)) 75 ((x2 + 1) : Int).toNat) 8) (gi (si I 110 ((6 + x1) : Int).toNat (gi I 75 (x2).toNat)) 75 (((x2 + 1) + 1) : Int).toNat))) 75 (((x2 + 3) + 1) : Int).toNat))) 113 ((6 + x1) : Int).toNat ((gi I 75 ((x2 + 5) : Int).toNat) - 1)) 75 (((x2 + 6) + 1) : Int).toNat))) 115 ((6 + x1) : Int).toNat (gi I 75 ((x2 + 8) : Int).toNat)) J)) dX12_readerOn_136 rfl L_115 (by decide) e6 rfl ?_
        refine st_aload_n (pc' := 138) dX12_readerOn_137 rfl rfl (j := 1) rfl ?_
        refine G_X12_180_74 dX12_readerOn_138 (pc' := 141) rfl rfl ?_
        refine st_iload (pc' := 143) dX12_readerOn_141 rfl (j := 0) rfl ?_
        refine st_iaload (pc' := 144) (v := (or32 (shl32 (gi (si I 110 ((6 + x1) : Int).toNat (gi I 75 (x2).toNat)) 75 ((x2 + 1) : Int).toNat) 8) (gi (si I 110 ((6 + x1) : Int).toNat (gi I 75 (x2).toNat)) 75 (((x2 + 1) + 1) : Int).toNat))) dX12_readerOn_143 rfl L_111 (by decide) e6 (show gi (si (si (si (si (si (si I 110 ((6 + x1) : Int).toNat (gi I 75 (x2).toNat)) 111 ((6 + x1) : Int).toNat (or32 (shl32 (gi (si I 110 ((6 + x1) : Int).toNat (gi I 75 (x2).toNat)) 75 ((x2 + 1) : Int).toNat) 8) (gi (si I 110 ((6 + x1) : Int).toNat (gi I 75 (x2).toNat)) 75 (((x2 + 1) + 1) : Int).toNat))) 112 ((6 + x1) : Int).toNat (or32 (shl32 (gi (si (si I 110 ((6 + x1) : Int).toNat (gi I 75 (x2).toNat)) 111 ((6 + x1) : Int).toNat (or32 (shl32 (gi (si I 110 ((6 + x1) : Int).toNat (gi I 75 (x2).toNat)) 75 ((x2 + 1) : Int).toNat) 8) (gi (si I 110 ((6 + x1) : Int).toNat (gi I 75 (x2).toNat)) 75 (((x2 + 1) + 1) : Int).toNat))) 75 ((x2 + 3) : Int).toNat) 8) (gi (si (si I 110 ((6 + x1) : Int).toNat (gi I 75 (x2).toNat)) 111 ((6 + x1) : Int).toNat (or32 (shl32 (gi (si I 110 ((6 + x1) : Int).toNat (gi I 75 (x2).toNat)) 75 ((x2 + 1) : Int).toNat) 8) (gi (si I 110 ((6 + x1) : Int).toNat (gi I 75 (x2).toNat)) 75 (((x2 + 1) + 1) : Int).toNat))) 75 (((x2 + 3) + 1) : Int).toNat))) 113 ((6 + x1) : Int).toNat ((gi I 75 ((x2 + 5) : Int).toNat) - 1)) 114 ((6 + x1) : Int).toNat (or32 (shl32 (gi (si (si (si (si I 110 ((6 + x1) : Int).toNat (gi I 75 (x2).toNat)) 111 ((6 + x1) : Int).toNat (or32 (shl32 (gi (si I 110 ((6 + x1) : Int).toNat (gi I 75 (x2).toNat)) 75 ((x2 + 1) : Int).toNat) 8) (gi (si I 110 ((6 + x1) : Int).toNat (gi I 75 (x2).toNat)) 75 (((x2 + 1) + 1) : Int).toNat))) 112 ((6 + x1) : Int).toNat (or32 (shl32 (gi (si (si I 110 ((6 + x1) : Int).toNat (gi I 75 (x2).toNat)) 111 ((6 + x1) : Int).toNat (or32 (shl32 (gi (si I 110 ((6 + x1) : Int).toNat (gi I 75 (x2).toNat)) 75 ((x2 + 1) : Int).toNat) 8) (gi (si I 110 ((6 + x1) : Int).toNat (gi I 75 (x2).toNat)) 75 (((x2 + 1) + 1) : Int).toNat))) 75 ((x2 + 3) : Int).toNat) 8) (gi (si (si I 110 ((6 + x1) : Int).toNat (gi I 75 (x2).toNat)) 111 ((6 + x1) : Int).toNat (or32 (shl32 (gi (si I 110 ((6 + x1) : Int).toNat (gi I 75 (x2).toNat)) 75 ((x2 + 1) : Int).toNat) 8) (gi (si I 110 ((6 + x1) : Int).toNat (gi I 75 (x2).toNat)) 75 (((x2 + 1) + 1) : Int).toNat))) 75 (((x2 + 3) + 1) : Int).toNat))) 113 ((6 + x1) : Int).toNat ((gi I 75 ((x2 + 5) : Int).toNat) - 1)) 75 ((x2 + 6) : Int).toNat) 8) (gi (si (si (si (si I 110 ((6 + x1) : Int).toNat (gi I 75 (x2).toNat)) 111 ((6 + x1) : Int).toNat (or32 (shl32 (gi (si I 110 ((6 + x1) : Int).toNat (gi I 75 (x2).toNat)) 75 ((x2 + 1) : Int).toNat) 8) (gi (si I 110 ((6 + x1) : Int).toNat (gi I 75 (x2).toNat)) 75 (((x2 + 1) + 1) : Int).toNat))) 112 ((6 + x1) : Int).toNat (or32 (shl32 (gi (si (si I 110 ((6 + x1) : Int).toNat (gi I 75 (x2).toNat)) 111 ((6 + x1) : Int).toNat (or32 (shl32 (gi (si I 110 ((6 + x1) : Int).toNat (gi I 75 (x2).toNat)) 75 ((x2 + 1) : Int).toNat) 8) (gi (si I 110 ((6 + x1) : Int).toNat (gi I 75 (x2).toNat)) 75 (((x2 + 1) + 1) : Int).toNat))) 75 ((x2 + 3) : Int).toNat) 8) (gi (si (si I 110 ((6 + x1) : Int).toNat (gi I 75 (x2).toNat)) 111 ((6 + x1) : Int).toNat (or32 (shl32 (gi (si I 110 ((6 + x1) : Int).toNat (gi I 75 (x2).toNat)) 75 ((x2 + 1) : Int).toNat) 8) (gi (si I 110 ((6 + x1) : Int).toNat (gi I 75 (x2).toNat)) 75 (((x2 + 1) + 1) : Int).toNat))) 75 (((x2 + 3) + 1) : Int).toNat))) 113 ((6 + x1) : Int).toNat ((gi I 75 ((x2 + 5) : Int).toNat) - 1)) 75 (((x2 + 6) + 1) : Int).toNat))) 115 ((6 + x1) : Int).toNat (gi I 75 ((x2 + 8) : Int).toNat)) 111 ((6 + x1) : Int).toNat = (or32 (shl32 (gi (si I 110 ((6 + x1) : Int).toNat (gi I 75 (x2).toNat)) 75 ((x2 + 1) : Int).toNat) 8) (gi (si I 110 ((6 + x1) : Int).toNat (gi I 75 (x2).toNat)) 75 (((x2 + 1) + 1) : Int).toNat)) from ((gi_cell _ _ _ _ (by decide)).trans ((gi_cell _ _ _ _ (by decide)).trans ((gi_cell _ _ _ _ (by decide)).trans ((gi_cell _ _ _ _ (by decide)).trans (gi_same _ _ _ (or32_in _ _))))))) ?_
        refine st_aload_n (pc' := 145) dX12_readerOn_144 rfl rfl (j := 1) rfl ?_
        refine G_X12_183_74 dX12_readerOn_145 (pc' := 148) rfl rfl ?_
        refine st_iload (pc' := 150) dX12_readerOn_148 rfl (j := 0) rfl ?_
        refine st_iaload (pc' := 151) (v := (or32 (shl32 (gi (si (si I 110 ((6 + x1) : Int).toNat (gi I 75 (x2).toNat)) 111 ((6 + x1) : Int).toNat (or32 (shl32 (gi (si I 110 ((6 + x1) : Int).toNat (gi I 75 (x2).toNat)) 75 ((x2 + 1) : Int).toNat) 8) (gi (si I 110 ((6 + x1) : Int).toNat (gi I 75 (x2).toNat)) 75 (((x2 + 1) + 1) : Int).toNat))) 75 ((x2 + 3) : Int).toNat) 8) (gi (si (si I 110 ((6 + x1) : Int).toNat (gi I 75 (x2).toNat)) 111 ((6 + x1) : Int).toNat (or32 (shl32 (gi (si I 110 ((6 + x1) : Int).toNat (gi I 75 (x2).toNat)) 75 ((x2 + 1) : Int).toNat) 8) (gi (si I 110 ((6 + x1) : Int).toNat (gi I 75 (x2).toNat)) 75 (((x2 + 1) + 1) : Int).toNat))) 75 (((x2 + 3) + 1) : Int).toNat))) dX12_readerOn_150 rfl L_112 (by decide) e6 (show gi (si (si (si (si (si (si I 110 ((6 + x1) : Int).toNat (gi I 75 (x2).toNat)) 111 ((6 + x1) : Int).toNat (or32 (shl32 (gi (si I 110 ((6 + x1) : Int).toNat (gi I 75 (x2).toNat)) 75 ((x2 + 1) : Int).toNat) 8) (gi (si I 110 ((6 + x1) : Int).toNat (gi I 75 (x2).toNat)) 75 (((x2 + 1) + 1) : Int).toNat))) 112 ((6 + x1) : Int).toNat (or32 (shl32 (gi (si (si I 110 ((6 + x1) : Int).toNat (gi I 75 (x2).toNat)) 111 ((6 + x1) : Int).toNat (or32 (shl32 (gi (si I 110 ((6 + x1) : Int).toNat (gi I 75 (x2).toNat)) 75 ((x2 + 1) : Int).toNat) 8) (gi (si I 110 ((6 + x1) : Int).toNat (gi I 75 (x2).toNat)) 75 (((x2 + 1) + 1) : Int).toNat))) 75 ((x2 + 3) : Int).toNat) 8) (gi (si (si I 110 ((6 + x1) : Int).toNat (gi I 75 (x2).toNat)) 111 ((6 + x1) : Int).toNat (or32 (shl32 (gi (si I 110 ((6 + x1) : Int).toNat (gi I 75 (x2).toNat)) 75 ((x2 + 1) : Int).toNat) 8) (gi (si I 110 ((6 + x1) : Int).toNat (gi I 75 (x2).toNat)) 75 (((x2 + 1) + 1) : Int).toNat))) 75 (((x2 + 3) + 1) : Int).toNat))) 113 ((6 + x1) : Int).toNat ((gi I 75 ((x2 + 5) : Int).toNat) - 1)) 114 ((6 + x1) : Int).toNat (or32 (shl32 (gi (si (si (si (si I 110 ((6 + x1) : Int).toNat (gi I 75 (x2).toNat)) 111 ((6 + x1) : Int).toNat (or32 (shl32 (gi (si I 110 ((6 + x1) : Int).toNat (gi I 75 (x2).toNat)) 75 ((x2 + 1) : Int).toNat) 8) (gi (si I 110 ((6 + x1) : Int).toNat (gi I 75 (x2).toNat)) 75 (((x2 + 1) + 1) : Int).toNat))) 112 ((6 + x1) : Int).toNat (or32 (shl32 (gi (si (si I 110 ((6 + x1) : Int).toNat (gi I 75 (x2).toNat)) 111 ((6 + x1) : Int).toNat (or32 (shl32 (gi (si I 110 ((6 + x1) : Int).toNat (gi I 75 (x2).toNat)) 75 ((x2 + 1) : Int).toNat) 8) (gi (si I 110 ((6 + x1) : Int).toNat (gi I 75 (x2).toNat)) 75 (((x2 + 1) + 1) : Int).toNat))) 75 ((x2 + 3) : Int).toNat) 8) (gi (si (si I 110 ((6 + x1) : Int).toNat (gi I 75 (x2).toNat)) 111 ((6 + x1) : Int).toNat (or32 (shl32 (gi (si I 110 ((6 + x1) : Int).toNat (gi I 75 (x2).toNat)) 75 ((x2 + 1) : Int).toNat) 8) (gi (si I 110 ((6 + x1) : Int).toNat (gi I 75 (x2).toNat)) 75 (((x2 + 1) + 1) : Int).toNat))) 75 (((x2 + 3) + 1) : Int).toNat))) 113 ((6 + x1) : Int).toNat ((gi I 75 ((x2 + 5) : Int).toNat) - 1)) 75 ((x2 + 6) : Int).toNat) 8) (gi (si (si (si (si I 110 ((6 + x1) : Int).toNat (gi I 75 (x2).toNat)) 111 ((6 + x1) : Int).toNat (or32 (shl32 (gi (si I 110 ((6 + x1) : Int).toNat (gi I 75 (x2).toNat)) 75 ((x2 + 1) : Int).toNat) 8) (gi (si I 110 ((6 + x1) : Int).toNat (gi I 75 (x2).toNat)) 75 (((x2 + 1) + 1) : Int).toNat))) 112 ((6 + x1) : Int).toNat (or32 (shl32 (gi (si (si I 110 ((6 + x1) : Int).toNat (gi I 75 (x2).toNat)) 111 ((6 + x1) : Int).toNat (or32 (shl32 (gi (si I 110 ((6 + x1) : Int).toNat (gi I 75 (x2).toNat)) 75 ((x2 + 1) : Int).toNat) 8) (gi (si I 110 ((6 + x1) : Int).toNat (gi I 75 (x2).toNat)) 75 (((x2 + 1) + 1) : Int).toNat))) 75 ((x2 + 3) : Int).toNat) 8) (gi (si (si I 110 ((6 + x1) : Int).toNat (gi I 75 (x2).toNat)) 111 ((6 + x1) : Int).toNat (or32 (shl32 (gi (si I 110 ((6 + x1) : Int).toNat (gi I 75 (x2).toNat)) 75 ((x2 + 1) : Int).toNat) 8) (gi (si I 110 ((6 + x1) : Int).toNat (gi I 75 (x2).toNat)) 75 (((x2 + 1) + 1) : Int).toNat))) 75 (((x2 + 3) + 1) : Int).toNat))) 113 ((6 + x1) : Int).toNat ((gi I 75 ((x2 + 5) : Int).toNat) - 1)) 75 (((x2 + 6) + 1) : Int).toNat))) 115 ((6 + x1) : Int).toNat (gi I 75 ((x2 + 8) : Int).toNat)) 112 ((6 + x1) : Int).toNat = (or32 (shl32 (gi (si (si I 110 ((6 + x1) : Int).toNat (gi I 75 (x2).toNat)) 111 ((6 + x1) : Int).toNat (or32 (shl32 (gi (si I 110 ((6 + x1) : Int).toNat (gi I 75 (x2).toNat)) 75 ((x2 + 1) : Int).toNat) 8) (gi (si I 110 ((6 + x1) : Int).toNat (gi I 75 (x2).toNat)) 75 (((x2 + 1) + 1) : Int).toNat))) 75 ((x2 + 3) : Int).toNat) 8) (gi (si (si I 110 ((6 + x1) : Int).toNat (gi I 75 (x2).toNat)) 111 ((6 + x1) : Int).toNat (or32 (shl32 (gi (si I 110 ((6 + x1) : Int).toNat (gi I 75 (x2).toNat)) 75 ((x2 + 1) : Int).toNat) 8) (gi (si I 110 ((6 + x1) : Int).toNat (gi I 75 (x2).toNat)) 75 (((x2 + 1) + 1) : Int).toNat))) 75 (((x2 + 3) + 1) : Int).toNat)) from ((gi_cell _ _ _ _ (by decide)).trans ((gi_cell _ _ _ _ (by decide)).trans ((gi_cell _ _ _ _ (by decide)).trans (gi_same _ _ _ (or32_in _ _)))))) ?_
        refine st_ior (pc' := 152) (z := (or32 (or32 (shl32 (gi (si I 110 ((6 + x1) : Int).toNat (gi I 75 (x2).toNat)) 75 ((x2 + 1) : Int).toNat) 8) (gi (si I 110 ((6 + x1) : Int).toNat (gi I 75 (x2).toNat)) 75 (((x2 + 1) + 1) : Int).toNat)) (or32 (shl32 (gi (si (si I 110 ((6 + x1) : Int).toNat (gi I 75 (x2).toNat)) 111 ((6 + x1) : Int).toNat (or32 (shl32 (gi (si I 110 ((6 + x1) : Int).toNat (gi I 75 (x2).toNat)) 75 ((x2 + 1) : Int).toNat) 8) (gi (si I 110 ((6 + x1) : Int).toNat (gi I 75 (x2).toNat)) 75 (((x2 + 1) + 1) : Int).toNat))) 75 ((x2 + 3) : Int).toNat) 8) (gi (si (si I 110 ((6 + x1) : Int).toNat (gi I 75 (x2).toNat)) 111 ((6 + x1) : Int).toNat (or32 (shl32 (gi (si I 110 ((6 + x1) : Int).toNat (gi I 75 (x2).toNat)) 75 ((x2 + 1) : Int).toNat) 8) (gi (si I 110 ((6 + x1) : Int).toNat (gi I 75 (x2).toNat)) 75 (((x2 + 1) + 1) : Int).toNat))) 75 (((x2 + 3) + 1) : Int).toNat)))) dX12_readerOn_151 rfl rfl ?_
        obtain ⟨y14, hy14⟩ : ∃ y : Int, y = (or32 (or32 (shl32 (gi (si I 110 ((6 + x1) : Int).toNat (gi I 75 (x2).toNat)) 75 ((x2 + 1) : Int).toNat) 8) (gi (si I 110 ((6 + x1) : Int).toNat (gi I 75 (x2).toNat)) 75 (((x2 + 1) + 1) : Int).toNat)) (or32 (shl32 (gi (si (si I 110 ((6 + x1) : Int).toNat (gi I 75 (x2).toNat)) 111 ((6 + x1) : Int).toNat (or32 (shl32 (gi (si I 110 ((6 + x1) : Int).toNat (gi I 75 (x2).toNat)) 75 ((x2 + 1) : Int).toNat) 8) (gi (si I 110 ((6 + x1) : Int).toNat (gi I 75 (x2).toNat)) 75 (((x2 + 1) + 1) : Int).toNat))) 75 ((x2 + 3) : Int).toNat) 8) (gi (si (si I 110 ((6 + x1) : Int).toNat (gi I 75 (x2).toNat)) 111 ((6 + x1) : Int).toNat (or32 (shl32 (gi (si I 110 ((6 + x1) : Int).toNat (gi I 75 (x2).toNat)) 75 ((x2 + 1) : Int).toNat) 8) (gi (si I 110 ((6 + x1) : Int).toNat (gi I 75 (x2).toNat)) 75 (((x2 + 1) + 1) : Int).toNat))) 75 (((x2 + 3) + 1) : Int).toNat))) := ⟨_, rfl⟩
        rw [← hy14]
        replace h := h y14 hy14
        refine st_istore (pc' := 154) (L' := [(5, vI y14), (4, vI (6 + x1)), (0, vR (some 74)), (1, vI x1), (2, vI x2), (3, vI x3)]) dX12_readerOn_152 rfl (by decide) rfl ?_
        refine st_aload_n (pc' := 155) dX12_readerOn_154 rfl rfl (j := 2) rfl ?_
        refine st_aload_n (pc' := 156) dX12_readerOn_155 rfl rfl (j := 2) rfl ?_
        refine G_X12_177_74 dX12_readerOn_156 (pc' := 159) rfl rfl ?_
        refine st_iload (pc' := 161) dX12_readerOn_159 rfl (j := 1) rfl ?_
        refine st_iaload (pc' := 162) (v := (gi I 75 (x2).toNat)) dX12_readerOn_161 rfl L_110 (by decide) e6 (show gi (si (si (si (si (si (si I 110 ((6 + x1) : Int).toNat (gi I 75 (x2).toNat)) 111 ((6 + x1) : Int).toNat (or32 (shl32 (gi (si I 110 ((6 + x1) : Int).toNat (gi I 75 (x2).toNat)) 75 ((x2 + 1) : Int).toNat) 8) (gi (si I 110 ((6 + x1) : Int).toNat (gi I 75 (x2).toNat)) 75 (((x2 + 1) + 1) : Int).toNat))) 112 ((6 + x1) : Int).toNat (or32 (shl32 (gi (si (si I 110 ((6 + x1) : Int).toNat (gi I 75 (x2).toNat)) 111 ((6 + x1) : Int).toNat (or32 (shl32 (gi (si I 110 ((6 + x1) : Int).toNat (gi I 75 (x2).toNat)) 75 ((x2 + 1) : Int).toNat) 8) (gi (si I 110 ((6 + x1) : Int).toNat (gi I 75 (x2).toNat)) 75 (((x2 + 1) + 1) : Int).toNat))) 75 ((x2 + 3) : Int).toNat) 8) (gi (si (si I 110 ((6 + x1) : Int).toNat (gi I 75 (x2).toNat)) 111 ((6 + x1) : Int).toNat (or32 (shl32 (gi (si I 110 ((6 + x1) : Int).toNat (gi I 75 (x2).toNat)) 75 ((x2 + 1) : Int).toNat) 8) (gi (si I 110 ((6 + x1) : Int).toNat (gi I 75 (x2).toNat)) 75 (((x2 + 1) + 1) : Int).toNat))) 75 (((x2 + 3) + 1) : Int).toNat))) 113 ((6 + x1) : Int).toNat ((gi I 75 ((x2 + 5) : Int).toNat) - 1)) 114 ((6 + x1) : Int).toNat (or32 (shl32 (gi (si (si (si (si I 110 ((6 + x1) : Int).toNat (gi I 75 (x2).toNat)) 111 ((6 + x1) : Int).toNat (or32 (shl32 (gi (si I 110 ((6 + x1) : Int).toNat (gi I 75 (x2).toNat)) 75 ((x2 + 1) : Int).toNat) 8) (gi (si I 110 ((6 + x1) : Int).toNat (gi I 75 (x2).toNat)) 75 (((x2 + 1) + 1) : Int).toNat))) 112 ((6 + x1) : Int).toNat (or32 (shl32 (gi (si (si I 110 ((6 + x1) : Int).toNat (gi I 75 (x2).toNat)) 111 ((6 + x1) : Int).toNat (or32 (shl32 (gi (si I 110 ((6 + x1) : Int).toNat (gi I 75 (x2).toNat)) 75 ((x2 + 1) : Int).toNat) 8) (gi (si I 110 ((6 + x1) : Int).toNat (gi I 75 (x2).toNat)) 75 (((x2 + 1) + 1) : Int).toNat))) 75 ((x2 + 3) : Int).toNat) 8) (gi (si (si I 110 ((6 + x1) : Int).toNat (gi I 75 (x2).toNat)) 111 ((6 + x1) : Int).toNat (or32 (shl32 (gi (si I 110 ((6 + x1) : Int).toNat (gi I 75 (x2).toNat)) 75 ((x2 + 1) : Int).toNat) 8) (gi (si I 110 ((6 + x1) : Int).toNat (gi I 75 (x2).toNat)) 75 (((x2 + 1) + 1) : Int).toNat))) 75 (((x2 + 3) + 1) : Int).toNat))) 113 ((6 + x1) : Int).toNat ((gi I 75 ((x2 + 5) : Int).toNat) - 1)) 75 ((x2 + 6) : Int).toNat) 8) (gi (si (si (si (si I 110 ((6 + x1) : Int).toNat (gi I 75 (x2).toNat)) 111 ((6 + x1) : Int).toNat (or32 (shl32 (gi (si I 110 ((6 + x1) : Int).toNat (gi I 75 (x2).toNat)) 75 ((x2 + 1) : Int).toNat) 8) (gi (si I 110 ((6 + x1) : Int).toNat (gi I 75 (x2).toNat)) 75 (((x2 + 1) + 1) : Int).toNat))) 112 ((6 + x1) : Int).toNat (or32 (shl32 (gi (si (si I 110 ((6 + x1) : Int).toNat (gi I 75 (x2).toNat)) 111 ((6 + x1) : Int).toNat (or32 (shl32 (gi (si I 110 ((6 + x1) : Int).toNat (gi I 75 (x2).toNat)) 75 ((x2 + 1) : Int).toNat) 8) (gi (si I 110 ((6 + x1) : Int).toNat (gi I 75 (x2).toNat)) 75 (((x2 + 1) + 1) : Int).toNat))) 75 ((x2 + 3) : Int).toNat) 8) (gi (si (si I 110 ((6 + x1) : Int).toNat (gi I 75 (x2).toNat)) 111 ((6 + x1) : Int).toNat (or32 (shl32 (gi (si I 110 ((6 + x1) : Int).toNat (gi I 75 (x2).toNat)) 75 ((x2 + 1) : Int).toNat) 8) (gi (si I 110 ((6 + x1) : Int).toNat (gi I 75 (x2).toNat)) 75 (((x2 + 1) + 1) : Int).toNat))) 75 (((x2 + 3) + 1) : Int).toNat))) 113 ((6 + x1) : Int).toNat ((gi I 75 ((x2 + 5) : Int).toNat) - 1)) 75 (((x2 + 6) + 1) : Int).toNat))) 115 ((6 + x1) : Int).toNat (gi I 75 ((x2 + 8) : Int).toNat)) 110 ((6 + x1) : Int).toNat = (gi I 75 (x2).toNat) from ((gi_cell _ _ _ _ (by decide)).trans ((gi_cell _ _ _ _ (by decide)).trans ((gi_cell _ _ _ _ (by decide)).trans ((gi_cell _ _ _ _ (by decide)).trans ((gi_cell _ _ _ _ (by decide)).trans (gi_same _ _ _ (gi_in _ _ _)))))))) ?_
        obtain ⟨e15, h⟩ := h
        refine st_callV (pc' := 165) (kc := k - 1) (E' := LAY) (cal := m_X12_isTable) (n := 1) (as := [vI (gi I 75 (x2).toNat)]) (S := []) dX12_readerOn_162 rfl l_X12_565 k_X12_isTable rfl L_74 c_X12 rfl rfl (Nat.le_of_ble_eq_true rfl) (by omega) ⟨Nat.le_refl _, Nat.le_refl _, Nat.le_refl _, Nat.le_refl _⟩ (Q1 := fun r M' => WP k LAY m_X12_readerOn 165 [(5, vI y14), (4, vI (6 + x1)), (0, vR (some 74)), (1, vI x1), (2, vI x2), (3, vI x3)] (r.toList ++ []) M' Q) (S_X12_isTable (by omega) e15 (gi_in _ _ _) ?_) (fun r M' q => q)
        change WP _ LAY m_X12_readerOn 165 [(5, vI y14), (4, vI (6 + x1)), (0, vR (some 74)), (1, vI x1), (2, vI x2), (3, vI x3)] [vI (b2i (0 ≤ (gi I 75 (x2).toNat) ∧ (gi I 75 (x2).toNat) < gi (si (si (si (si (si (si I 110 ((6 + x1) : Int).toNat (gi I 75 (x2).toNat)) 111 ((6 + x1) : Int).toNat (or32 (shl32 (gi (si I 110 ((6 + x1) : Int).toNat (gi I 75 (x2).toNat)) 75 ((x2 + 1) : Int).toNat) 8) (gi (si I 110 ((6 + x1) : Int).toNat (gi I 75 (x2).toNat)) 75 (((x2 + 1) + 1) : Int).toNat))) 112 ((6 + x1) : Int).toNat (or32 (shl32 (gi (si (si I 110 ((6 + x1) : Int).toNat (gi I 75 (x2).toNat)) 111 ((6 + x1) : Int).toNat (or32 (shl32 (gi (si I 110 ((6 + x1) : Int).toNat (gi I 75 (x2).toNat)) 75 ((x2 + 1) : Int).toNat) 8) (gi (si I 110 ((6 + x1) : Int).toNat (gi I 75 (x2).toNat)) 75 (((x2 + 1) + 1) : Int).toNat))) 75 ((x2 + 3) : Int).toNat) 8) (gi (si (si I 110 ((6 + x1) : Int).toNat (gi I 75 (x2).toNat)) 111 ((6 + x1) : Int).toNat (or32 (shl32 (gi (si I 110 ((6 + x1) : Int).toNat (gi I 75 (x2).toNat)) 75 ((x2 + 1) : Int).toNat) 8) (gi (si I 110 ((6 + x1) : Int).toNat (gi I 75 (x2).toNat)) 75 (((x2 + 1) + 1) : Int).toNat))) 75 (((x2 + 3) + 1) : Int).toNat))) 113 ((6 + x1) : Int).toNat ((gi I 75 ((x2 + 5) : Int).toNat) - 1)) 114 ((6 + x1) : Int).toNat (or32 (shl32 (gi (si (si (si (si I 110 ((6 + x1) : Int).toNat (gi I 75 (x2).toNat)) 111 ((6 + x1) : Int).toNat (or32 (shl32 (gi (si I 110 ((6 + x1) : Int).toNat (gi I 75 (x2).toNat)) 75 ((x2 + 1) : Int).toNat) 8) (gi (si I 110 ((6 + x1) : Int).toNat (gi I 75 (x2).toNat)) 75 (((x2 + 1) + 1) : Int).toNat))) 112 ((6 + x1) : Int).toNat (or32 (shl32 (gi (si (si I 110 ((6 + x1) : Int).toNat (gi I 75 (x2).toNat)) 111 ((6 + x1) : Int).toNat (or32 (shl32 (gi (si I 110 ((6 + x1) : Int).toNat (gi I 75 (x2).toNat)) 75 ((x2 + 1) : Int).toNat) 8) (gi (si I 110 ((6 + x1) : Int).toNat (gi I 75 (x2).toNat)) 75 (((x2 + 1) + 1) : Int).toNat))) 75 ((x2 + 3) : Int).toNat) 8) (gi (si (si I 110 ((6 + x1) : Int).toNat (gi I 75 (x2).toNat)) 111 ((6 + x1) : Int).toNat (or32 (shl32 (gi (si I 110 ((6 + x1) : Int).toNat (gi I 75 (x2).toNat)) 75 ((x2 + 1) : Int).toNat) 8) (gi (si I 110 ((6 + x1) : Int).toNat (gi I 75 (x2).toNat)) 75 (((x2 + 1) + 1) : Int).toNat))) 75 (((x2 + 3) + 1) : Int).toNat))) 113 ((6 + x1) : Int).toNat ((gi I 75 ((x2 + 5) : Int).toNat) - 1)) 75 ((x2 + 6) : Int).toNat) 8) (gi (si (si (si (si I 110 ((6 + x1) : Int).toNat (gi I 75 (x2).toNat)) 111 ((6 + x1) : Int).toNat (or32 (shl32 (gi (si I 110 ((6 + x1) : Int).toNat (gi I 75 (x2).toNat)) 75 ((x2 + 1) : Int).toNat) 8) (gi (si I 110 ((6 + x1) : Int).toNat (gi I 75 (x2).toNat)) 75 (((x2 + 1) + 1) : Int).toNat))) 112 ((6 + x1) : Int).toNat (or32 (shl32 (gi (si (si I 110 ((6 + x1) : Int).toNat (gi I 75 (x2).toNat)) 111 ((6 + x1) : Int).toNat (or32 (shl32 (gi (si I 110 ((6 + x1) : Int).toNat (gi I 75 (x2).toNat)) 75 ((x2 + 1) : Int).toNat) 8) (gi (si I 110 ((6 + x1) : Int).toNat (gi I 75 (x2).toNat)) 75 (((x2 + 1) + 1) : Int).toNat))) 75 ((x2 + 3) : Int).toNat) 8) (gi (si (si I 110 ((6 + x1) : Int).toNat (gi I 75 (x2).toNat)) 111 ((6 + x1) : Int).toNat (or32 (shl32 (gi (si I 110 ((6 + x1) : Int).toNat (gi I 75 (x2).toNat)) 75 ((x2 + 1) : Int).toNat) 8) (gi (si I 110 ((6 + x1) : Int).toNat (gi I 75 (x2).toNat)) 75 (((x2 + 1) + 1) : Int).toNat))) 75 (((x2 + 3) + 1) : Int).toNat))) 113 ((6 + x1) : Int).toNat ((gi I 75 ((x2 + 5) : Int).toNat) - 1)) 75 (((x2 + 6) + 1) : Int).toNat))) 115 ((6 + x1) : Int).toNat (gi I 75 ((x2 + 8) : Int).toNat)) 86 (gi (si (si (si (si (si (si I 110 ((6 + x1) : Int).toNat (gi I 75 (x2).toNat)) 111 ((6 + x1) : Int).toNat (or32 (shl32 (gi (si I 110 ((6 + x1) : Int).toNat (gi I 75 (x2).toNat)) 75 ((x2 + 1) : Int).toNat) 8) (gi (si I 110 ((6 + x1) : Int).toNat (gi I 75 (x2).toNat)) 75 (((x2 + 1) + 1) : Int).toNat))) 112 ((6 + x1) : Int).toNat (or32 (shl32 (gi (si (si I 110 ((6 + x1) : Int).toNat (gi I 75 (x2).toNat)) 111 ((6 + x1) : Int).toNat (or32 (shl32 (gi (si I 110 ((6 + x1) : Int).toNat (gi I 75 (x2).toNat)) 75 ((x2 + 1) : Int).toNat) 8) (gi (si I 110 ((6 + x1) : Int).toNat (gi I 75 (x2).toNat)) 75 (((x2 + 1) + 1) : Int).toNat))) 75 ((x2 + 3) : Int).toNat) 8) (gi (si (si I 110 ((6 + x1) : Int).toNat (gi I 75 (x2).toNat)) 111 ((6 + x1) : Int).toNat (or32 (shl32 (gi (si I 110 ((6 + x1) : Int).toNat (gi I 75 (x2).toNat)) 75 ((x2 + 1) : Int).toNat) 8) (gi (si I 110 ((6 + x1) : Int).toNat (gi I 75 (x2).toNat)) 75 (((x2 + 1) + 1) : Int).toNat))) 75 (((x2 + 3) + 1) : Int).toNat))) 113 ((6 + x1) : Int).toNat ((gi I 75 ((x2 + 5) : Int).toNat) - 1)) 114 ((6 + x1) : Int).toNat (or32 (shl32 (gi (si (si (si (si I 110 ((6 + x1) : Int).toNat (gi I 75 (x2).toNat)) 111 ((6 + x1) : Int).toNat (or32 (shl32 (gi (si I 110 ((6 + x1) : Int).toNat (gi I 75 (x2).toNat)) 75 ((x2 + 1) : Int).toNat) 8) (gi (si I 110 ((6 + x1) : Int).toNat (gi I 75 (x2).toNat)) 75 (((x2 + 1) + 1) : Int).toNat))) 112 ((6 + x1) : Int).toNat (or32 (shl32 (gi (si (si I 110 ((6 + x1) : Int).toNat (gi I 75 (x2).toNat)) 111 ((6 + x1) : Int).toNat (or32 (shl32 (gi (si I 110 ((6 + x1) : Int).toNat (gi I 75 (x2).toNat)) 75 ((x2 + 1) : Int).toNat) 8) (gi (si I 110 ((6 + x1) : Int).toNat (gi I 75 (x2).toNat)) 75 (((x2 + 1) + 1) : Int).toNat))) 75 ((x2 + 3) : Int).toNat) 8) (gi (si (si I 110 ((6 + x1) : Int).toNat (gi I 75 (x2).toNat)) 111 ((6 + x1) : Int).toNat (or32 (shl32 (gi (si I 110 ((6 + x1) : Int).toNat (gi I 75 (x2).toNat)) 75 ((x2 + 1) : Int).toNat) 8) (gi (si I 110 ((6 + x1) : Int).toNat (gi I 75 (x2).toNat)) 75 (((x2 + 1) + 1) : Int).toNat))) 75 (((x2 + 3) + 1) : Int).toNat))) 113 ((6 + x1) : Int).toNat ((gi I 75 ((x2 + 5) : Int).toNat) - 1)) 75 ((x2 + 6) : Int).toNat) 8) (gi (si (si (si (si I 110 ((6 + x1) : Int).toNat (gi I 75 (x2).toNat)) 111 ((6 + x1) : Int).toNat (or32 (shl32 (gi (si I 110 ((6 + x1) : Int).toNat (gi I 75 (x2).toNat)) 75 ((x2 + 1) : Int).toNat) 8) (gi (si I 110 ((6 + x1) : Int).toNat (gi I 75 (x2).toNat)) 75 (((x2 + 1) + 1) : Int).toNat))) 112 ((6 + x1) : Int).toNat (or32 (shl32 (gi (si (si I 110 ((6 + x1) : Int).toNat (gi I 75 (x2).toNat)) 111 ((6 + x1) : Int).toNat (or32 (shl32 (gi (si I 110 ((6 + x1) : Int).toNat (gi I 75 (x2).toNat)) 75 ((x2 + 1) : Int).toNat) 8) (gi (si I 110 ((6 + x1) : Int).toNat (gi I 75 (x2).toNat)) 75 (((x2 + 1) + 1) : Int).toNat))) 75 ((x2 + 3) : Int).toNat) 8) (gi (si (si I 110 ((6 + x1) : Int).toNat (gi I 75 (x2).toNat)) 111 ((6 + x1) : Int).toNat (or32 (shl32 (gi (si I 110 ((6 + x1) : Int).toNat (gi I 75 (x2).toNat)) 75 ((x2 + 1) : Int).toNat) 8) (gi (si I 110 ((6 + x1) : Int).toNat (gi I 75 (x2).toNat)) 75 (((x2 + 1) + 1) : Int).toNat))) 75 (((x2 + 3) + 1) : Int).toNat))) 113 ((6 + x1) : Int).toNat ((gi I 75 ((x2 + 5) : Int).toNat) - 1)) 75 (((x2 + 6) + 1) : Int).toNat))) 115 ((6 + x1) : Int).toNat (gi I 75 ((x2 + 8) : Int).toNat)) 74 13).toNat))] (mem (P, some 5, some 22) (si (si (si (si (si (si I 110 ((6 + x1) : Int).toNat (gi I 75 (x2).toNat)) 111 ((6 + x1) : Int).toNat (or32 (shl32 (gi (si I 110 ((6 + x1) : Int).toNat (gi I 75 (x2).toNat)) 75 ((x2 + 1) : Int).toNat) 8) (gi (si I 110 ((6 + x1) : Int).toNat (gi I 75 (x2).toNat)) 75 (((x2 + 1) + 1) : Int).toNat))) 112 ((6 + x1) : Int).toNat (or32 (shl32 (gi (si (si I 110 ((6 + x1) : Int).toNat (gi I 75 (x2).toNat)) 111 ((6 + x1) : Int).toNat (or32 (shl32 (gi (si I 110 ((6 + x1) : Int).toNat (gi I 75 (x2).toNat)) 75 ((x2 + 1) : Int).toNat) 8) (gi (si I 110 ((6 + x1) : Int).toNat (gi I 75 (x2).toNat)) 75 (((x2 + 1) + 1) : Int).toNat))) 75 ((x2 + 3) : Int).toNat) 8) (gi (si (si I 110 ((6 + x1) : Int).toNat (gi I 75 (x2).toNat)) 111 ((6 + x1) : Int).toNat (or32 (shl32 (gi (si I 110 ((6 + x1) : Int).toNat (gi I 75 (x2).toNat)) 75 ((x2 + 1) : Int).toNat) 8) (gi (si I 110 ((6 + x1) : Int).toNat (gi I 75 (x2).toNat)) 75 (((x2 + 1) + 1) : Int).toNat))) 75 (((x2 + 3) + 1) : Int).toNat))) 113 ((6 + x1) : Int).toNat ((gi I 75 ((x2 + 5) : Int).toNat) - 1)) 114 ((6 + x1) : Int).toNat (or32 (shl32 (gi (si (si (si (si I 110 ((6 + x1) : Int).toNat (gi I 75 (x2).toNat)) 111 ((6 + x1) : Int).toNat (or32 (shl32 (gi (si I 110 ((6 + x1) : Int).toNat (gi I 75 (x2).toNat)) 75 ((x2 + 1) : Int).toNat) 8) (gi (si I 110 ((6 + x1) : Int).toNat (gi I 75 (x2).toNat)) 75 (((x2 + 1) + 1) : Int).toNat))) 112 ((6 + x1) : Int).toNat (or32 (shl32 (gi (si (si I 110 ((6 + x1) : Int).toNat (gi I 75 (x2).toNat)) 111 ((6 + x1) : Int).toNat (or32 (shl32 (gi (si I 110 ((6 + x1) : Int).toNat (gi I 75 (x2).toNat)) 75 ((x2 + 1) : Int).toNat) 8) (gi (si I 110 ((6 + x1) : Int).toNat (gi I 75 (x2).toNat)) 75 (((x2 + 1) + 1) : Int).toNat))) 75 ((x2 + 3) : Int).toNat) 8) (gi (si (si I 110 ((6 + x1) : Int).toNat (gi I 75 (x2).toNat)) 111 ((6 + x1) : Int).toNat (or32 (shl32 (gi (si I 110 ((6 + x1) : Int).toNat (gi I 75 (x2).toNat)) 75 ((x2 + 1) : Int).toNat) 8) (gi (si I 110 ((6 + x1) : Int).toNat (gi I 75 (x2).toNat)) 75 (((x2 + 1) + 1) : Int).toNat))) 75 (((x2 + 3) + 1) : Int).toNat))) 113 ((6 + x1) : Int).toNat ((gi I 75 ((x2 + 5) : Int).toNat) - 1)) 75 ((x2 + 6) : Int).toNat) 8) (gi (si (si (si (si I 110 ((6 + x1) : Int).toNat (gi I 75 (x2).toNat)) 111 ((6 + x1) : Int).toNat (or32 (shl32 (gi (si I 110 ((6 + x1) : Int).toNat (gi I 75 (x2).toNat)) 75 ((x2 + 1) : Int).toNat) 8) (gi (si I 110 ((6 + x1) : Int).toNat (gi I 75 (x2).toNat)) 75 (((x2 + 1) + 1) : Int).toNat))) 112 ((6 + x1) : Int).toNat (or32 (shl32 (gi (si (si I 110 ((6 + x1) : Int).toNat (gi I 75 (x2).toNat)) 111 ((6 + x1) : Int).toNat (or32 (shl32 (gi (si I 110 ((6 + x1) : Int).toNat (gi I 75 (x2).toNat)) 75 ((x2 + 1) : Int).toNat) 8) (gi (si I 110 ((6 + x1) : Int).toNat (gi I 75 (x2).toNat)) 75 (((x2 + 1) + 1) : Int).toNat))) 75 ((x2 + 3) : Int).toNat) 8) (gi (si (si I 110 ((6 + x1) : Int).toNat (gi I 75 (x2).toNat)) 111 ((6 + x1) : Int).toNat (or32 (shl32 (gi (si I 110 ((6 + x1) : Int).toNat (gi I 75 (x2).toNat)) 75 ((x2 + 1) : Int).toNat) 8) (gi (si I 110 ((6 + x1) : Int).toNat (gi I 75 (x2).toNat)) 75 (((x2 + 1) + 1) : Int).toNat))) 75 (((x2 + 3) + 1) : Int).toNat))) 113 ((6 + x1) : Int).toNat ((gi I 75 ((x2 + 5) : Int).toNat) - 1)) 75 (((x2 + 6) + 1) : Int).toNat))) 115 ((6 + x1) : Int).toNat (gi I 75 ((x2 + 8) : Int).toNat)) J) Q
        refine st_if_eq (tg := 202) (pc' := 168) dX12_readerOn_165 (by decide) rfl (b2i_in _) (fun c => ?_) (fun c => ?_)
        · replace h := h.1 (b2i_f.mp c)
          refine WP_sub (L' := []) [] rfl ?_
          exact h
        · replace h := h.2 (b2i_t.mp c)
          refine st_aload_n (pc' := 169) dX12_readerOn_168 rfl rfl (j := 2) rfl ?_
          refine G_X12_180_74 dX12_readerOn_169 (pc' := 172) rfl rfl ?_
          refine st_iload (pc' := 174) dX12_readerOn_172 rfl (j := 1) rfl ?_
          refine st_iaload (pc' := 175) (v := (or32 (shl32 (gi (si I 110 ((6 + x1) : Int).toNat (gi I 75 (x2).toNat)) 75 ((x2 + 1) : Int).toNat) 8) (gi (si I 110 ((6 + x1) : Int).toNat (gi I 75 (x2).toNat)) 75 (((x2 + 1) + 1) : Int).toNat))) dX12_readerOn_174 rfl L_111 (by decide) e6 (show gi (si (si (si (si (si (si I 110 ((6 + x1) : Int).toNat (gi I 75 (x2).toNat)) 111 ((6 + x1) : Int).toNat (or32 (shl32 (gi (si I 110 ((6 + x1) : Int).toNat (gi I 75 (x2).toNat)) 75 ((x2 + 1) : Int).toNat) 8) (gi (si I 110 ((6 + x1) : Int).toNat (gi I 75 (x2).toNat)) 75 (((x2 + 1) + 1) : Int).toNat))) 112 ((6 + x1) : Int).toNat (or32 (shl32 (gi (si (si I 110 ((6 + x1) : Int).toNat (gi I 75 (x2).toNat)) 111 ((6 + x1) : Int).toNat (or32 (shl32 (gi (si I 110 ((6 + x1) : Int).toNat (gi I 75 (x2).toNat)) 75 ((x2 + 1) : Int).toNat) 8) (gi (si I 110 ((6 + x1) : Int).toNat (gi I 75 (x2).toNat)) 75 (((x2 + 1) + 1) : Int).toNat))) 75 ((x2 + 3) : Int).toNat) 8) (gi (si (si I 110 ((6 + x1) : Int).toNat (gi I 75 (x2).toNat)) 111 ((6 + x1) : Int).toNat (or32 (shl32 (gi (si I 110 ((6 + x1) : Int).toNat (gi I 75 (x2).toNat)) 75 ((x2 + 1) : Int).toNat) 8) (gi (si I 110 ((6 + x1) : Int).toNat (gi I 75 (x2).toNat)) 75 (((x2 + 1) + 1) : Int).toNat))) 75 (((x2 + 3) + 1) : Int).toNat))) 113 ((6 + x1) : Int).toNat ((gi I 75 ((x2 + 5) : Int).toNat) - 1)) 114 ((6 + x1) : Int).toNat (or32 (shl32 (gi (si (si (si (si I 110 ((6 + x1) : Int).toNat (gi I 75 (x2).toNat)) 111 ((6 + x1) : Int).toNat (or32 (shl32 (gi (si I 110 ((6 + x1) : Int).toNat (gi I 75 (x2).toNat)) 75 ((x2 + 1) : Int).toNat) 8) (gi (si I 110 ((6 + x1) : Int).toNat (gi I 75 (x2).toNat)) 75 (((x2 + 1) + 1) : Int).toNat))) 112 ((6 + x1) : Int).toNat (or32 (shl32 (gi (si (si I 110 ((6 + x1) : Int).toNat (gi I 75 (x2).toNat)) 111 ((6 + x1) : Int).toNat (or32 (shl32 (gi (si I 110 ((6 + x1) : Int).toNat (gi I 75 (x2).toNat)) 75 ((x2 + 1) : Int).toNat) 8) (gi (si I 110 ((6 + x1) : Int).toNat (gi I 75 (x2).toNat)) 75 (((x2 + 1) + 1) : Int).toNat))) 75 ((x2 + 3) : Int).toNat) 8) (gi (si (si I 110 ((6 + x1) : Int).toNat (gi I 75 (x2).toNat)) 111 ((6 + x1) : Int).toNat (or32 (shl32 (gi (si I 110 ((6 + x1) : Int).toNat (gi I 75 (x2).toNat)) 75 ((x2 + 1) : Int).toNat) 8) (gi (si I 110 ((6 + x1) : Int).toNat (gi I 75 (x2).toNat)) 75 (((x2 + 1) + 1) : Int).toNat))) 75 (((x2 + 3) + 1) : Int).toNat))) 113 ((6 + x1) : Int).toNat ((gi I 75 ((x2 + 5) : Int).toNat) - 1)) 75 ((x2 + 6) : Int).toNat) 8) (gi (si (si (si (si I 110 ((6 + x1) : Int).toNat (gi I 75 (x2).toNat)) 111 ((6 + x1) : Int).toNat (or32 (shl32 (gi (si I 110 ((6 + x1) : Int).toNat (gi I 75 (x2).toNat)) 75 ((x2 + 1) : Int).toNat) 8) (gi (si I 110 ((6 + x1) : Int).toNat (gi I 75 (x2).toNat)) 75 (((x2 + 1) + 1) : Int).toNat))) 112 ((6 + x1) : Int).toNat (or32 (shl32 (gi (si (si I 110 ((6 + x1) : Int).toNat (gi I 75 (x2).toNat)) 111 ((6 + x1) : Int).toNat (or32 (shl32 (gi (si I 110 ((6 + x1) : Int).toNat (gi I 75 (x2).toNat)) 75 ((x2 + 1) : Int).toNat) 8) (gi (si I 110 ((6 + x1) : Int).toNat (gi I 75 (x2).toNat)) 75 (((x2 + 1) + 1) : Int).toNat))) 75 ((x2 + 3) : Int).toNat) 8) (gi (si (si I 110 ((6 + x1) : Int).toNat (gi I 75 (x2).toNat)) 111 ((6 + x1) : Int).toNat (or32 (shl32 (gi (si I 110 ((6 + x1) : Int).toNat (gi I 75 (x2).toNat)) 75 ((x2 + 1) : Int).toNat) 8) (gi (si I 110 ((6 + x1) : Int).toNat (gi I 75 (x2).toNat)) 75 (((x2 + 1) + 1) : Int).toNat))) 75 (((x2 + 3) + 1) : Int).toNat))) 113 ((6 + x1) : Int).toNat ((gi I 75 ((x2 + 5) : Int).toNat) - 1)) 75 (((x2 + 6) + 1) : Int).toNat))) 115 ((6 + x1) : Int).toNat (gi I 75 ((x2 + 8) : Int).toNat)) 111 ((6 + x1) : Int).toNat = (or32 (shl32 (gi (si I 110 ((6 + x1) : Int).toNat (gi I 75 (x2).toNat)) 75 ((x2 + 1) : Int).toNat) 8) (gi (si I 110 ((6 + x1) : Int).toNat (gi I 75 (x2).toNat)) 75 (((x2 + 1) + 1) : Int).toNat)) from ((gi_cell _ _ _ _ (by decide)).trans ((gi_cell _ _ _ _ (by decide)).trans ((gi_cell _ _ _ _ (by decide)).trans ((gi_cell _ _ _ _ (by decide)).trans (gi_same _ _ _ (or32_in _ _))))))) ?_
          refine st_aload_n (pc' := 176) dX12_readerOn_175 rfl rfl (j := 2) rfl ?_
          refine G_X12_183_74 dX12_readerOn_176 (pc' := 179) rfl rfl ?_
          refine st_iload (pc' := 181) dX12_readerOn_179 rfl (j := 1) rfl ?_
          refine st_iaload (pc' := 182) (v := (or32 (shl32 (gi (si (si I 110 ((6 + x1) : Int).toNat (gi I 75 (x2).toNat)) 111 ((6 + x1) : Int).toNat (or32 (shl32 (gi (si I 110 ((6 + x1) : Int).toNat (gi I 75 (x2).toNat)) 75 ((x2 + 1) : Int).toNat) 8) (gi (si I 110 ((6 + x1) : Int).toNat (gi I 75 (x2).toNat)) 75 (((x2 + 1) + 1) : Int).toNat))) 75 ((x2 + 3) : Int).toNat) 8) (gi (si (si I 110 ((6 + x1) : Int).toNat (gi I 75 (x2).toNat)) 111 ((6 + x1) : Int).toNat (or32 (shl32 (gi (si I 110 ((6 + x1) : Int).toNat (gi I 75 (x2).toNat)) 75 ((x2 + 1) : Int).toNat) 8) (gi (si I 110 ((6 + x1) : Int).toNat (gi I 75 (x2).toNat)) 75 (((x2 + 1) + 1) : Int).toNat))) 75 (((x2 + 3) + 1) : Int).toNat))) dX12_readerOn_181 rfl L_112 (by decide) e6 (show gi (si (si (si (si (si (si I 110 ((6 + x1) : Int).toNat (gi I 75 (x2).toNat)) 111 ((6 + x1) : Int).toNat (or32 (shl32 (gi (si I 110 ((6 + x1) : Int).toNat (gi I 75 (x2).toNat)) 75 ((x2 + 1) : Int).toNat) 8) (gi (si I 110 ((6 + x1) : Int).toNat (gi I 75 (x2).toNat)) 75 (((x2 + 1) + 1) : Int).toNat))) 112 ((6 + x1) : Int).toNat (or32 (shl32 (gi (si (si I 110 ((6 + x1) : Int).toNat (gi I 75 (x2).toNat)) 111 ((6 + x1) : Int).toNat (or32 (shl32 (gi (si I 110 ((6 + x1) : Int).toNat (gi I 75 (x2).toNat)) 75 ((x2 + 1) : Int).toNat) 8) (gi (si I 110 ((6 + x1) : Int).toNat (gi I 75 (x2).toNat)) 75 (((x2 + 1) + 1) : Int).toNat))) 75 ((x2 + 3) : Int).toNat) 8) (gi (si (si I 110 ((6 + x1) : Int).toNat (gi I 75 (x2).toNat)) 111 ((6 + x1) : Int).toNat (or32 (shl32 (gi (si I 110 ((6 + x1) : Int).toNat (gi I 75 (x2).toNat)) 75 ((x2 + 1) : Int).toNat) 8) (gi (si I 110 ((6 + x1) : Int).toNat (gi I 75 (x2).toNat)) 75 (((x2 + 1) + 1) : Int).toNat))) 75 (((x2 + 3) + 1) : Int).toNat))) 113 ((6 + x1) : Int).toNat ((gi I 75 ((x2 + 5) : Int).toNat) - 1)) 114 ((6 + x1) : Int).toNat (or32 (shl32 (gi (si (si (si (si I 110 ((6 + x1) : Int).toNat (gi I 75 (x2).toNat)) 111 ((6 + x1) : Int).toNat (or32 (shl32 (gi (si I 110 ((6 + x1) : Int).toNat (gi I 75 (x2).toNat)) 75 ((x2 + 1) : Int).toNat) 8) (gi (si I 110 ((6 + x1) : Int).toNat (gi I 75 (x2).toNat)) 75 (((x2 + 1) + 1) : Int).toNat))) 112 ((6 + x1) : Int).toNat (or32 (shl32 (gi (si (si I 110 ((6 + x1) : Int).toNat (gi I 75 (x2).toNat)) 111 ((6 + x1) : Int).toNat (or32 (shl32 (gi (si I 110 ((6 + x1) : Int).toNat (gi I 75 (x2).toNat)) 75 ((x2 + 1) : Int).toNat) 8) (gi (si I 110 ((6 + x1) : Int).toNat (gi I 75 (x2).toNat)) 75 (((x2 + 1) + 1) : Int).toNat))) 75 ((x2 + 3) : Int).toNat) 8) (gi (si (si I 110 ((6 + x1) : Int).toNat (gi I 75 (x2).toNat)) 111 ((6 + x1) : Int).toNat (or32 (shl32 (gi (si I 110 ((6 + x1) : Int).toNat (gi I 75 (x2).toNat)) 75 ((x2 + 1) : Int).toNat) 8) (gi (si I 110 ((6 + x1) : Int).toNat (gi I 75 (x2).toNat)) 75 (((x2 + 1) + 1) : Int).toNat))) 75 (((x2 + 3) + 1) : Int).toNat))) 113 ((6 + x1) : Int).toNat ((gi I 75 ((x2 + 5) : Int).toNat) - 1)) 75 ((x2 + 6) : Int).toNat) 8) (gi (si (si (si (si I 110 ((6 + x1) : Int).toNat (gi I 75 (x2).toNat)) 111 ((6 + x1) : Int).toNat (or32 (shl32 (gi (si I 110 ((6 + x1) : Int).toNat (gi I 75 (x2).toNat)) 75 ((x2 + 1) : Int).toNat) 8) (gi (si I 110 ((6 + x1) : Int).toNat (gi I 75 (x2).toNat)) 75 (((x2 + 1) + 1) : Int).toNat))) 112 ((6 + x1) : Int).toNat (or32 (shl32 (gi (si (si I 110 ((6 + x1) : Int).toNat (gi I 75 (x2).toNat)) 111 ((6 + x1) : Int).toNat (or32 (shl32 (gi (si I 110 ((6 + x1) : Int).toNat (gi I 75 (x2).toNat)) 75 ((x2 + 1) : Int).toNat) 8) (gi (si I 110 ((6 + x1) : Int).toNat (gi I 75 (x2).toNat)) 75 (((x2 + 1) + 1) : Int).toNat))) 75 ((x2 + 3) : Int).toNat) 8) (gi (si (si I 110 ((6 + x1) : Int).toNat (gi I 75 (x2).toNat)) 111 ((6 + x1) : Int).toNat (or32 (shl32 (gi (si I 110 ((6 + x1) : Int).toNat (gi I 75 (x2).toNat)) 75 ((x2 + 1) : Int).toNat) 8) (gi (si I 110 ((6 + x1) : Int).toNat (gi I 75 (x2).toNat)) 75 (((x2 + 1) + 1) : Int).toNat))) 75 (((x2 + 3) + 1) : Int).toNat))) 113 ((6 + x1) : Int).toNat ((gi I 75 ((x2 + 5) : Int).toNat) - 1)) 75 (((x2 + 6) + 1) : Int).toNat))) 115 ((6 + x1) : Int).toNat (gi I 75 ((x2 + 8) : Int).toNat)) 112 ((6 + x1) : Int).toNat = (or32 (shl32 (gi (si (si I 110 ((6 + x1) : Int).toNat (gi I 75 (x2).toNat)) 111 ((6 + x1) : Int).toNat (or32 (shl32 (gi (si I 110 ((6 + x1) : Int).toNat (gi I 75 (x2).toNat)) 75 ((x2 + 1) : Int).toNat) 8) (gi (si I 110 ((6 + x1) : Int).toNat (gi I 75 (x2).toNat)) 75 (((x2 + 1) + 1) : Int).toNat))) 75 ((x2 + 3) : Int).toNat) 8) (gi (si (si I 110 ((6 + x1) : Int).toNat (gi I 75 (x2).toNat)) 111 ((6 + x1) : Int).toNat (or32 (shl32 (gi (si I 110 ((6 + x1) : Int).toNat (gi I 75 (x2).toNat)) 75 ((x2 + 1) : Int).toNat) 8) (gi (si I 110 ((6 + x1) : Int).toNat (gi I 75 (x2).toNat)) 75 (((x2 + 1) + 1) : Int).toNat))) 75 (((x2 + 3) + 1) : Int).toNat)) from ((gi_cell _ _ _ _ (by decide)).trans ((gi_cell _ _ _ _ (by decide)).trans ((gi_cell _ _ _ _ (by decide)).trans (gi_same _ _ _ (or32_in _ _)))))) ?_
          refine st_iand (pc' := 183) (z := (and32 (or32 (shl32 (gi (si I 110 ((6 + x1) : Int).toNat (gi I 75 (x2).toNat)) 75 ((x2 + 1) : Int).toNat) 8) (gi (si I 110 ((6 + x1) : Int).toNat (gi I 75 (x2).toNat)) 75 (((x2 + 1) + 1) : Int).toNat)) (or32 (shl32 (gi (si (si I 110 ((6 + x1) : Int).toNat (gi I 75 (x2).toNat)) 111 ((6 + x1) : Int).toNat (or32 (shl32 (gi (si I 110 ((6 + x1) : Int).toNat (gi I 75 (x2).toNat)) 75 ((x2 + 1) : Int).toNat) 8) (gi (si I 110 ((6 + x1) : Int).toNat (gi I 75 (x2).toNat)) 75 (((x2 + 1) + 1) : Int).toNat))) 75 ((x2 + 3) : Int).toNat) 8) (gi (si (si I 110 ((6 + x1) : Int).toNat (gi I 75 (x2).toNat)) 111 ((6 + x1) : Int).toNat (or32 (shl32 (gi (si I 110 ((6 + x1) : Int).toNat (gi I 75 (x2).toNat)) 75 ((x2 + 1) : Int).toNat) 8) (gi (si I 110 ((6 + x1) : Int).toNat (gi I 75 (x2).toNat)) 75 (((x2 + 1) + 1) : Int).toNat))) 75 (((x2 + 3) + 1) : Int).toNat)))) dX12_readerOn_182 rfl rfl ?_
          refine st_if_ne (tg := 202) (pc' := 186) dX12_readerOn_183 (by decide) rfl (and32_in _ _) (fun c => ?_) (fun c => ?_)
          · replace h := h.1 c
            refine WP_sub (L' := []) [] rfl ?_
            exact h
          · replace h := h.2 c
            refine st_iload (pc' := 188) dX12_readerOn_186 rfl (j := 0) rfl ?_
            refine st_iconst (pc' := 189) dX12_readerOn_188 rfl ?_
            refine st_aload_n (pc' := 190) dX12_readerOn_189 rfl rfl (j := 2) rfl ?_
            refine G_X12_57_74 dX12_readerOn_190 (pc' := 193) rfl rfl ?_
            refine st_aload_n (pc' := 194) dX12_readerOn_193 rfl rfl (j := 2) rfl ?_
            refine G_X12_51_74 dX12_readerOn_194 (pc' := 197) rfl rfl ?_
            rw [show gi (si (si (si (si (si (si I 110 ((6 + x1) : Int).toNat (gi I 75 (x2).toNat)) 111 ((6 + x1) : Int).toNat (or32 (shl32 (gi (si I 110 ((6 + x1) : Int).toNat (gi I 75 (x2).toNat)) 75 ((x2 + 1) : Int).toNat) 8) (gi (si I 110 ((6 + x1) : Int).toNat (gi I 75 (x2).toNat)) 75 (((x2 + 1) + 1) : Int).toNat))) 112 ((6 + x1) : Int).toNat (or32 (shl32 (gi (si (si I 110 ((6 + x1) : Int).toNat (gi I 75 (x2).toNat)) 111 ((6 + x1) : Int).toNat (or32 (shl32 (gi (si I 110 ((6 + x1) : Int).toNat (gi I 75 (x2).toNat)) 75 ((x2 + 1) : Int).toNat) 8) (gi (si I 110 ((6 + x1) : Int).toNat (gi I 75 (x2).toNat)) 75 (((x2 + 1) + 1) : Int).toNat))) 75 ((x2 + 3) : Int).toNat) 8) (gi (si (si I 110 ((6 + x1) : Int).toNat (gi I 75 (x2).toNat)) 111 ((6 + x1) : Int).toNat (or32 (shl32 (gi (si I 110 ((6 + x1) : Int).toNat (gi I 75 (x2).toNat)) 75 ((x2 + 1) : Int).toNat) 8) (gi (si I 110 ((6 + x1) : Int).toNat (gi I 75 (x2).toNat)) 75 (((x2 + 1) + 1) : Int).toNat))) 75 (((x2 + 3) + 1) : Int).toNat))) 113 ((6 + x1) : Int).toNat ((gi I 75 ((x2 + 5) : Int).toNat) - 1)) 114 ((6 + x1) : Int).toNat (or32 (shl32 (gi (si (si (si (si I 110 ((6 + x1) : Int).toNat (gi I 75 (x2).toNat)) 111 ((6 + x1) : Int).toNat (or32 (shl32 (gi (si I 110 ((6 + x1) : Int).toNat (gi I 75 (x2).toNat)) 75 ((x2 + 1) : Int).toNat) 8) (gi (si I 110 ((6 + x1) : Int).toNat (gi I 75 (x2).toNat)) 75 (((x2 + 1) + 1) : Int).toNat))) 112 ((6 + x1) : Int).toNat (or32 (shl32 (gi (si (si I 110 ((6 + x1) : Int).toNat (gi I 75 (x2).toNat)) 111 ((6 + x1) : Int).toNat (or32 (shl32 (gi (si I 110 ((6 + x1) : Int).toNat (gi I 75 (x2).toNat)) 75 ((x2 + 1) : Int).toNat) 8) (gi (si I 110 ((6 + x1) : Int).toNat (gi I 75 (x2).toNat)) 75 (((x2 + 1) + 1) : Int).toNat))) 75 ((x2 + 3) : Int).toNat) 8) (gi (si (si I 110 ((6 + x1) : Int).toNat (gi I 75 (x2).toNat)) 111 ((6 + x1) : Int).toNat (or32 (shl32 (gi (si I 110 ((6 + x1) : Int).toNat (gi I 75 (x2).toNat)) 75 ((x2 + 1) : Int).toNat) 8) (gi (si I 110 ((6 + x1) : Int).toNat (gi I 75 (x2).toNat)) 75 (((x2 + 1) + 1) : Int).toNat))) 75 (((x2 + 3) + 1) : Int).toNat))) 113 ((6 + x1) : Int).toNat ((gi I 75 ((x2 + 5) : Int).toNat) - 1)) 75 ((x2 + 6) : Int).toNat) 8) (gi (si (si (si (si I 110 ((6 + x1) : Int).toNat (gi I 75 (x2).toNat)) 111 ((6 + x1) : Int).toNat (or32 (shl32 (gi (si I 110 ((6 + x1) : Int).toNat (gi I 75 (x2).toNat)) 75 ((x2 + 1) : Int).toNat) 8) (gi (si I 110 ((6 + x1) : Int).toNat (gi I 75 (x2).toNat)) 75 (((x2 + 1) + 1) : Int).toNat))) 112 ((6 + x1) : Int).toNat (or32 (shl32 (gi (si (si I 110 ((6 + x1) : Int).toNat (gi I 75 (x2).toNat)) 111 ((6 + x1) : Int).toNat (or32 (shl32 (gi (si I 110 ((6 + x1) : Int).toNat (gi I 75 (x2).toNat)) 75 ((x2 + 1) : Int).toNat) 8) (gi (si I 110 ((6 + x1) : Int).toNat (gi I 75 (x2).toNat)) 75 (((x2 + 1) + 1) : Int).toNat))) 75 ((x2 + 3) : Int).toNat) 8) (gi (si (si I 110 ((6 + x1) : Int).toNat (gi I 75 (x2).toNat)) 111 ((6 + x1) : Int).toNat (or32 (shl32 (gi (si I 110 ((6 + x1) : Int).toNat (gi I 75 (x2).toNat)) 75 ((x2 + 1) : Int).toNat) 8) (gi (si I 110 ((6 + x1) : Int).toNat (gi I 75 (x2).toNat)) 75 (((x2 + 1) + 1) : Int).toNat))) 75 (((x2 + 3) + 1) : Int).toNat))) 113 ((6 + x1) : Int).toNat ((gi I 75 ((x2 + 5) : Int).toNat) - 1)) 75 (((x2 + 6) + 1) : Int).toNat))) 115 ((6 + x1) : Int).toNat (gi I 75 ((x2 + 8) : Int).toNat)) 74 13 = (gi I 74 13) from ((gi_cell _ _ _ _ (by decide)).trans ((gi_cell _ _ _ _ (by decide)).trans ((gi_cell _ _ _ _ (by decide)).trans ((gi_cell _ _ _ _ (by decide)).trans ((gi_cell _ _ _ _ (by decide)).trans (gi_cell _ _ _ _ (by decide)))))))]
            obtain ⟨e16, h⟩ := h
            refine st_iaload (pc' := 198) (v := (gi I 77 (gi I 74 13).toNat)) dX12_readerOn_197 rfl L_77 (by decide) e16 (show gi (si (si (si (si (si (si I 110 ((6 + x1) : Int).toNat (gi I 75 (x2).toNat)) 111 ((6 + x1) : Int).toNat (or32 (shl32 (gi (si I 110 ((6 + x1) : Int).toNat (gi I 75 (x2).toNat)) 75 ((x2 + 1) : Int).toNat) 8) (gi (si I 110 ((6 + x1) : Int).toNat (gi I 75 (x2).toNat)) 75 (((x2 + 1) + 1) : Int).toNat))) 112 ((6 + x1) : Int).toNat (or32 (shl32 (gi (si (si I 110 ((6 + x1) : Int).toNat (gi I 75 (x2).toNat)) 111 ((6 + x1) : Int).toNat (or32 (shl32 (gi (si I 110 ((6 + x1) : Int).toNat (gi I 75 (x2).toNat)) 75 ((x2 + 1) : Int).toNat) 8) (gi (si I 110 ((6 + x1) : Int).toNat (gi I 75 (x2).toNat)) 75 (((x2 + 1) + 1) : Int).toNat))) 75 ((x2 + 3) : Int).toNat) 8) (gi (si (si I 110 ((6 + x1) : Int).toNat (gi I 75 (x2).toNat)) 111 ((6 + x1) : Int).toNat (or32 (shl32 (gi (si I 110 ((6 + x1) : Int).toNat (gi I 75 (x2).toNat)) 75 ((x2 + 1) : Int).toNat) 8) (gi (si I 110 ((6 + x1) : Int).toNat (gi I 75 (x2).toNat)) 75 (((x2 + 1) + 1) : Int).toNat))) 75 (((x2 + 3) + 1) : Int).toNat))) 113 ((6 + x1) : Int).toNat ((gi I 75 ((x2 + 5) : Int).toNat) - 1)) 114 ((6 + x1) : Int).toNat (or32 (shl32 (gi (si (si (si (si I 110 ((6 + x1) : Int).toNat (gi I 75 (x2).toNat)) 111 ((6 + x1) : Int).toNat (or32 (shl32 (gi (si I 110 ((6 + x1) : Int).toNat (gi I 75 (x2).toNat)) 75 ((x2 + 1) : Int).toNat) 8) (gi (si I 110 ((6 + x1) : Int).toNat (gi I 75 (x2).toNat)) 75 (((x2 + 1) + 1) : Int).toNat))) 112 ((6 + x1) : Int).toNat (or32 (shl32 (gi (si (si I 110 ((6 + x1) : Int).toNat (gi I 75 (x2).toNat)) 111 ((6 + x1) : Int).toNat (or32 (shl32 (gi (si I 110 ((6 + x1) : Int).toNat (gi I 75 (x2).toNat)) 75 ((x2 + 1) : Int).toNat) 8) (gi (si I 110 ((6 + x1) : Int).toNat (gi I 75 (x2).toNat)) 75 (((x2 + 1) + 1) : Int).toNat))) 75 ((x2 + 3) : Int).toNat) 8) (gi (si (si I 110 ((6 + x1) : Int).toNat (gi I 75 (x2).toNat)) 111 ((6 + x1) : Int).toNat (or32 (shl32 (gi (si I 110 ((6 + x1) : Int).toNat (gi I 75 (x2).toNat)) 75 ((x2 + 1) : Int).toNat) 8) (gi (si I 110 ((6 + x1) : Int).toNat (gi I 75 (x2).toNat)) 75 (((x2 + 1) + 1) : Int).toNat))) 75 (((x2 + 3) + 1) : Int).toNat))) 113 ((6 + x1) : Int).toNat ((gi I 75 ((x2 + 5) : Int).toNat) - 1)) 75 ((x2 + 6) : Int).toNat) 8) (gi (si (si (si (si I 110 ((6 + x1) : Int).toNat (gi I 75 (x2).toNat)) 111 ((6 + x1) : Int).toNat (or32 (shl32 (gi (si I 110 ((6 + x1) : Int).toNat (gi I 75 (x2).toNat)) 75 ((x2 + 1) : Int).toNat) 8) (gi (si I 110 ((6 + x1) : Int).toNat (gi I 75 (x2).toNat)) 75 (((x2 + 1) + 1) : Int).toNat))) 112 ((6 + x1) : Int).toNat (or32 (shl32 (gi (si (si I 110 ((6 + x1) : Int).toNat (gi I 75 (x2).toNat)) 111 ((6 + x1) : Int).toNat (or32 (shl32 (gi (si I 110 ((6 + x1) : Int).toNat (gi I 75 (x2).toNat)) 75 ((x2 + 1) : Int).toNat) 8) (gi (si I 110 ((6 + x1) : Int).toNat (gi I 75 (x2).toNat)) 75 (((x2 + 1) + 1) : Int).toNat))) 75 ((x2 + 3) : Int).toNat) 8) (gi (si (si I 110 ((6 + x1) : Int).toNat (gi I 75 (x2).toNat)) 111 ((6 + x1) : Int).toNat (or32 (shl32 (gi (si I 110 ((6 + x1) : Int).toNat (gi I 75 (x2).toNat)) 75 ((x2 + 1) : Int).toNat) 8) (gi (si I 110 ((6 + x1) : Int).toNat (gi I 75 (x2).toNat)) 75 (((x2 + 1) + 1) : Int).toNat))) 75 (((x2 + 3) + 1) : Int).toNat))) 113 ((6 + x1) : Int).toNat ((gi I 75 ((x2 + 5) : Int).toNat) - 1)) 75 (((x2 + 6) + 1) : Int).toNat))) 115 ((6 + x1) : Int).toNat (gi I 75 ((x2 + 8) : Int).toNat)) 77 (gi I 74 13).toNat = (gi I 77 (gi I 74 13).toNat) from ((gi_cell _ _ _ _ (by decide)).trans ((gi_cell _ _ _ _ (by decide)).trans ((gi_cell _ _ _ _ (by decide)).trans ((gi_cell _ _ _ _ (by decide)).trans ((gi_cell _ _ _ _ (by decide)).trans (gi_cell _ _ _ _ (by decide)))))))) ?_
            refine st_ishl (pc' := 199) (z := (shl32 1 (gi I 77 (gi I 74 13).toNat))) dX12_readerOn_198 rfl rfl ?_
            refine st_icmp_lt (tg := 204) (pc' := 202) dX12_readerOn_199 (by decide) rfl (by rw [hy14]; exact (or32_in _ _)) (shl32_in _ _) (fun c => ?_) (fun c => ?_)
            · replace h := h.1 c
              refine st_iconst (pc' := 205) dX12_readerOn_204 rfl ?_
              refine st_istore (pc' := 207) (L' := [(6, vI 0), (5, vI y14), (4, vI (6 + x1)), (0, vR (some 74)), (1, vI x1), (2, vI x2), (3, vI x3)]) dX12_readerOn_205 rfl (by decide) rfl ?_
              refine st_iconst (pc' := 208) dX12_readerOn_207 rfl ?_
              refine st_istore (pc' := 210) (L' := [(7, vI 0), (6, vI 0), (5, vI y14), (4, vI (6 + x1)), (0, vR (some 74)), (1, vI x1), (2, vI x2), (3, vI x3)]) dX12_readerOn_208 rfl (by decide) rfl ?_
              refine WP_sub (L' := [(0, vR (some 74)), (2, vI x2), (4, vI (6 + x1)), (5, vI y14), (6, vI 0), (7, vI 0)]) [4, 6, 3, 2, 1, 0] rfl ?_
              exact h
            · replace h := h.2 c
              refine WP_sub (L' := []) [] rfl ?_
              exact h
      · replace h := h.2 c
        refine st_iconst (pc' := 41) dX12_readerOn_40 rfl ?_
        exact st_iret (ty := .int) dX12_readerOn_41 rfl rfl rfl h
set_option maxRecDepth 20000 in
set_option maxHeartbeats 4000000 in
theorem B_X12_readerOn_202 {k : Nat} {P : Option Nat} {I : Nat → Nat → Int32} {J : Nat → Nat → Int64}  {Q : Option AV → Mem → Prop} (hk : 0 ≤ k) (h : Q (some (vI (-1))) (mem (P, some 5, some 22) I J)) : WP k LAY m_X12_readerOn 202 [] [] (mem (P, some 5, some 22) I J) Q := by
  refine st_iconst (pc' := 203) dX12_readerOn_202 rfl ?_
  exact st_iret (ty := .int) dX12_readerOn_203 rfl rfl rfl h
set_option maxRecDepth 20000 in
set_option maxHeartbeats 4000000 in
theorem B_X12_readerOn_210 {k : Nat} {P : Option Nat} {I : Nat → Nat → Int32} {J : Nat → Nat → Int64} {x2 : Int} {x4 : Int} {x5 : Int} {x6 : Int} {x7 : Int} {Q : Option AV → Mem → Prop} (hk : 1 ≤ k) (h : (0 ≤ x4 ∧ x4 < 132) ∧ (inR x7 ∧ (((gi I 115 (x4).toNat) ≤ x7 → ((¬ (gi I 113 (x4).toNat) = (-1) → ((30 < (gi I 113 (x4).toNat) → (Q (some (vI (-1))) (mem (P, some 5, some 22) I J))) ∧ (¬ 30 < (gi I 113 (x4).toNat) → ((¬ (and32 (shr32 x6 (gi I 113 (x4).toNat)) 1 = 1) → (Q (some (vI (-1))) (mem (P, some 5, some 22) I J))) ∧ ((and32 (shr32 x6 (gi I 113 (x4).toNat)) 1 = 1) → (((1 ≤ (gi I 114 (x4).toNat) ∧ (gi I 114 (x4).toNat) ≤ 499) → (WP k LAY m_X12_readerOn 360 [(0, vR (some 74)), (2, vI x2), (4, vI x4)] [] (mem (P, some 5, some 22) I J) Q)) ∧ (¬ (1 ≤ (gi I 114 (x4).toNat) ∧ (gi I 114 (x4).toNat) ≤ 499) → (Q (some (vI (-1))) (mem (P, some 5, some 22) I J))))))))) ∧ ((gi I 113 (x4).toNat) = (-1) → (((gi I 114 (x4).toNat) = 0 → (WP k LAY m_X12_readerOn 360 [(0, vR (some 74)), (2, vI x2), (4, vI x4)] [] (mem (P, some 5, some 22) I J) Q)) ∧ (¬ (gi I 114 (x4).toNat) = 0 → (Q (some (vI (-1))) (mem (P, some 5, some 22) I J))))))) ∧ (¬ (gi I 115 (x4).toNat) ≤ x7 → ((0 ≤ ((x2 + 9) + x7) ∧ ((x2 + 9) + x7) < 1800) ∧ ((0 ≤ (gi I 74 13) ∧ (gi I 74 13) < 2) ∧ ((¬ (0 ≤ (gi I 75 (((x2 + 9) + x7) : Int).toNat) ∧ (gi I 75 (((x2 + 9) + x7) : Int).toNat) < gi I 77 (gi I 74 13).toNat) → (WP k LAY m_X12_readerOn 258 [] [] (mem (P, some 5, some 22) I J) Q)) ∧ ((0 ≤ (gi I 75 (((x2 + 9) + x7) : Int).toNat) ∧ (gi I 75 (((x2 + 9) + x7) : Int).toNat) < gi I 77 (gi I 74 13).toNat) → ((¬ (and32 (shr32 (or32 x5 x6) (gi I 75 (((x2 + 9) + x7) : Int).toNat)) 1 = 1) → ((0 ≤ ((8 * x4) + x7) ∧ ((8 * x4) + x7) < 1056) ∧ (WP k LAY m_X12_readerOn 210 [(0, vR (some 74)), (2, vI x2), (4, vI x4), (5, vI x5), (6, vI (or32 x6 (shl32 1 (gi I 75 (((x2 + 9) + x7) : Int).toNat)))), (7, vI (x7 + 1))] [] (mem (P, some 5, some 22) (si I 116 (((8 * x4) + x7) : Int).toNat (gi I 75 (((x2 + 9) + x7) : Int).toNat)) J) Q))) ∧ ((and32 (shr32 (or32 x5 x6) (gi I 75 (((x2 + 9) + x7) : Int).toNat)) 1 = 1) → (WP k LAY m_X12_readerOn 258 [] [] (mem (P, some 5, some 22) I J) Q))))))))))) : WP k LAY m_X12_readerOn 210 [(0, vR (some 74)), (2, vI x2), (4, vI x4), (5, vI x5), (6, vI x6), (7, vI x7)] [] (mem (P, some 5, some 22) I J) Q := by
  refine st_iload (pc' := 212) dX12_readerOn_210 rfl (j := 5) rfl ?_
  refine st_aload_n (pc' := 213) dX12_readerOn_212 rfl rfl (j := 0) rfl ?_
  refine G_X12_192_74 dX12_readerOn_213 (pc' := 216) rfl rfl ?_
  refine st_iload (pc' := 218) dX12_readerOn_216 rfl (j := 2) rfl ?_
  obtain ⟨e1, h⟩ := h
  refine st_iaload (pc' := 219) (v := (gi I 115 (x4).toNat)) dX12_readerOn_218 rfl L_115 (by decide) e1 (show gi I 115 (x4).toNat = (gi I 115 (x4).toNat) from rfl) ?_
  obtain ⟨e2, h⟩ := h
  refine st_icmp_ge (tg := 290) (pc' := 222) dX12_readerOn_219 (by decide) rfl e2 (gi_in _ _ _) (fun c => ?_) (fun c => ?_)
  · replace h := h.1 c
    refine st_aload_n (pc' := 291) dX12_readerOn_290 rfl rfl (j := 0) rfl ?_
    refine G_X12_186_74 dX12_readerOn_291 (pc' := 294) rfl rfl ?_
    refine st_iload (pc' := 296) dX12_readerOn_294 rfl (j := 2) rfl ?_
    refine st_iaload (pc' := 297) (v := (gi I 113 (x4).toNat)) dX12_readerOn_296 rfl L_113 (by decide) e1 (show gi I 113 (x4).toNat = (gi I 113 (x4).toNat) from rfl) ?_
    refine st_iconst (pc' := 298) dX12_readerOn_297 rfl ?_
    refine st_icmp_ne (tg := 314) (pc' := 301) dX12_readerOn_298 (by decide) rfl (gi_in _ _ _) (by decide) (fun c => ?_) (fun c => ?_)
    · replace h := h.1 c
      refine st_aload_n (pc' := 315) dX12_readerOn_314 rfl rfl (j := 0) rfl ?_
      refine G_X12_186_74 dX12_readerOn_315 (pc' := 318) rfl rfl ?_
      refine st_iload (pc' := 320) dX12_readerOn_318 rfl (j := 2) rfl ?_
      refine st_iaload (pc' := 321) (v := (gi I 113 (x4).toNat)) dX12_readerOn_320 rfl L_113 (by decide) e1 (show gi I 113 (x4).toNat = (gi I 113 (x4).toNat) from rfl) ?_
      refine st_bipush (pc' := 323) dX12_readerOn_321 rfl (by decide) ?_
      refine st_icmp_gt (tg := 358) (pc' := 326) dX12_readerOn_323 (by decide) rfl (gi_in _ _ _) (by decide) (fun c => ?_) (fun c => ?_)
      · replace h := h.1 c
        refine st_iconst (pc' := 359) dX12_readerOn_358 rfl ?_
        exact st_iret (ty := .int) dX12_readerOn_359 rfl rfl rfl h
      · replace h := h.2 c
        refine st_iload (pc' := 328) dX12_readerOn_326 rfl (j := 4) rfl ?_
        refine st_aload_n (pc' := 329) dX12_readerOn_328 rfl rfl (j := 0) rfl ?_
        refine G_X12_186_74 dX12_readerOn_329 (pc' := 332) rfl rfl ?_
        refine st_iload (pc' := 334) dX12_readerOn_332 rfl (j := 2) rfl ?_
        refine st_iaload (pc' := 335) (v := (gi I 113 (x4).toNat)) dX12_readerOn_334 rfl L_113 (by decide) e1 (show gi I 113 (x4).toNat = (gi I 113 (x4).toNat) from rfl) ?_
        refine st_callS (pc' := 338) (kc := k - 1) (E' := LAY) (cal := m_X12_has) (n := 2) (as := [vI x6, vI (gi I 113 (x4).toNat)]) (S := []) dX12_readerOn_335 rfl l_X12_552 k_X12_has rfl rfl (Nat.le_of_ble_eq_true rfl) (by omega) ⟨Nat.le_refl _, Nat.le_refl _, Nat.le_refl _, Nat.le_refl _⟩ (Q1 := fun r M' => WP k LAY m_X12_readerOn 338 [(0, vR (some 74)), (2, vI x2), (4, vI x4), (5, vI x5), (6, vI x6), (7, vI x7)] (r.toList ++ []) M' Q) (S_X12_has (by omega)  ?_) (fun r M' q => q)
        change WP _ LAY m_X12_readerOn 338 [(0, vR (some 74)), (2, vI x2), (4, vI x4), (5, vI x5), (6, vI x6), (7, vI x7)] [vI (b2i (and32 (shr32 x6 (gi I 113 (x4).toNat)) 1 = 1))] (mem (P, some 5, some 22) I J) Q
        refine st_if_eq (tg := 358) (pc' := 341) dX12_readerOn_338 (by decide) rfl (b2i_in _) (fun c => ?_) (fun c => ?_)
        · replace h := h.1 (b2i_f.mp c)
          refine st_iconst (pc' := 359) dX12_readerOn_358 rfl ?_
          exact st_iret (ty := .int) dX12_readerOn_359 rfl rfl rfl h
        · replace h := h.2 (b2i_t.mp c)
          refine st_aload_n (pc' := 342) dX12_readerOn_341 rfl rfl (j := 0) rfl ?_
          refine G_X12_189_74 dX12_readerOn_342 (pc' := 345) rfl rfl ?_
          refine st_iload (pc' := 347) dX12_readerOn_345 rfl (j := 2) rfl ?_
          refine st_iaload (pc' := 348) (v := (gi I 114 (x4).toNat)) dX12_readerOn_347 rfl L_114 (by decide) e1 (show gi I 114 (x4).toNat = (gi I 114 (x4).toNat) from rfl) ?_
          refine st_iconst (pc' := 349) dX12_readerOn_348 rfl ?_
          refine st_sipush (pc' := 352) dX12_readerOn_349 rfl (by decide) ?_
          refine st_callS (pc' := 355) (kc := k - 1) (E' := LAY) (cal := m_X12_is) (n := 3) (as := [vI (gi I 114 (x4).toNat), vI 1, vI 499]) (S := []) dX12_readerOn_352 rfl l_X12_369 k_X12_is rfl rfl (Nat.le_of_ble_eq_true rfl) (by omega) ⟨Nat.le_refl _, Nat.le_refl _, Nat.le_refl _, Nat.le_refl _⟩ (Q1 := fun r M' => WP k LAY m_X12_readerOn 355 [(0, vR (some 74)), (2, vI x2), (4, vI x4), (5, vI x5), (6, vI x6), (7, vI x7)] (r.toList ++ []) M' Q) (S_X12_is (by omega) (gi_in _ _ _) (by decide) (by decide) ?_) (fun r M' q => q)
          change WP _ LAY m_X12_readerOn 355 [(0, vR (some 74)), (2, vI x2), (4, vI x4), (5, vI x5), (6, vI x6), (7, vI x7)] [vI (b2i (1 ≤ (gi I 114 (x4).toNat) ∧ (gi I 114 (x4).toNat) ≤ 499))] (mem (P, some 5, some 22) I J) Q
          refine st_if_ne (tg := 360) (pc' := 358) dX12_readerOn_355 (by decide) rfl (b2i_in _) (fun c => ?_) (fun c => ?_)
          · replace h := h.1 (b2i_t.mp c)
            refine WP_sub (L' := [(0, vR (some 74)), (2, vI x2), (4, vI x4)]) [0, 1, 2] rfl ?_
            exact h
          · replace h := h.2 (b2i_f.mp c)
            refine st_iconst (pc' := 359) dX12_readerOn_358 rfl ?_
            exact st_iret (ty := .int) dX12_readerOn_359 rfl rfl rfl h
    · replace h := h.2 c
      refine st_aload_n (pc' := 302) dX12_readerOn_301 rfl rfl (j := 0) rfl ?_
      refine G_X12_189_74 dX12_readerOn_302 (pc' := 305) rfl rfl ?_
      refine st_iload (pc' := 307) dX12_readerOn_305 rfl (j := 2) rfl ?_
      refine st_iaload (pc' := 308) (v := (gi I 114 (x4).toNat)) dX12_readerOn_307 rfl L_114 (by decide) e1 (show gi I 114 (x4).toNat = (gi I 114 (x4).toNat) from rfl) ?_
      refine st_if_eq (tg := 360) (pc' := 311) dX12_readerOn_308 (by decide) rfl (gi_in _ _ _) (fun c => ?_) (fun c => ?_)
      · replace h := h.1 c
        refine WP_sub (L' := [(0, vR (some 74)), (2, vI x2), (4, vI x4)]) [0, 1, 2] rfl ?_
        exact h
      · replace h := h.2 c
        refine st_goto (pc' := 358) dX12_readerOn_311 (by decide) ?_
        refine st_iconst (pc' := 359) dX12_readerOn_358 rfl ?_
        exact st_iret (ty := .int) dX12_readerOn_359 rfl rfl rfl h
  · replace h := h.2 c
    refine st_aload_n (pc' := 223) dX12_readerOn_222 rfl rfl (j := 0) rfl ?_
    refine G_X12_7_74 dX12_readerOn_223 (pc' := 226) rfl rfl ?_
    refine st_iload_n (pc' := 227) dX12_readerOn_226 rfl rfl (j := 1) rfl ?_
    refine st_bipush (pc' := 229) dX12_readerOn_227 rfl (by decide) ?_
    refine st_iadd (pc' := 230) dX12_readerOn_229 rfl ?_
    refine st_iload (pc' := 232) dX12_readerOn_230 rfl (j := 5) rfl ?_
    refine st_iadd (pc' := 233) dX12_readerOn_232 rfl ?_
    obtain ⟨e3, h⟩ := h
    refine st_iaload (pc' := 234) (v := (gi I 75 (((x2 + 9) + x7) : Int).toNat)) dX12_readerOn_233 rfl L_75 (by decide) e3 (show gi I 75 (((x2 + 9) + x7) : Int).toNat = (gi I 75 (((x2 + 9) + x7) : Int).toNat) from rfl) ?_
    refine st_istore (pc' := 236) (L' := [(8, vI (gi I 75 (((x2 + 9) + x7) : Int).toNat)), (0, vR (some 74)), (2, vI x2), (4, vI x4), (5, vI x5), (6, vI x6), (7, vI x7)]) dX12_readerOn_234 rfl (by decide) rfl ?_
    refine st_aload_n (pc' := 237) dX12_readerOn_236 rfl rfl (j := 1) rfl ?_
    refine st_iload (pc' := 239) dX12_readerOn_237 rfl (j := 0) rfl ?_
    obtain ⟨e4, h⟩ := h
    refine st_callV (pc' := 242) (kc := k - 1) (E' := LAY) (cal := m_X12_isPage) (n := 1) (as := [vI (gi I 75 (((x2 + 9) + x7) : Int).toNat)]) (S := []) dX12_readerOn_239 rfl l_X12_556 k_X12_isPage rfl L_74 c_X12 rfl rfl (Nat.le_of_ble_eq_true rfl) (by omega) ⟨Nat.le_refl _, Nat.le_refl _, Nat.le_refl _, Nat.le_refl _⟩ (Q1 := fun r M' => WP k LAY m_X12_readerOn 242 [(8, vI (gi I 75 (((x2 + 9) + x7) : Int).toNat)), (0, vR (some 74)), (2, vI x2), (4, vI x4), (5, vI x5), (6, vI x6), (7, vI x7)] (r.toList ++ []) M' Q) (S_X12_isPage (by omega) e4 (gi_in _ _ _) ?_) (fun r M' q => q)
    change WP _ LAY m_X12_readerOn 242 [(8, vI (gi I 75 (((x2 + 9) + x7) : Int).toNat)), (0, vR (some 74)), (2, vI x2), (4, vI x4), (5, vI x5), (6, vI x6), (7, vI x7)] [vI (b2i (0 ≤ (gi I 75 (((x2 + 9) + x7) : Int).toNat) ∧ (gi I 75 (((x2 + 9) + x7) : Int).toNat) < gi I 77 (gi I 74 13).toNat))] (mem (P, some 5, some 22) I J) Q
    refine st_if_eq (tg := 258) (pc' := 245) dX12_readerOn_242 (by decide) rfl (b2i_in _) (fun c => ?_) (fun c => ?_)
    · replace h := h.1 (b2i_f.mp c)
      refine WP_sub (L' := []) [] rfl ?_
      exact h
    · replace h := h.2 (b2i_t.mp c)
      refine st_iload (pc' := 247) dX12_readerOn_245 rfl (j := 4) rfl ?_
      refine st_iload (pc' := 249) dX12_readerOn_247 rfl (j := 5) rfl ?_
      refine st_ior (pc' := 250) (z := (or32 x5 x6)) dX12_readerOn_249 rfl rfl ?_
      refine st_iload (pc' := 252) dX12_readerOn_250 rfl (j := 0) rfl ?_
      refine st_callS (pc' := 255) (kc := k - 1) (E' := LAY) (cal := m_X12_has) (n := 2) (as := [vI (or32 x5 x6), vI (gi I 75 (((x2 + 9) + x7) : Int).toNat)]) (S := []) dX12_readerOn_252 rfl l_X12_552 k_X12_has rfl rfl (Nat.le_of_ble_eq_true rfl) (by omega) ⟨Nat.le_refl _, Nat.le_refl _, Nat.le_refl _, Nat.le_refl _⟩ (Q1 := fun r M' => WP k LAY m_X12_readerOn 255 [(8, vI (gi I 75 (((x2 + 9) + x7) : Int).toNat)), (0, vR (some 74)), (2, vI x2), (4, vI x4), (5, vI x5), (6, vI x6), (7, vI x7)] (r.toList ++ []) M' Q) (S_X12_has (by omega)  ?_) (fun r M' q => q)
      change WP _ LAY m_X12_readerOn 255 [(8, vI (gi I 75 (((x2 + 9) + x7) : Int).toNat)), (0, vR (some 74)), (2, vI x2), (4, vI x4), (5, vI x5), (6, vI x6), (7, vI x7)] [vI (b2i (and32 (shr32 (or32 x5 x6) (gi I 75 (((x2 + 9) + x7) : Int).toNat)) 1 = 1))] (mem (P, some 5, some 22) I J) Q
      refine st_if_eq (tg := 260) (pc' := 258) dX12_readerOn_255 (by decide) rfl (b2i_in _) (fun c => ?_) (fun c => ?_)
      · replace h := h.1 (b2i_f.mp c)
        refine st_aload_n (pc' := 261) dX12_readerOn_260 rfl rfl (j := 1) rfl ?_
        refine G_X12_195_74 dX12_readerOn_261 (pc' := 264) rfl rfl ?_
        refine st_bipush (pc' := 266) dX12_readerOn_264 rfl (by decide) ?_
        refine st_iload (pc' := 268) dX12_readerOn_266 rfl (j := 3) rfl ?_
        refine st_imul (pc' := 269) dX12_readerOn_268 rfl ?_
        refine st_iload (pc' := 271) dX12_readerOn_269 rfl (j := 6) rfl ?_
        refine st_iadd (pc' := 272) dX12_readerOn_271 rfl ?_
        refine st_iload (pc' := 274) dX12_readerOn_272 rfl (j := 0) rfl ?_
        obtain ⟨e5, h⟩ := h
        refine st_iastore (pc' := 275) (M' := (mem (P, some 5, some 22) (si I 116 (((8 * x4) + x7) : Int).toNat (gi I 75 (((x2 + 9) + x7) : Int).toNat)) J)) dX12_readerOn_274 rfl L_116 (by decide) e5 rfl ?_
        refine st_iload (pc' := 277) dX12_readerOn_275 rfl (j := 5) rfl ?_
        refine st_iconst (pc' := 278) dX12_readerOn_277 rfl ?_
        refine st_iload (pc' := 280) dX12_readerOn_278 rfl (j := 0) rfl ?_
        refine st_ishl (pc' := 281) (z := (shl32 1 (gi I 75 (((x2 + 9) + x7) : Int).toNat))) dX12_readerOn_280 rfl rfl ?_
        refine st_ior (pc' := 282) (z := (or32 x6 (shl32 1 (gi I 75 (((x2 + 9) + x7) : Int).toNat)))) dX12_readerOn_281 rfl rfl ?_
        refine st_istore (pc' := 284) (L' := [(6, vI (or32 x6 (shl32 1 (gi I 75 (((x2 + 9) + x7) : Int).toNat)))), (8, vI (gi I 75 (((x2 + 9) + x7) : Int).toNat)), (0, vR (some 74)), (2, vI x2), (4, vI x4), (5, vI x5), (7, vI x7)]) dX12_readerOn_282 rfl (by decide) rfl ?_
        refine st_iinc (pc' := 287) (L' := [(7, vI (x7 + 1)), (6, vI (or32 x6 (shl32 1 (gi I 75 (((x2 + 9) + x7) : Int).toNat)))), (8, vI (gi I 75 (((x2 + 9) + x7) : Int).toNat)), (0, vR (some 74)), (2, vI x2), (4, vI x4), (5, vI x5)]) (j := 6) dX12_readerOn_284 rfl (by decide) rfl rfl ?_
        refine st_goto (pc' := 210) dX12_readerOn_287 (by decide) ?_
        refine WP_sub (L' := [(0, vR (some 74)), (2, vI x2), (4, vI x4), (5, vI x5), (6, vI (or32 x6 (shl32 1 (gi I 75 (((x2 + 9) + x7) : Int).toNat)))), (7, vI (x7 + 1))]) [3, 4, 5, 6, 1, 0] rfl ?_
        exact h
      · replace h := h.2 (b2i_t.mp c)
        refine WP_sub (L' := []) [] rfl ?_
        exact h
set_option maxRecDepth 20000 in
set_option maxHeartbeats 4000000 in
theorem B_X12_readerOn_360 {k : Nat} {P : Option Nat} {I : Nat → Nat → Int32} {J : Nat → Nat → Int64} {x2 : Int} {x4 : Int} {Q : Option AV → Mem → Prop} (hk : 0 ≤ k) (h : (0 ≤ x4 ∧ x4 < 132) ∧ (Q (some (vI ((x2 + 9) + (gi I 115 (x4).toNat)))) (mem (P, some 5, some 22) I J))) : WP k LAY m_X12_readerOn 360 [(0, vR (some 74)), (2, vI x2), (4, vI x4)] [] (mem (P, some 5, some 22) I J) Q := by
  refine st_iload_n (pc' := 361) dX12_readerOn_360 rfl rfl (j := 1) rfl ?_
  refine st_bipush (pc' := 363) dX12_readerOn_361 rfl (by decide) ?_
  refine st_iadd (pc' := 364) dX12_readerOn_363 rfl ?_
  refine st_aload_n (pc' := 365) dX12_readerOn_364 rfl rfl (j := 0) rfl ?_
  refine G_X12_192_74 dX12_readerOn_365 (pc' := 368) rfl rfl ?_
  refine st_iload (pc' := 370) dX12_readerOn_368 rfl (j := 2) rfl ?_
  obtain ⟨e1, h⟩ := h
  refine st_iaload (pc' := 371) (v := (gi I 115 (x4).toNat)) dX12_readerOn_370 rfl L_115 (by decide) e1 (show gi I 115 (x4).toNat = (gi I 115 (x4).toNat) from rfl) ?_
  refine st_iadd (pc' := 372) dX12_readerOn_371 rfl ?_
  exact st_iret (ty := .int) dX12_readerOn_372 rfl rfl rfl h
set_option maxRecDepth 20000 in
set_option maxHeartbeats 4000000 in
theorem B_X12_readerOn_258 {k : Nat} {P : Option Nat} {I : Nat → Nat → Int32} {J : Nat → Nat → Int64}  {Q : Option AV → Mem → Prop} (hk : 0 ≤ k) (h : Q (some (vI (-1))) (mem (P, some 5, some 22) I J)) : WP k LAY m_X12_readerOn 258 [] [] (mem (P, some 5, some 22) I J) Q := by
  refine st_iconst (pc' := 259) dX12_readerOn_258 rfl ?_
  exact st_iret (ty := .int) dX12_readerOn_259 rfl rfl rfl h
set_option maxRecDepth 20000 in
set_option maxHeartbeats 4000000 in
theorem B_X12_comesOn_0 {k : Nat} {P : Option Nat} {I : Nat → Nat → Int32} {J : Nat → Nat → Int64} {x1 : Int} {Q : Option AV → Mem → Prop} (hk : 1 ≤ k) (h : inR x1 ∧ ((x1 < 5 → (Q (some (vI 0)) (mem (P, some 5, some 22) I J))) ∧ (¬ x1 < 5 → ((999 < (or32 (shl32 (gi I 75 0) 8) (gi I 75 ((0 + 1) : Int).toNat)) → (Q (some (vI 0)) (mem (P, some 5, some 22) I J))) ∧ (¬ 999 < (or32 (shl32 (gi I 75 0) 8) (gi I 75 ((0 + 1) : Int).toNat)) → (((or32 (shl32 (gi I 75 2) 8) (gi I 75 ((2 + 1) : Int).toNat)) ≤ 9999 → (WP k LAY m_X12_comesOn 34 [(0, vR (some 74)), (1, vI x1), (2, vI 83), (3, vI 0)] [] (mem (P, some 5, some 22) I J) Q)) ∧ (¬ (or32 (shl32 (gi I 75 2) 8) (gi I 75 ((2 + 1) : Int).toNat)) ≤ 9999 → (Q (some (vI 0)) (mem (P, some 5, some 22) I J))))))))) : WP k LAY m_X12_comesOn 0 [(0, vR (some 74)), (1, vI x1)] [] (mem (P, some 5, some 22) I J) Q := by
  refine st_iload_n (pc' := 1) dX12_comesOn_0 rfl rfl (j := 1) rfl ?_
  refine st_iconst (pc' := 2) dX12_comesOn_1 rfl ?_
  obtain ⟨e1, h⟩ := h
  refine st_icmp_lt (tg := 27) (pc' := 5) dX12_comesOn_2 (by decide) rfl e1 (by decide) (fun c => ?_) (fun c => ?_)
  · replace h := h.1 c
    refine st_iconst (pc' := 28) dX12_comesOn_27 rfl ?_
    exact st_iret (ty := .boolean) dX12_comesOn_28 rfl (by decide) rfl h
  · replace h := h.2 c
    refine st_aload_n (pc' := 6) dX12_comesOn_5 rfl rfl (j := 0) rfl ?_
    refine st_iconst (pc' := 7) dX12_comesOn_6 rfl ?_
    refine st_callV (pc' := 10) (kc := k - 1) (E' := LAY) (cal := m_X12_twoBytes) (n := 1) (as := [vI 0]) (S := []) dX12_comesOn_7 rfl l_X12_623 k_X12_twoBytes rfl L_74 c_X12 rfl rfl (Nat.le_of_ble_eq_true rfl) (by omega) ⟨Nat.le_refl _, Nat.le_refl _, Nat.le_refl _, Nat.le_refl _⟩ (Q1 := fun r M' => WP k LAY m_X12_comesOn 10 [(0, vR (some 74)), (1, vI x1)] (r.toList ++ []) M' Q) (WPm.of k_X12_twoBytes.1 (Nat.le_of_ble_eq_true rfl) (B_X12_twoBytes_0 (by omega) ?_)) (fun r M' q => q)
    refine ⟨by decide, ?_⟩
    refine ⟨by decide, ?_⟩
    change WP _ LAY m_X12_comesOn 10 [(0, vR (some 74)), (1, vI x1)] [vI (or32 (shl32 (gi I 75 0) 8) (gi I 75 ((0 + 1) : Int).toNat))] (mem (P, some 5, some 22) I J) Q
    refine st_sipush (pc' := 13) dX12_comesOn_10 rfl (by decide) ?_
    refine st_icmp_gt (tg := 27) (pc' := 16) dX12_comesOn_13 (by decide) rfl (or32_in _ _) (by decide) (fun c => ?_) (fun c => ?_)
    · replace h := h.1 c
      refine st_iconst (pc' := 28) dX12_comesOn_27 rfl ?_
      exact st_iret (ty := .boolean) dX12_comesOn_28 rfl (by decide) rfl h
    · replace h := h.2 c
      refine st_aload_n (pc' := 17) dX12_comesOn_16 rfl rfl (j := 0) rfl ?_
      refine st_iconst (pc' := 18) dX12_comesOn_17 rfl ?_
      refine st_callV (pc' := 21) (kc := k - 1) (E' := LAY) (cal := m_X12_twoBytes) (n := 1) (as := [vI 2]) (S := []) dX12_comesOn_18 rfl l_X12_623 k_X12_twoBytes rfl L_74 c_X12 rfl rfl (Nat.le_of_ble_eq_true rfl) (by omega) ⟨Nat.le_refl _, Nat.le_refl _, Nat.le_refl _, Nat.le_refl _⟩ (Q1 := fun r M' => WP k LAY m_X12_comesOn 21 [(0, vR (some 74)), (1, vI x1)] (r.toList ++ []) M' Q) (WPm.of k_X12_twoBytes.1 (Nat.le_of_ble_eq_true rfl) (B_X12_twoBytes_0 (by omega) ?_)) (fun r M' q => q)
      refine ⟨by decide, ?_⟩
      refine ⟨by decide, ?_⟩
      change WP _ LAY m_X12_comesOn 21 [(0, vR (some 74)), (1, vI x1)] [vI (or32 (shl32 (gi I 75 2) 8) (gi I 75 ((2 + 1) : Int).toNat))] (mem (P, some 5, some 22) I J) Q
      refine st_sipush (pc' := 24) dX12_comesOn_21 rfl (by decide) ?_
      refine st_icmp_le (tg := 29) (pc' := 27) dX12_comesOn_24 (by decide) rfl (or32_in _ _) (by decide) (fun c => ?_) (fun c => ?_)
      · replace h := h.1 c
        refine st_bipush (pc' := 31) dX12_comesOn_29 rfl (by decide) ?_
        refine st_istore_n (pc' := 32) (L' := [(2, vI 83), (0, vR (some 74)), (1, vI x1)]) dX12_comesOn_31 rfl rfl (by decide) rfl ?_
        refine st_iconst (pc' := 33) dX12_comesOn_32 rfl ?_
        refine st_istore_n (pc' := 34) (L' := [(3, vI 0), (2, vI 83), (0, vR (some 74)), (1, vI x1)]) dX12_comesOn_33 rfl rfl (by decide) rfl ?_
        refine WP_sub (L' := [(0, vR (some 74)), (1, vI x1), (2, vI 83), (3, vI 0)]) [2, 3, 1, 0] rfl ?_
        exact h
      · replace h := h.2 c
        refine st_iconst (pc' := 28) dX12_comesOn_27 rfl ?_
        exact st_iret (ty := .boolean) dX12_comesOn_28 rfl (by decide) rfl h
set_option maxRecDepth 20000 in
set_option maxHeartbeats 4000000 in
theorem B_X12_comesOn_34 {k : Nat} {P : Option Nat} {I : Nat → Nat → Int32} {J : Nat → Nat → Int64} {x1 : Int} {x2 : Int} {x3 : Int} {Q : Option AV → Mem → Prop} (hk : 1 ≤ k) (h : inR x3 ∧ (inR (x1 - 1) ∧ (((x1 - 1) ≤ x3 → ((0 ≤ (x1 - 1) ∧ (x1 - 1) < 1800) ∧ (inR x2 ∧ (((gi I 75 ((x1 - 1) : Int).toNat) = x2 → (WPm (k - 1) LAY m_X12_copies [vR (some 74), vI 1, vI 0] (mem (P, some 5, some 22) I J) (retV (fun I6 J7 => WP k LAY m_X12_comesOn 87 [(0, vR (some 74)), (1, vI x1), (3, vI 4), (4, vI 0)] [] (mem (P, some 5, some 22) I6 J7) Q) (P, some 5, some 22)))) ∧ (¬ (gi I 75 ((x1 - 1) : Int).toNat) = x2 → (Q (some (vI 0)) (mem (P, some 5, some 22) I J))))))) ∧ (¬ (x1 - 1) ≤ x3 → ((0 ≤ x3 ∧ x3 < 1800) ∧ (WP k LAY m_X12_comesOn 34 [(0, vR (some 74)), (1, vI x1), (2, vI (rem32 ((5 * x2) + (gi I 75 (x3).toNat)) 251)), (3, vI (x3 + 1))] [] (mem (P, some 5, some 22) I J) Q)))))) : WP k LAY m_X12_comesOn 34 [(0, vR (some 74)), (1, vI x1), (2, vI x2), (3, vI x3)] [] (mem (P, some 5, some 22) I J) Q := by
  refine st_iload_n (pc' := 35) dX12_comesOn_34 rfl rfl (j := 3) rfl ?_
  refine st_iload_n (pc' := 36) dX12_comesOn_35 rfl rfl (j := 1) rfl ?_
  refine st_iconst (pc' := 37) dX12_comesOn_36 rfl ?_
  refine st_isub (pc' := 38) dX12_comesOn_37 rfl ?_
  obtain ⟨e1, h⟩ := h
  obtain ⟨e2, h⟩ := h
  refine st_icmp_ge (tg := 62) (pc' := 41) dX12_comesOn_38 (by decide) rfl e1 e2 (fun c => ?_) (fun c => ?_)
  · replace h := h.1 c
    refine st_aload_n (pc' := 63) dX12_comesOn_62 rfl rfl (j := 0) rfl ?_
    refine G_X12_7_74 dX12_comesOn_63 (pc' := 66) rfl rfl ?_
    refine st_iload_n (pc' := 67) dX12_comesOn_66 rfl rfl (j := 1) rfl ?_
    refine st_iconst (pc' := 68) dX12_comesOn_67 rfl ?_
    refine st_isub (pc' := 69) dX12_comesOn_68 rfl ?_
    obtain ⟨e3, h⟩ := h
    refine st_iaload (pc' := 70) (v := (gi I 75 ((x1 - 1) : Int).toNat)) dX12_comesOn_69 rfl L_75 (by decide) e3 (show gi I 75 ((x1 - 1) : Int).toNat = (gi I 75 ((x1 - 1) : Int).toNat) from rfl) ?_
    refine st_iload_n (pc' := 71) dX12_comesOn_70 rfl rfl (j := 2) rfl ?_
    obtain ⟨e4, h⟩ := h
    refine st_icmp_eq (tg := 76) (pc' := 74) dX12_comesOn_71 (by decide) rfl (gi_in _ _ _) e4 (fun c => ?_) (fun c => ?_)
    · replace h := h.1 c
      refine st_aload_n (pc' := 77) dX12_comesOn_76 rfl rfl (j := 0) rfl ?_
      refine st_iconst (pc' := 78) dX12_comesOn_77 rfl ?_
      refine st_iconst (pc' := 79) dX12_comesOn_78 rfl ?_
      refine st_callV (pc' := 82) (kc := k - 1) (E' := LAY) (cal := m_X12_copies) (n := 2) (as := [vI 1, vI 0]) (S := []) dX12_comesOn_79 rfl l_X12_479 k_X12_copies rfl L_74 c_X12 rfl rfl (Nat.le_of_ble_eq_true rfl) (by omega) ⟨Nat.le_refl _, Nat.le_refl _, Nat.le_refl _, Nat.le_refl _⟩ h (fun r M' q => ?_)
      obtain ⟨I6, J7, rfl, rfl, h⟩ := q
      change WP _ LAY m_X12_comesOn 82 [(0, vR (some 74)), (1, vI x1), (2, vI x2), (3, vI x3)] [] (mem (P, some 5, some 22) I6 J7) Q
      refine st_iconst (pc' := 83) dX12_comesOn_82 rfl ?_
      refine st_istore_n (pc' := 84) (L' := [(3, vI 4), (0, vR (some 74)), (1, vI x1), (2, vI x2)]) dX12_comesOn_83 rfl rfl (by decide) rfl ?_
      refine st_iconst (pc' := 85) dX12_comesOn_84 rfl ?_
      refine st_istore (pc' := 87) (L' := [(4, vI 0), (3, vI 4), (0, vR (some 74)), (1, vI x1), (2, vI x2)]) dX12_comesOn_85 rfl (by decide) rfl ?_
      refine WP_sub (L' := [(0, vR (some 74)), (1, vI x1), (3, vI 4), (4, vI 0)]) [2, 3, 1, 0] rfl ?_
      exact h
    · replace h := h.2 c
      refine st_iconst (pc' := 75) dX12_comesOn_74 rfl ?_
      exact st_iret (ty := .boolean) dX12_comesOn_75 rfl (by decide) rfl h
  · replace h := h.2 c
    refine st_iconst (pc' := 42) dX12_comesOn_41 rfl ?_
    refine st_iload_n (pc' := 43) dX12_comesOn_42 rfl rfl (j := 2) rfl ?_
    refine st_imul (pc' := 44) dX12_comesOn_43 rfl ?_
    refine st_aload_n (pc' := 45) dX12_comesOn_44 rfl rfl (j := 0) rfl ?_
    refine G_X12_7_74 dX12_comesOn_45 (pc' := 48) rfl rfl ?_
    refine st_iload_n (pc' := 49) dX12_comesOn_48 rfl rfl (j := 3) rfl ?_
    obtain ⟨e8, h⟩ := h
    refine st_iaload (pc' := 50) (v := (gi I 75 (x3).toNat)) dX12_comesOn_49 rfl L_75 (by decide) e8 (show gi I 75 (x3).toNat = (gi I 75 (x3).toNat) from rfl) ?_
    refine st_iadd (pc' := 51) dX12_comesOn_50 rfl ?_
    refine st_sipush (pc' := 54) dX12_comesOn_51 rfl (by decide) ?_
    refine st_irem (pc' := 55) (z := (rem32 ((5 * x2) + (gi I 75 (x3).toNat)) 251)) dX12_comesOn_54 rfl (by decide) rfl ?_
    refine st_istore_n (pc' := 56) (L' := [(2, vI (rem32 ((5 * x2) + (gi I 75 (x3).toNat)) 251)), (0, vR (some 74)), (1, vI x1), (3, vI x3)]) dX12_comesOn_55 rfl rfl (by decide) rfl ?_
    refine st_iinc (pc' := 59) (L' := [(3, vI (x3 + 1)), (2, vI (rem32 ((5 * x2) + (gi I 75 (x3).toNat)) 251)), (0, vR (some 74)), (1, vI x1)]) (j := 3) dX12_comesOn_56 rfl (by decide) rfl rfl ?_
    refine st_goto (pc' := 34) dX12_comesOn_59 (by decide) ?_
    refine WP_sub (L' := [(0, vR (some 74)), (1, vI x1), (2, vI (rem32 ((5 * x2) + (gi I 75 (x3).toNat)) 251)), (3, vI (x3 + 1))]) [2, 3, 1, 0] rfl ?_
    exact h
set_option maxRecDepth 20000 in
set_option maxHeartbeats 4000000 in
theorem B_X12_comesOn_87 {k : Nat} {P : Option Nat} {I : Nat → Nat → Int32} {J : Nat → Nat → Int64} {x1 : Int} {x3 : Int} {x4 : Int} {Q : Option AV → Mem → Prop} (hk : 1 ≤ k) (h : (0 ≤ (gi I 74 13) ∧ (gi I 74 13) < 2) ∧ (inR x4 ∧ (((gi I 83 (gi I 74 13).toNat) ≤ x4 → (inR x3 ∧ (inR (x1 - 1) ∧ ((x3 = (x1 - 1) → (Q (some (vI 1)) (mem (P, some 5, some 22) (si (si (si I 108 1 (or32 (shl32 (gi I 75 0) 8) (gi I 75 ((0 + 1) : Int).toNat))) 109 1 (or32 (shl32 (gi (si I 108 1 (or32 (shl32 (gi I 75 0) 8) (gi I 75 ((0 + 1) : Int).toNat))) 75 2) 8) (gi (si I 108 1 (or32 (shl32 (gi I 75 0) 8) (gi I 75 ((0 + 1) : Int).toNat))) 75 ((2 + 1) : Int).toNat))) 117 1 0) J))) ∧ (¬ x3 = (x1 - 1) → (Q (some (vI 0)) (mem (P, some 5, some 22) I J))))))) ∧ (¬ (gi I 83 (gi I 74 13).toNat) ≤ x4 → (inR x3 ∧ ((x3 = (-1) → (inR (x1 - 1) ∧ ((x3 = (x1 - 1) → (Q (some (vI 1)) (mem (P, some 5, some 22) (si (si (si I 108 1 (or32 (shl32 (gi I 75 0) 8) (gi I 75 ((0 + 1) : Int).toNat))) 109 1 (or32 (shl32 (gi (si I 108 1 (or32 (shl32 (gi I 75 0) 8) (gi I 75 ((0 + 1) : Int).toNat))) 75 2) 8) (gi (si I 108 1 (or32 (shl32 (gi I 75 0) 8) (gi I 75 ((0 + 1) : Int).toNat))) 75 ((2 + 1) : Int).toNat))) 117 1 0) J))) ∧ (¬ x3 = (x1 - 1) → (Q (some (vI 0)) (mem (P, some 5, some 22) I J)))))) ∧ (¬ x3 = (-1) → (WPm (k - 1) LAY m_X12_readerOn [vR (some 74), vI x4, vI x3, vI (x1 - 1)] (mem (P, some 5, some 22) I J) (retI (fun v7 I8 J9 => WP k LAY m_X12_comesOn 87 [(0, vR (some 74)), (1, vI x1), (3, vI v7), (4, vI (x4 + 1))] [] (mem (P, some 5, some 22) I8 J9) Q) (P, some 5, some 22)))))))))) : WP k LAY m_X12_comesOn 87 [(0, vR (some 74)), (1, vI x1), (3, vI x3), (4, vI x4)] [] (mem (P, some 5, some 22) I J) Q := by
  refine st_iload (pc' := 89) dX12_comesOn_87 rfl (j := 3) rfl ?_
  refine st_aload_n (pc' := 90) dX12_comesOn_89 rfl rfl (j := 0) rfl ?_
  refine G_X12_75_74 dX12_comesOn_90 (pc' := 93) rfl rfl ?_
  refine st_aload_n (pc' := 94) dX12_comesOn_93 rfl rfl (j := 0) rfl ?_
  refine G_X12_51_74 dX12_comesOn_94 (pc' := 97) rfl rfl ?_
  obtain ⟨e1, h⟩ := h
  refine st_iaload (pc' := 98) (v := (gi I 83 (gi I 74 13).toNat)) dX12_comesOn_97 rfl L_83 (by decide) e1 (show gi I 83 (gi I 74 13).toNat = (gi I 83 (gi I 74 13).toNat) from rfl) ?_
  obtain ⟨e2, h⟩ := h
  refine st_icmp_ge (tg := 123) (pc' := 101) dX12_comesOn_98 (by decide) rfl e2 (gi_in _ _ _) (fun c => ?_) (fun c => ?_)
  · replace h := h.1 c
    refine st_iload_n (pc' := 124) dX12_comesOn_123 rfl rfl (j := 2) rfl ?_
    refine st_iload_n (pc' := 125) dX12_comesOn_124 rfl rfl (j := 1) rfl ?_
    refine st_iconst (pc' := 126) dX12_comesOn_125 rfl ?_
    refine st_isub (pc' := 127) dX12_comesOn_126 rfl ?_
    obtain ⟨e3, h⟩ := h
    obtain ⟨e4, h⟩ := h
    refine st_icmp_eq (tg := 132) (pc' := 130) dX12_comesOn_127 (by decide) rfl e3 e4 (fun c => ?_) (fun c => ?_)
    · replace h := h.1 c
      refine st_aload_n (pc' := 133) dX12_comesOn_132 rfl rfl (j := 0) rfl ?_
      refine G_X12_171_74 dX12_comesOn_133 (pc' := 136) rfl rfl ?_
      refine st_iconst (pc' := 137) dX12_comesOn_136 rfl ?_
      refine st_aload_n (pc' := 138) dX12_comesOn_137 rfl rfl (j := 0) rfl ?_
      refine st_iconst (pc' := 139) dX12_comesOn_138 rfl ?_
      refine st_callV (pc' := 142) (kc := k - 1) (E' := LAY) (cal := m_X12_twoBytes) (n := 1) (as := [vI 0]) (S := [vI 1, vR (some 108)]) dX12_comesOn_139 rfl l_X12_623 k_X12_twoBytes rfl L_74 c_X12 rfl rfl (Nat.le_of_ble_eq_true rfl) (by omega) ⟨Nat.le_refl _, Nat.le_refl _, Nat.le_refl _, Nat.le_refl _⟩ (Q1 := fun r M' => WP k LAY m_X12_comesOn 142 [(0, vR (some 74)), (1, vI x1), (3, vI x3), (4, vI x4)] (r.toList ++ [vI 1, vR (some 108)]) M' Q) (WPm.of k_X12_twoBytes.1 (Nat.le_of_ble_eq_true rfl) (B_X12_twoBytes_0 (by omega) ?_)) (fun r M' q => q)
      refine ⟨by decide, ?_⟩
      refine ⟨by decide, ?_⟩
      change WP _ LAY m_X12_comesOn 142 [(0, vR (some 74)), (1, vI x1), (3, vI x3), (4, vI x4)] [vI (or32 (shl32 (gi I 75 0) 8) (gi I 75 ((0 + 1) : Int).toNat)), vI 1, vR (some 108)] (mem (P, some 5, some 22) I J) Q
      refine st_iastore (pc' := 143) (M' := (mem (P, some 5, some 22) (si I 108 1 (or32 (shl32 (gi I 75 0) 8) (gi I 75 ((0 + 1) : Int).toNat))) J)) dX12_comesOn_142 rfl L_108 (by decide) (by decide) rfl ?_
      refine st_aload_n (pc' := 144) dX12_comesOn_143 rfl rfl (j := 0) rfl ?_
      refine G_X12_174_74 dX12_comesOn_144 (pc' := 147) rfl rfl ?_
      refine st_iconst (pc' := 148) dX12_comesOn_147 rfl ?_
      refine st_aload_n (pc' := 149) dX12_comesOn_148 rfl rfl (j := 0) rfl ?_
      refine st_iconst (pc' := 150) dX12_comesOn_149 rfl ?_
      refine st_callV (pc' := 153) (kc := k - 1) (E' := LAY) (cal := m_X12_twoBytes) (n := 1) (as := [vI 2]) (S := [vI 1, vR (some 109)]) dX12_comesOn_150 rfl l_X12_623 k_X12_twoBytes rfl L_74 c_X12 rfl rfl (Nat.le_of_ble_eq_true rfl) (by omega) ⟨Nat.le_refl _, Nat.le_refl _, Nat.le_refl _, Nat.le_refl _⟩ (Q1 := fun r M' => WP k LAY m_X12_comesOn 153 [(0, vR (some 74)), (1, vI x1), (3, vI x3), (4, vI x4)] (r.toList ++ [vI 1, vR (some 109)]) M' Q) (WPm.of k_X12_twoBytes.1 (Nat.le_of_ble_eq_true rfl) (B_X12_twoBytes_0 (by omega) ?_)) (fun r M' q => q)
      refine ⟨by decide, ?_⟩
      refine ⟨by decide, ?_⟩
      change WP _ LAY m_X12_comesOn 153 [(0, vR (some 74)), (1, vI x1), (3, vI x3), (4, vI x4)] [vI (or32 (shl32 (gi (si I 108 1 (or32 (shl32 (gi I 75 0) 8) (gi I 75 ((0 + 1) : Int).toNat))) 75 2) 8) (gi (si I 108 1 (or32 (shl32 (gi I 75 0) 8) (gi I 75 ((0 + 1) : Int).toNat))) 75 ((2 + 1) : Int).toNat)), vI 1, vR (some 109)] (mem (P, some 5, some 22) (si I 108 1 (or32 (shl32 (gi I 75 0) 8) (gi I 75 ((0 + 1) : Int).toNat))) J) Q
      refine st_iastore (pc' := 154) (M' := (mem (P, some 5, some 22) (si (si I 108 1 (or32 (shl32 (gi I 75 0) 8) (gi I 75 ((0 + 1) : Int).toNat))) 109 1 (or32 (shl32 (gi (si I 108 1 (or32 (shl32 (gi I 75 0) 8) (gi I 75 ((0 + 1) : Int).toNat))) 75 2) 8) (gi (si I 108 1 (or32 (shl32 (gi I 75 0) 8) (gi I 75 ((0 + 1) : Int).toNat))) 75 ((2 + 1) : Int).toNat))) J)) dX12_comesOn_153 rfl L_109 (by decide) (by decide) rfl ?_
      refine st_aload_n (pc' := 155) dX12_comesOn_154 rfl rfl (j := 0) rfl ?_
      refine G_X12_198_74 dX12_comesOn_155 (pc' := 158) rfl rfl ?_
      refine st_iconst (pc' := 159) dX12_comesOn_158 rfl ?_
      refine st_iconst (pc' := 160) dX12_comesOn_159 rfl ?_
      refine st_iastore (pc' := 161) (M' := (mem (P, some 5, some 22) (si (si (si I 108 1 (or32 (shl32 (gi I 75 0) 8) (gi I 75 ((0 + 1) : Int).toNat))) 109 1 (or32 (shl32 (gi (si I 108 1 (or32 (shl32 (gi I 75 0) 8) (gi I 75 ((0 + 1) : Int).toNat))) 75 2) 8) (gi (si I 108 1 (or32 (shl32 (gi I 75 0) 8) (gi I 75 ((0 + 1) : Int).toNat))) 75 ((2 + 1) : Int).toNat))) 117 1 0) J)) dX12_comesOn_160 rfl L_117 (by decide) (by decide) rfl ?_
      refine st_iconst (pc' := 162) dX12_comesOn_161 rfl ?_
      exact st_iret (ty := .boolean) dX12_comesOn_162 rfl (by decide) rfl h
    · replace h := h.2 c
      refine st_iconst (pc' := 131) dX12_comesOn_130 rfl ?_
      exact st_iret (ty := .boolean) dX12_comesOn_131 rfl (by decide) rfl h
  · replace h := h.2 c
    refine st_iload_n (pc' := 102) dX12_comesOn_101 rfl rfl (j := 2) rfl ?_
    refine st_iconst (pc' := 103) dX12_comesOn_102 rfl ?_
    obtain ⟨e5, h⟩ := h
    refine st_icmp_eq (tg := 123) (pc' := 106) dX12_comesOn_103 (by decide) rfl e5 (by decide) (fun c => ?_) (fun c => ?_)
    · replace h := h.1 c
      refine st_iload_n (pc' := 124) dX12_comesOn_123 rfl rfl (j := 2) rfl ?_
      refine st_iload_n (pc' := 125) dX12_comesOn_124 rfl rfl (j := 1) rfl ?_
      refine st_iconst (pc' := 126) dX12_comesOn_125 rfl ?_
      refine st_isub (pc' := 127) dX12_comesOn_126 rfl ?_
      obtain ⟨e6, h⟩ := h
      refine st_icmp_eq (tg := 132) (pc' := 130) dX12_comesOn_127 (by decide) rfl e5 e6 (fun c => ?_) (fun c => ?_)
      · replace h := h.1 c
        refine st_aload_n (pc' := 133) dX12_comesOn_132 rfl rfl (j := 0) rfl ?_
        refine G_X12_171_74 dX12_comesOn_133 (pc' := 136) rfl rfl ?_
        refine st_iconst (pc' := 137) dX12_comesOn_136 rfl ?_
        refine st_aload_n (pc' := 138) dX12_comesOn_137 rfl rfl (j := 0) rfl ?_
        refine st_iconst (pc' := 139) dX12_comesOn_138 rfl ?_
        refine st_callV (pc' := 142) (kc := k - 1) (E' := LAY) (cal := m_X12_twoBytes) (n := 1) (as := [vI 0]) (S := [vI 1, vR (some 108)]) dX12_comesOn_139 rfl l_X12_623 k_X12_twoBytes rfl L_74 c_X12 rfl rfl (Nat.le_of_ble_eq_true rfl) (by omega) ⟨Nat.le_refl _, Nat.le_refl _, Nat.le_refl _, Nat.le_refl _⟩ (Q1 := fun r M' => WP k LAY m_X12_comesOn 142 [(0, vR (some 74)), (1, vI x1), (3, vI x3), (4, vI x4)] (r.toList ++ [vI 1, vR (some 108)]) M' Q) (WPm.of k_X12_twoBytes.1 (Nat.le_of_ble_eq_true rfl) (B_X12_twoBytes_0 (by omega) ?_)) (fun r M' q => q)
        refine ⟨by decide, ?_⟩
        refine ⟨by decide, ?_⟩
        change WP _ LAY m_X12_comesOn 142 [(0, vR (some 74)), (1, vI x1), (3, vI x3), (4, vI x4)] [vI (or32 (shl32 (gi I 75 0) 8) (gi I 75 ((0 + 1) : Int).toNat)), vI 1, vR (some 108)] (mem (P, some 5, some 22) I J) Q
        refine st_iastore (pc' := 143) (M' := (mem (P, some 5, some 22) (si I 108 1 (or32 (shl32 (gi I 75 0) 8) (gi I 75 ((0 + 1) : Int).toNat))) J)) dX12_comesOn_142 rfl L_108 (by decide) (by decide) rfl ?_
        refine st_aload_n (pc' := 144) dX12_comesOn_143 rfl rfl (j := 0) rfl ?_
        refine G_X12_174_74 dX12_comesOn_144 (pc' := 147) rfl rfl ?_
        refine st_iconst (pc' := 148) dX12_comesOn_147 rfl ?_
        refine st_aload_n (pc' := 149) dX12_comesOn_148 rfl rfl (j := 0) rfl ?_
        refine st_iconst (pc' := 150) dX12_comesOn_149 rfl ?_
        refine st_callV (pc' := 153) (kc := k - 1) (E' := LAY) (cal := m_X12_twoBytes) (n := 1) (as := [vI 2]) (S := [vI 1, vR (some 109)]) dX12_comesOn_150 rfl l_X12_623 k_X12_twoBytes rfl L_74 c_X12 rfl rfl (Nat.le_of_ble_eq_true rfl) (by omega) ⟨Nat.le_refl _, Nat.le_refl _, Nat.le_refl _, Nat.le_refl _⟩ (Q1 := fun r M' => WP k LAY m_X12_comesOn 153 [(0, vR (some 74)), (1, vI x1), (3, vI x3), (4, vI x4)] (r.toList ++ [vI 1, vR (some 109)]) M' Q) (WPm.of k_X12_twoBytes.1 (Nat.le_of_ble_eq_true rfl) (B_X12_twoBytes_0 (by omega) ?_)) (fun r M' q => q)
        refine ⟨by decide, ?_⟩
        refine ⟨by decide, ?_⟩
        change WP _ LAY m_X12_comesOn 153 [(0, vR (some 74)), (1, vI x1), (3, vI x3), (4, vI x4)] [vI (or32 (shl32 (gi (si I 108 1 (or32 (shl32 (gi I 75 0) 8) (gi I 75 ((0 + 1) : Int).toNat))) 75 2) 8) (gi (si I 108 1 (or32 (shl32 (gi I 75 0) 8) (gi I 75 ((0 + 1) : Int).toNat))) 75 ((2 + 1) : Int).toNat)), vI 1, vR (some 109)] (mem (P, some 5, some 22) (si I 108 1 (or32 (shl32 (gi I 75 0) 8) (gi I 75 ((0 + 1) : Int).toNat))) J) Q
        refine st_iastore (pc' := 154) (M' := (mem (P, some 5, some 22) (si (si I 108 1 (or32 (shl32 (gi I 75 0) 8) (gi I 75 ((0 + 1) : Int).toNat))) 109 1 (or32 (shl32 (gi (si I 108 1 (or32 (shl32 (gi I 75 0) 8) (gi I 75 ((0 + 1) : Int).toNat))) 75 2) 8) (gi (si I 108 1 (or32 (shl32 (gi I 75 0) 8) (gi I 75 ((0 + 1) : Int).toNat))) 75 ((2 + 1) : Int).toNat))) J)) dX12_comesOn_153 rfl L_109 (by decide) (by decide) rfl ?_
        refine st_aload_n (pc' := 155) dX12_comesOn_154 rfl rfl (j := 0) rfl ?_
        refine G_X12_198_74 dX12_comesOn_155 (pc' := 158) rfl rfl ?_
        refine st_iconst (pc' := 159) dX12_comesOn_158 rfl ?_
        refine st_iconst (pc' := 160) dX12_comesOn_159 rfl ?_
        refine st_iastore (pc' := 161) (M' := (mem (P, some 5, some 22) (si (si (si I 108 1 (or32 (shl32 (gi I 75 0) 8) (gi I 75 ((0 + 1) : Int).toNat))) 109 1 (or32 (shl32 (gi (si I 108 1 (or32 (shl32 (gi I 75 0) 8) (gi I 75 ((0 + 1) : Int).toNat))) 75 2) 8) (gi (si I 108 1 (or32 (shl32 (gi I 75 0) 8) (gi I 75 ((0 + 1) : Int).toNat))) 75 ((2 + 1) : Int).toNat))) 117 1 0) J)) dX12_comesOn_160 rfl L_117 (by decide) (by decide) rfl ?_
        refine st_iconst (pc' := 162) dX12_comesOn_161 rfl ?_
        exact st_iret (ty := .boolean) dX12_comesOn_162 rfl (by decide) rfl h
      · replace h := h.2 c
        refine st_iconst (pc' := 131) dX12_comesOn_130 rfl ?_
        exact st_iret (ty := .boolean) dX12_comesOn_131 rfl (by decide) rfl h
    · replace h := h.2 c
      refine st_aload_n (pc' := 107) dX12_comesOn_106 rfl rfl (j := 0) rfl ?_
      refine st_iload (pc' := 109) dX12_comesOn_107 rfl (j := 3) rfl ?_
      refine st_iload_n (pc' := 110) dX12_comesOn_109 rfl rfl (j := 2) rfl ?_
      refine st_iload_n (pc' := 111) dX12_comesOn_110 rfl rfl (j := 1) rfl ?_
      refine st_iconst (pc' := 112) dX12_comesOn_111 rfl ?_
      refine st_isub (pc' := 113) dX12_comesOn_112 rfl ?_
      refine st_callV (pc' := 116) (kc := k - 1) (E' := LAY) (cal := m_X12_readerOn) (n := 3) (as := [vI x4, vI x3, vI (x1 - 1)]) (S := []) dX12_comesOn_113 rfl l_X12_626 k_X12_readerOn rfl L_74 c_X12 rfl rfl (Nat.le_of_ble_eq_true rfl) (by omega) ⟨Nat.le_refl _, Nat.le_refl _, Nat.le_refl _, Nat.le_refl _⟩ h (fun r M' q => ?_)
      obtain ⟨v7, I8, J9, rfl, rfl, h⟩ := q
      change WP _ LAY m_X12_comesOn 116 [(0, vR (some 74)), (1, vI x1), (3, vI x3), (4, vI x4)] [vI v7] (mem (P, some 5, some 22) I8 J9) Q
      refine st_istore_n (pc' := 117) (L' := [(3, vI v7), (0, vR (some 74)), (1, vI x1), (4, vI x4)]) dX12_comesOn_116 rfl rfl (by decide) rfl ?_
      refine st_iinc (pc' := 120) (L' := [(4, vI (x4 + 1)), (3, vI v7), (0, vR (some 74)), (1, vI x1)]) (j := 3) dX12_comesOn_117 rfl (by decide) rfl rfl ?_
      refine st_goto (pc' := 87) dX12_comesOn_120 (by decide) ?_
      refine WP_sub (L' := [(0, vR (some 74)), (1, vI x1), (3, vI v7), (4, vI (x4 + 1))]) [2, 3, 1, 0] rfl ?_
      exact h
set_option maxRecDepth 20000 in
set_option maxHeartbeats 4000000 in
theorem B_X12_draw_0 {k : Nat} {P : Option Nat} {I : Nat → Nat → Int32} {J : Nat → Nat → Int64} {x1 : Int} {Q : Option AV → Mem → Prop} (hk : 0 ≤ k) (h : inR x1 ∧ (¬ x1 = 0 ∧ (Q (some (vI (rem64 (div64 (rem64 ((1103515245 * (gl J 74 67)) + 12345) 2147483648) 64) x1))) (mem (P, some 5, some 22) I (sl J 74 67 (rem64 ((1103515245 * (gl J 74 67)) + 12345) 2147483648)))))) : WP k LAY m_X12_draw 0 [(0, vR (some 74)), (1, vI x1)] [] (mem (P, some 5, some 22) I J) Q := by
  refine st_aload_n (pc' := 1) dX12_draw_0 rfl rfl (j := 0) rfl ?_
  refine st_ldc2 (pc' := 4) (z := 1103515245) dX12_draw_1 rfl q_X12_584 (by decide) ?_
  refine st_aload_n (pc' := 5) dX12_draw_4 rfl rfl (j := 0) rfl ?_
  refine G_X12_216_74 dX12_draw_5 (pc' := 8) rfl rfl ?_
  refine st_lmul (pc' := 9) dX12_draw_8 rfl ?_
  refine st_ldc2 (pc' := 12) (z := 12345) dX12_draw_9 rfl q_X12_586 (by decide) ?_
  refine st_ladd (pc' := 13) dX12_draw_12 rfl ?_
  refine st_ldc2 (pc' := 16) (z := 2147483648) dX12_draw_13 rfl q_X12_588 (by decide) ?_
  refine st_lrem (pc' := 17) (z := (rem64 ((1103515245 * (gl J 74 67)) + 12345) 2147483648)) dX12_draw_16 rfl (by decide) rfl ?_
  refine P_X12_216_74 dX12_draw_17 (pc' := 20) rfl rfl ?_
  refine st_aload_n (pc' := 21) dX12_draw_20 rfl rfl (j := 0) rfl ?_
  refine G_X12_216_74 dX12_draw_21 (pc' := 24) rfl rfl ?_
  rw [show gl (sl J 74 67 (rem64 ((1103515245 * (gl J 74 67)) + 12345) 2147483648)) 74 67 = (rem64 ((1103515245 * (gl J 74 67)) + 12345) 2147483648) from (gl_same _ _ _ (rem64_in _ _))]
  refine st_ldc2 (pc' := 27) (z := 64) dX12_draw_24 rfl q_X12_590 (by decide) ?_
  refine st_ldiv (pc' := 28) (z := (div64 (rem64 ((1103515245 * (gl J 74 67)) + 12345) 2147483648) 64)) dX12_draw_27 rfl (by decide) rfl ?_
  refine st_iload_n (pc' := 29) dX12_draw_28 rfl rfl (j := 1) rfl ?_
  obtain ⟨e1, h⟩ := h
  refine st_i2l (pc' := 30) dX12_draw_29 rfl e1 ?_
  obtain ⟨e2, h⟩ := h
  refine st_lrem (pc' := 31) (z := (rem64 (div64 (rem64 ((1103515245 * (gl J 74 67)) + 12345) 2147483648) 64) x1)) dX12_draw_30 rfl (fun q => e2 ((zl_eq (L_of e1)).mp q)) rfl ?_
  refine st_l2i (pc' := 32) dX12_draw_31 rfl ?_
  exact st_iret (ty := .int) dX12_draw_32 rfl rfl rfl h
set_option maxRecDepth 20000 in
set_option maxHeartbeats 4000000 in
theorem B_X12_refuses_0 {k : Nat} {P : Option Nat} {I : Nat → Nat → Int32} {J : Nat → Nat → Int64} {x1 : Int} {Q : Option AV → Mem → Prop} (hk : 0 ≤ k) (h : (0 ≤ x1 ∧ x1 < 6) ∧ (Q (some (vI (-1))) (mem (P, some 5, some 22) (si I 107 (x1).toNat ((gi I 107 (x1).toNat) + 1)) J))) : WP k LAY m_X12_refuses 0 [(0, vR (some 74)), (1, vI x1)] [] (mem (P, some 5, some 22) I J) Q := by
  refine st_aload_n (pc' := 1) dX12_refuses_0 rfl rfl (j := 0) rfl ?_
  refine G_X12_168_74 dX12_refuses_1 (pc' := 4) rfl rfl ?_
  refine st_iload_n (pc' := 5) dX12_refuses_4 rfl rfl (j := 1) rfl ?_
  refine st_dup2 (pc' := 6) dX12_refuses_5 rfl rfl rfl ?_
  obtain ⟨e1, h⟩ := h
  refine st_iaload (pc' := 7) (v := (gi I 107 (x1).toNat)) dX12_refuses_6 rfl L_107 (by decide) e1 (show gi I 107 (x1).toNat = (gi I 107 (x1).toNat) from rfl) ?_
  refine st_iconst (pc' := 8) dX12_refuses_7 rfl ?_
  refine st_iadd (pc' := 9) dX12_refuses_8 rfl ?_
  refine st_iastore (pc' := 10) (M' := (mem (P, some 5, some 22) (si I 107 (x1).toNat ((gi I 107 (x1).toNat) + 1)) J)) dX12_refuses_9 rfl L_107 (by decide) e1 rfl ?_
  refine st_iconst (pc' := 11) dX12_refuses_10 rfl ?_
  exact st_iret (ty := .int) dX12_refuses_11 rfl rfl rfl h
set_option maxRecDepth 20000 in
set_option maxHeartbeats 4000000 in
theorem B_X12_ring_0 {k : Nat} {P : Option Nat} {I : Nat → Nat → Int32} {J : Nat → Nat → Int64} {x1 : Int} {Q : Option AV → Mem → Prop} (hk : 0 ≤ k) (h : Q (some (vI (2 + (rem32 ((gi I 74 65) + x1) 20)))) (mem (P, some 5, some 22) I J)) : WP k LAY m_X12_ring 0 [(0, vR (some 74)), (1, vI x1)] [] (mem (P, some 5, some 22) I J) Q := by
  refine st_iconst (pc' := 1) dX12_ring_0 rfl ?_
  refine st_aload_n (pc' := 2) dX12_ring_1 rfl rfl (j := 0) rfl ?_
  refine G_X12_210_74 dX12_ring_2 (pc' := 5) rfl rfl ?_
  refine st_iload_n (pc' := 6) dX12_ring_5 rfl rfl (j := 1) rfl ?_
  refine st_iadd (pc' := 7) dX12_ring_6 rfl ?_
  refine st_bipush (pc' := 9) dX12_ring_7 rfl (by decide) ?_
  refine st_irem (pc' := 10) (z := (rem32 ((gi I 74 65) + x1) 20)) dX12_ring_9 rfl (by decide) rfl ?_
  refine st_iadd (pc' := 11) dX12_ring_10 rfl ?_
  exact st_iret (ty := .int) dX12_ring_11 rfl rfl rfl h
set_option maxRecDepth 20000 in
set_option maxHeartbeats 4000000 in
theorem B_X12_keeps_0 {k : Nat} {P : Option Nat} {I : Nat → Nat → Int32} {J : Nat → Nat → Int64}  {Q : Option AV → Mem → Prop} (hk : 1 ≤ k) (h : (¬ (gi I 74 66) = 20 → (WPm (k - 1) LAY m_X12_copies [vR (some 74), vI (2 + (rem32 ((gi I 74 65) + (gi I 74 66)) 20)), vI 0] (mem (P, some 5, some 22) I J) (retV (fun I2 J3 => Q none (mem (P, some 5, some 22) (si I2 74 66 ((gi I2 74 66) + 1)) J3)) (P, some 5, some 22)))) ∧ ((gi I 74 66) = 20 → (WPm (k - 1) LAY m_X12_copies [vR (some 74), vI (2 + (rem32 ((gi (si (si I 74 65 (rem32 ((gi I 74 65) + 1) 20)) 74 66 ((gi I 74 66) - 1)) 74 65) + (gi (si (si I 74 65 (rem32 ((gi I 74 65) + 1) 20)) 74 66 ((gi I 74 66) - 1)) 74 66)) 20)), vI 0] (mem (P, some 5, some 22) (si (si I 74 65 (rem32 ((gi I 74 65) + 1) 20)) 74 66 ((gi I 74 66) - 1)) J) (retV (fun I5 J6 => Q none (mem (P, some 5, some 22) (si I5 74 66 ((gi I5 74 66) + 1)) J6)) (P, some 5, some 22))))) : WP k LAY m_X12_keeps 0 [(0, vR (some 74))] [] (mem (P, some 5, some 22) I J) Q := by
  refine st_aload_n (pc' := 1) dX12_keeps_0 rfl rfl (j := 0) rfl ?_
  refine G_X12_213_74 dX12_keeps_1 (pc' := 4) rfl rfl ?_
  refine st_bipush (pc' := 6) dX12_keeps_4 rfl (by decide) ?_
  refine st_icmp_ne (tg := 32) (pc' := 9) dX12_keeps_6 (by decide) rfl (gi_in _ _ _) (by decide) (fun c => ?_) (fun c => ?_)
  · replace h := h.1 c
    refine st_aload_n (pc' := 33) dX12_keeps_32 rfl rfl (j := 0) rfl ?_
    refine st_aload_n (pc' := 34) dX12_keeps_33 rfl rfl (j := 0) rfl ?_
    refine st_aload_n (pc' := 35) dX12_keeps_34 rfl rfl (j := 0) rfl ?_
    refine G_X12_213_74 dX12_keeps_35 (pc' := 38) rfl rfl ?_
    refine st_callV (pc' := 41) (kc := k - 1) (E' := LAY) (cal := m_X12_ring) (n := 1) (as := [vI (gi I 74 66)]) (S := [vR (some 74)]) dX12_keeps_38 rfl l_X12_476 k_X12_ring rfl L_74 c_X12 rfl rfl (Nat.le_of_ble_eq_true rfl) (by omega) ⟨Nat.le_refl _, Nat.le_refl _, Nat.le_refl _, Nat.le_refl _⟩ (Q1 := fun r M' => WP k LAY m_X12_keeps 41 [(0, vR (some 74))] (r.toList ++ [vR (some 74)]) M' Q) (WPm.of k_X12_ring.1 (Nat.le_of_ble_eq_true rfl) (B_X12_ring_0 (by omega) ?_)) (fun r M' q => q)
    change WP _ LAY m_X12_keeps 41 [(0, vR (some 74))] [vI (2 + (rem32 ((gi I 74 65) + (gi I 74 66)) 20)), vR (some 74)] (mem (P, some 5, some 22) I J) Q
    refine st_iconst (pc' := 42) dX12_keeps_41 rfl ?_
    refine st_callV (pc' := 45) (kc := k - 1) (E' := LAY) (cal := m_X12_copies) (n := 2) (as := [vI (2 + (rem32 ((gi I 74 65) + (gi I 74 66)) 20)), vI 0]) (S := []) dX12_keeps_42 rfl l_X12_479 k_X12_copies rfl L_74 c_X12 rfl rfl (Nat.le_of_ble_eq_true rfl) (by omega) ⟨Nat.le_refl _, Nat.le_refl _, Nat.le_refl _, Nat.le_refl _⟩ h (fun r M' q => ?_)
    obtain ⟨I2, J3, rfl, rfl, h⟩ := q
    change WP _ LAY m_X12_keeps 45 [(0, vR (some 74))] [] (mem (P, some 5, some 22) I2 J3) Q
    refine st_aload_n (pc' := 46) dX12_keeps_45 rfl rfl (j := 0) rfl ?_
    refine st_dup (pc' := 47) dX12_keeps_46 rfl rfl ?_
    refine G_X12_213_74 dX12_keeps_47 (pc' := 50) rfl rfl ?_
    refine st_iconst (pc' := 51) dX12_keeps_50 rfl ?_
    refine st_iadd (pc' := 52) dX12_keeps_51 rfl ?_
    refine P_X12_213_74 dX12_keeps_52 (pc' := 55) rfl rfl ?_
    exact st_vret dX12_keeps_55 rfl rfl h
  · replace h := h.2 c
    refine st_aload_n (pc' := 10) dX12_keeps_9 rfl rfl (j := 0) rfl ?_
    refine st_aload_n (pc' := 11) dX12_keeps_10 rfl rfl (j := 0) rfl ?_
    refine G_X12_210_74 dX12_keeps_11 (pc' := 14) rfl rfl ?_
    refine st_iconst (pc' := 15) dX12_keeps_14 rfl ?_
    refine st_iadd (pc' := 16) dX12_keeps_15 rfl ?_
    refine st_bipush (pc' := 18) dX12_keeps_16 rfl (by decide) ?_
    refine st_irem (pc' := 19) (z := (rem32 ((gi I 74 65) + 1) 20)) dX12_keeps_18 rfl (by decide) rfl ?_
    refine P_X12_210_74 dX12_keeps_19 (pc' := 22) rfl rfl ?_
    refine st_aload_n (pc' := 23) dX12_keeps_22 rfl rfl (j := 0) rfl ?_
    refine st_dup (pc' := 24) dX12_keeps_23 rfl rfl ?_
    refine G_X12_213_74 dX12_keeps_24 (pc' := 27) rfl rfl ?_
    rw [show gi (si I 74 65 (rem32 ((gi I 74 65) + 1) 20)) 74 66 = (gi I 74 66) from (gi_idx _ _ _ (by decide))]
    refine st_iconst (pc' := 28) dX12_keeps_27 rfl ?_
    refine st_isub (pc' := 29) dX12_keeps_28 rfl ?_
    refine P_X12_213_74 dX12_keeps_29 (pc' := 32) rfl rfl ?_
    refine st_aload_n (pc' := 33) dX12_keeps_32 rfl rfl (j := 0) rfl ?_
    refine st_aload_n (pc' := 34) dX12_keeps_33 rfl rfl (j := 0) rfl ?_
    refine st_aload_n (pc' := 35) dX12_keeps_34 rfl rfl (j := 0) rfl ?_
    refine G_X12_213_74 dX12_keeps_35 (pc' := 38) rfl rfl ?_
    refine st_callV (pc' := 41) (kc := k - 1) (E' := LAY) (cal := m_X12_ring) (n := 1) (as := [vI (gi (si (si I 74 65 (rem32 ((gi I 74 65) + 1) 20)) 74 66 ((gi I 74 66) - 1)) 74 66)]) (S := [vR (some 74)]) dX12_keeps_38 rfl l_X12_476 k_X12_ring rfl L_74 c_X12 rfl rfl (Nat.le_of_ble_eq_true rfl) (by omega) ⟨Nat.le_refl _, Nat.le_refl _, Nat.le_refl _, Nat.le_refl _⟩ (Q1 := fun r M' => WP k LAY m_X12_keeps 41 [(0, vR (some 74))] (r.toList ++ [vR (some 74)]) M' Q) (WPm.of k_X12_ring.1 (Nat.le_of_ble_eq_true rfl) (B_X12_ring_0 (by omega) ?_)) (fun r M' q => q)
    change WP _ LAY m_X12_keeps 41 [(0, vR (some 74))] [vI (2 + (rem32 ((gi (si (si I 74 65 (rem32 ((gi I 74 65) + 1) 20)) 74 66 ((gi I 74 66) - 1)) 74 65) + (gi (si (si I 74 65 (rem32 ((gi I 74 65) + 1) 20)) 74 66 ((gi I 74 66) - 1)) 74 66)) 20)), vR (some 74)] (mem (P, some 5, some 22) (si (si I 74 65 (rem32 ((gi I 74 65) + 1) 20)) 74 66 ((gi I 74 66) - 1)) J) Q
    refine st_iconst (pc' := 42) dX12_keeps_41 rfl ?_
    refine st_callV (pc' := 45) (kc := k - 1) (E' := LAY) (cal := m_X12_copies) (n := 2) (as := [vI (2 + (rem32 ((gi (si (si I 74 65 (rem32 ((gi I 74 65) + 1) 20)) 74 66 ((gi I 74 66) - 1)) 74 65) + (gi (si (si I 74 65 (rem32 ((gi I 74 65) + 1) 20)) 74 66 ((gi I 74 66) - 1)) 74 66)) 20)), vI 0]) (S := []) dX12_keeps_42 rfl l_X12_479 k_X12_copies rfl L_74 c_X12 rfl rfl (Nat.le_of_ble_eq_true rfl) (by omega) ⟨Nat.le_refl _, Nat.le_refl _, Nat.le_refl _, Nat.le_refl _⟩ h (fun r M' q => ?_)
    obtain ⟨I5, J6, rfl, rfl, h⟩ := q
    change WP _ LAY m_X12_keeps 45 [(0, vR (some 74))] [] (mem (P, some 5, some 22) I5 J6) Q
    refine st_aload_n (pc' := 46) dX12_keeps_45 rfl rfl (j := 0) rfl ?_
    refine st_dup (pc' := 47) dX12_keeps_46 rfl rfl ?_
    refine G_X12_213_74 dX12_keeps_47 (pc' := 50) rfl rfl ?_
    refine st_iconst (pc' := 51) dX12_keeps_50 rfl ?_
    refine st_iadd (pc' := 52) dX12_keeps_51 rfl ?_
    refine P_X12_213_74 dX12_keeps_52 (pc' := 55) rfl rfl ?_
    exact st_vret dX12_keeps_55 rfl rfl h
set_option maxRecDepth 20000 in
set_option maxHeartbeats 4000000 in
theorem B_X12_drop_0 {k : Nat} {P : Option Nat} {I : Nat → Nat → Int32} {J : Nat → Nat → Int64} {x1 : Int} {Q : Option AV → Mem → Prop} (hk : 1 ≤ k) (h : (0 ≤ (gi I 74 13) ∧ (gi I 74 13) < 2) ∧ (inR x1 ∧ (((0 ≤ x1 ∧ x1 < gi I 83 (gi I 74 13).toNat) → (WPm (k - 1) LAY m_X12_keeps [vR (some 74)] (mem (P, some 5, some 22) I J) (retV (fun I4 J5 => (0 ≤ x1 ∧ x1 < 132) ∧ (Q (some (vI (gi I4 115 (x1).toNat))) (mem (P, some 5, some 22) (si (si (si I4 115 (x1).toNat 0) 113 (x1).toNat (-1)) 114 (x1).toNat 0) J5))) (P, some 5, some 22)))) ∧ (¬ (0 ≤ x1 ∧ x1 < gi I 83 (gi I 74 13).toNat) → (Q (some (vI (-1))) (mem (P, some 5, some 22) (si I 107 2 ((gi I 107 2) + 1)) J)))))) : WP k LAY m_X12_drop 0 [(0, vR (some 74)), (1, vI x1)] [] (mem (P, some 5, some 22) I J) Q := by
  refine st_aload_n (pc' := 1) dX12_drop_0 rfl rfl (j := 0) rfl ?_
  refine st_iload_n (pc' := 2) dX12_drop_1 rfl rfl (j := 1) rfl ?_
  obtain ⟨e1, h⟩ := h
  obtain ⟨e2, h⟩ := h
  refine st_callV (pc' := 5) (kc := k - 1) (E' := LAY) (cal := m_X12_isReader) (n := 1) (as := [vI x1]) (S := []) dX12_drop_2 rfl l_X12_562 k_X12_isReader rfl L_74 c_X12 rfl rfl (Nat.le_of_ble_eq_true rfl) (by omega) ⟨Nat.le_refl _, Nat.le_refl _, Nat.le_refl _, Nat.le_refl _⟩ (Q1 := fun r M' => WP k LAY m_X12_drop 5 [(0, vR (some 74)), (1, vI x1)] (r.toList ++ []) M' Q) (S_X12_isReader (by omega) e1 e2 ?_) (fun r M' q => q)
  change WP _ LAY m_X12_drop 5 [(0, vR (some 74)), (1, vI x1)] [vI (b2i (0 ≤ x1 ∧ x1 < gi I 83 (gi I 74 13).toNat))] (mem (P, some 5, some 22) I J) Q
  refine st_if_ne (tg := 14) (pc' := 8) dX12_drop_5 (by decide) rfl (b2i_in _) (fun c => ?_) (fun c => ?_)
  · replace h := h.1 (b2i_t.mp c)
    refine st_aload_n (pc' := 15) dX12_drop_14 rfl rfl (j := 0) rfl ?_
    refine st_callV (pc' := 18) (kc := k - 1) (E' := LAY) (cal := m_X12_keeps) (n := 0) (as := []) (S := []) dX12_drop_15 rfl l_X12_572 k_X12_keeps rfl L_74 c_X12 rfl rfl (Nat.le_of_ble_eq_true rfl) (by omega) ⟨Nat.le_refl _, Nat.le_refl _, Nat.le_refl _, Nat.le_refl _⟩ h (fun r M' q => ?_)
    obtain ⟨I4, J5, rfl, rfl, h⟩ := q
    change WP _ LAY m_X12_drop 18 [(0, vR (some 74)), (1, vI x1)] [] (mem (P, some 5, some 22) I4 J5) Q
    refine st_aload_n (pc' := 19) dX12_drop_18 rfl rfl (j := 0) rfl ?_
    refine G_X12_192_74 dX12_drop_19 (pc' := 22) rfl rfl ?_
    refine st_iload_n (pc' := 23) dX12_drop_22 rfl rfl (j := 1) rfl ?_
    obtain ⟨e6, h⟩ := h
    refine st_iaload (pc' := 24) (v := (gi I4 115 (x1).toNat)) dX12_drop_23 rfl L_115 (by decide) e6 (show gi I4 115 (x1).toNat = (gi I4 115 (x1).toNat) from rfl) ?_
    refine st_istore_n (pc' := 25) (L' := [(2, vI (gi I4 115 (x1).toNat)), (0, vR (some 74)), (1, vI x1)]) dX12_drop_24 rfl rfl (by decide) rfl ?_
    refine st_aload_n (pc' := 26) dX12_drop_25 rfl rfl (j := 1) rfl ?_
    refine G_X12_192_74 dX12_drop_26 (pc' := 29) rfl rfl ?_
    refine st_iload_n (pc' := 30) dX12_drop_29 rfl rfl (j := 2) rfl ?_
    refine st_iconst (pc' := 31) dX12_drop_30 rfl ?_
    refine st_iastore (pc' := 32) (M' := (mem (P, some 5, some 22) (si I4 115 (x1).toNat 0) J5)) dX12_drop_31 rfl L_115 (by decide) e6 rfl ?_
    refine st_aload_n (pc' := 33) dX12_drop_32 rfl rfl (j := 1) rfl ?_
    refine G_X12_186_74 dX12_drop_33 (pc' := 36) rfl rfl ?_
    refine st_iload_n (pc' := 37) dX12_drop_36 rfl rfl (j := 2) rfl ?_
    refine st_iconst (pc' := 38) dX12_drop_37 rfl ?_
    refine st_iastore (pc' := 39) (M' := (mem (P, some 5, some 22) (si (si I4 115 (x1).toNat 0) 113 (x1).toNat (-1)) J5)) dX12_drop_38 rfl L_113 (by decide) e6 rfl ?_
    refine st_aload_n (pc' := 40) dX12_drop_39 rfl rfl (j := 1) rfl ?_
    refine G_X12_189_74 dX12_drop_40 (pc' := 43) rfl rfl ?_
    refine st_iload_n (pc' := 44) dX12_drop_43 rfl rfl (j := 2) rfl ?_
    refine st_iconst (pc' := 45) dX12_drop_44 rfl ?_
    refine st_iastore (pc' := 46) (M' := (mem (P, some 5, some 22) (si (si (si I4 115 (x1).toNat 0) 113 (x1).toNat (-1)) 114 (x1).toNat 0) J5)) dX12_drop_45 rfl L_114 (by decide) e6 rfl ?_
    refine st_iload_n (pc' := 47) dX12_drop_46 rfl rfl (j := 0) rfl ?_
    exact st_iret (ty := .int) dX12_drop_47 rfl rfl rfl h
  · replace h := h.2 (b2i_f.mp c)
    refine st_aload_n (pc' := 9) dX12_drop_8 rfl rfl (j := 0) rfl ?_
    refine st_iconst (pc' := 10) dX12_drop_9 rfl ?_
    refine st_callV (pc' := 13) (kc := k - 1) (E' := LAY) (cal := m_X12_refuses) (n := 1) (as := [vI 2]) (S := []) dX12_drop_10 rfl l_X12_279 k_X12_refuses rfl L_74 c_X12 rfl rfl (Nat.le_of_ble_eq_true rfl) (by omega) ⟨Nat.le_refl _, Nat.le_refl _, Nat.le_refl _, Nat.le_refl _⟩ (Q1 := fun r M' => WP k LAY m_X12_drop 13 [(0, vR (some 74)), (1, vI x1)] (r.toList ++ []) M' Q) (WPm.of k_X12_refuses.1 (Nat.le_of_ble_eq_true rfl) (B_X12_refuses_0 (by omega) ?_)) (fun r M' q => q)
    refine ⟨by decide, ?_⟩
    change WP _ LAY m_X12_drop 13 [(0, vR (some 74)), (1, vI x1)] [vI (-1)] (mem (P, some 5, some 22) (si I 107 2 ((gi I 107 2) + 1)) J) Q
    exact st_iret (ty := .int) dX12_drop_13 rfl rfl rfl h
set_option maxRecDepth 20000 in
set_option maxHeartbeats 4000000 in
theorem B_X12_end_0 {k : Nat} {P : Option Nat} {I : Nat → Nat → Int32} {J : Nat → Nat → Int64} {x1 : Int} {Q : Option AV → Mem → Prop} (hk : 1 ≤ k) (h : inR x1 ∧ ((x1 < 0 → (Q (some (vI 0)) (mem (P, some 5, some 22) (si I 107 0 ((gi I 107 0) + 1)) J))) ∧ (¬ x1 < 0 → ((x1 ≤ (gi I 74 1) → (Q (some (vI 1)) (mem (P, some 5, some 22) (si I 74 1 x1) J))) ∧ (¬ x1 ≤ (gi I 74 1) → (Q (some (vI 0)) (mem (P, some 5, some 22) (si I 107 0 ((gi I 107 0) + 1)) J))))))) : WP k LAY m_X12_end 0 [(0, vR (some 74)), (1, vI x1)] [] (mem (P, some 5, some 22) I J) Q := by
  refine st_iload_n (pc' := 1) dX12_end_0 rfl rfl (j := 1) rfl ?_
  obtain ⟨e1, h⟩ := h
  refine st_if_lt (tg := 12) (pc' := 4) dX12_end_1 (by decide) rfl e1 (fun c => ?_) (fun c => ?_)
  · replace h := h.1 c
    refine st_aload_n (pc' := 13) dX12_end_12 rfl rfl (j := 0) rfl ?_
    refine st_iconst (pc' := 14) dX12_end_13 rfl ?_
    refine st_callV (pc' := 17) (kc := k - 1) (E' := LAY) (cal := m_X12_refuses) (n := 1) (as := [vI 0]) (S := []) dX12_end_14 rfl l_X12_279 k_X12_refuses rfl L_74 c_X12 rfl rfl (Nat.le_of_ble_eq_true rfl) (by omega) ⟨Nat.le_refl _, Nat.le_refl _, Nat.le_refl _, Nat.le_refl _⟩ (Q1 := fun r M' => WP k LAY m_X12_end 17 [(0, vR (some 74)), (1, vI x1)] (r.toList ++ []) M' Q) (WPm.of k_X12_refuses.1 (Nat.le_of_ble_eq_true rfl) (B_X12_refuses_0 (by omega) ?_)) (fun r M' q => q)
    refine ⟨by decide, ?_⟩
    change WP _ LAY m_X12_end 17 [(0, vR (some 74)), (1, vI x1)] [vI (-1)] (mem (P, some 5, some 22) (si I 107 0 ((gi I 107 0) + 1)) J) Q
    refine st_if_lt (tg := 24) (pc' := 20) dX12_end_17 (by decide) rfl (by decide) (fun c => ?_) (fun c => ?_)
    · refine st_iconst (pc' := 25) dX12_end_24 rfl ?_
      exact st_iret (ty := .boolean) dX12_end_25 rfl (by decide) rfl h
    · exact absurd c (by decide)
  · replace h := h.2 c
    refine st_iload_n (pc' := 5) dX12_end_4 rfl rfl (j := 1) rfl ?_
    refine st_aload_n (pc' := 6) dX12_end_5 rfl rfl (j := 0) rfl ?_
    refine G_X12_13_74 dX12_end_6 (pc' := 9) rfl rfl ?_
    refine st_icmp_le (tg := 26) (pc' := 12) dX12_end_9 (by decide) rfl e1 (gi_in _ _ _) (fun c => ?_) (fun c => ?_)
    · replace h := h.1 c
      refine st_aload_n (pc' := 27) dX12_end_26 rfl rfl (j := 0) rfl ?_
      refine st_iload_n (pc' := 28) dX12_end_27 rfl rfl (j := 1) rfl ?_
      refine P_X12_13_74 dX12_end_28 (pc' := 31) rfl rfl ?_
      refine st_iconst (pc' := 32) dX12_end_31 rfl ?_
      exact st_iret (ty := .boolean) dX12_end_32 rfl (by decide) rfl h
    · replace h := h.2 c
      refine st_aload_n (pc' := 13) dX12_end_12 rfl rfl (j := 0) rfl ?_
      refine st_iconst (pc' := 14) dX12_end_13 rfl ?_
      refine st_callV (pc' := 17) (kc := k - 1) (E' := LAY) (cal := m_X12_refuses) (n := 1) (as := [vI 0]) (S := []) dX12_end_14 rfl l_X12_279 k_X12_refuses rfl L_74 c_X12 rfl rfl (Nat.le_of_ble_eq_true rfl) (by omega) ⟨Nat.le_refl _, Nat.le_refl _, Nat.le_refl _, Nat.le_refl _⟩ (Q1 := fun r M' => WP k LAY m_X12_end 17 [(0, vR (some 74)), (1, vI x1)] (r.toList ++ []) M' Q) (WPm.of k_X12_refuses.1 (Nat.le_of_ble_eq_true rfl) (B_X12_refuses_0 (by omega) ?_)) (fun r M' q => q)
      refine ⟨by decide, ?_⟩
      change WP _ LAY m_X12_end 17 [(0, vR (some 74)), (1, vI x1)] [vI (-1)] (mem (P, some 5, some 22) (si I 107 0 ((gi I 107 0) + 1)) J) Q
      refine st_if_lt (tg := 24) (pc' := 20) dX12_end_17 (by decide) rfl (by decide) (fun c => ?_) (fun c => ?_)
      · refine st_iconst (pc' := 25) dX12_end_24 rfl ?_
        exact st_iret (ty := .boolean) dX12_end_25 rfl (by decide) rfl h
      · exact absurd c (by decide)
set_option maxRecDepth 20000 in
set_option maxHeartbeats 4000000 in
theorem B_X12_fault_0 {k : Nat} {P : Option Nat} {I : Nat → Nat → Int32} {J : Nat → Nat → Int64} {x1 : Int} {Q : Option AV → Mem → Prop} (hk : 0 ≤ k) (h : inR x1 ∧ ((¬ x1 = 0 → ((¬ x1 = 1 → (Q (some (vI (-1))) (mem (P, some 5, some 22) I J))) ∧ (x1 = 1 → (Q (some (vI (gi I 74 11))) (mem (P, some 5, some 22) I J))))) ∧ (x1 = 0 → (Q (some (vI (gi I 74 10))) (mem (P, some 5, some 22) I J))))) : WP k LAY m_X12_fault 0 [(0, vR (some 74)), (1, vI x1)] [] (mem (P, some 5, some 22) I J) Q := by
  refine st_iload_n (pc' := 1) dX12_fault_0 rfl rfl (j := 1) rfl ?_
  obtain ⟨e1, h⟩ := h
  refine st_if_ne (tg := 11) (pc' := 4) dX12_fault_1 (by decide) rfl e1 (fun c => ?_) (fun c => ?_)
  · replace h := h.1 c
    refine st_iload_n (pc' := 12) dX12_fault_11 rfl rfl (j := 1) rfl ?_
    refine st_iconst (pc' := 13) dX12_fault_12 rfl ?_
    refine st_icmp_ne (tg := 23) (pc' := 16) dX12_fault_13 (by decide) rfl e1 (by decide) (fun c => ?_) (fun c => ?_)
    · replace h := h.1 c
      refine st_iconst (pc' := 24) dX12_fault_23 rfl ?_
      exact st_iret (ty := .int) dX12_fault_24 rfl rfl rfl h
    · replace h := h.2 c
      refine st_aload_n (pc' := 17) dX12_fault_16 rfl rfl (j := 0) rfl ?_
      refine G_X12_45_74 dX12_fault_17 (pc' := 20) rfl rfl ?_
      refine st_goto (pc' := 24) dX12_fault_20 (by decide) ?_
      exact st_iret (ty := .int) dX12_fault_24 rfl rfl rfl h
  · replace h := h.2 c
    refine st_aload_n (pc' := 5) dX12_fault_4 rfl rfl (j := 0) rfl ?_
    refine G_X12_42_74 dX12_fault_5 (pc' := 8) rfl rfl ?_
    refine st_goto (pc' := 24) dX12_fault_8 (by decide) ?_
    exact st_iret (ty := .int) dX12_fault_24 rfl rfl rfl h
set_option maxRecDepth 20000 in
set_option maxHeartbeats 4000000 in
theorem B_X12_put_0 {k : Nat} {P : Option Nat} {I : Nat → Nat → Int32} {J : Nat → Nat → Int64} {x1 : Int} {Q : Option AV → Mem → Prop} (hk : 0 ≤ k) (h : WP k LAY m_X12_put 3 [(0, vR (some 74)), (1, vI x1), (2, vI 24)] [] (mem (P, some 5, some 22) I J) Q) : WP k LAY m_X12_put 0 [(0, vR (some 74)), (1, vI x1)] [] (mem (P, some 5, some 22) I J) Q := by
  refine st_bipush (pc' := 2) dX12_put_0 rfl (by decide) ?_
  refine st_istore_n (pc' := 3) (L' := [(2, vI 24), (0, vR (some 74)), (1, vI x1)]) dX12_put_2 rfl rfl (by decide) rfl ?_
  refine WP_sub (L' := [(0, vR (some 74)), (1, vI x1), (2, vI 24)]) [1, 2, 0] rfl ?_
  exact h
set_option maxRecDepth 20000 in
set_option maxHeartbeats 4000000 in
theorem B_X12_put_3 {k : Nat} {P : Option Nat} {I : Nat → Nat → Int32} {J : Nat → Nat → Int64} {x1 : Int} {x2 : Int} {Q : Option AV → Mem → Prop} (hk : 0 ≤ k) (h : inR x2 ∧ ((x2 < 0 → (Q none (mem (P, some 5, some 22) I J))) ∧ (¬ x2 < 0 → ((0 ≤ (gi I 74 1) ∧ (gi I 74 1) < 1800) ∧ (WP k LAY m_X12_put 3 [(0, vR (some 74)), (1, vI x1), (2, vI (x2 + (-8)))] [] (mem (P, some 5, some 22) (si (si I 75 (gi I 74 1).toNat (and32 (shr32 x1 x2) 255)) 74 1 ((gi I 74 1) + 1)) J) Q))))) : WP k LAY m_X12_put 3 [(0, vR (some 74)), (1, vI x1), (2, vI x2)] [] (mem (P, some 5, some 22) I J) Q := by
  refine st_iload_n (pc' := 4) dX12_put_3 rfl rfl (j := 2) rfl ?_
  obtain ⟨e1, h⟩ := h
  refine st_if_lt (tg := 39) (pc' := 7) dX12_put_4 (by decide) rfl e1 (fun c => ?_) (fun c => ?_)
  · replace h := h.1 c
    exact st_vret dX12_put_39 rfl rfl h
  · replace h := h.2 c
    refine st_aload_n (pc' := 8) dX12_put_7 rfl rfl (j := 0) rfl ?_
    refine G_X12_7_74 dX12_put_8 (pc' := 11) rfl rfl ?_
    refine st_aload_n (pc' := 12) dX12_put_11 rfl rfl (j := 0) rfl ?_
    refine G_X12_13_74 dX12_put_12 (pc' := 15) rfl rfl ?_
    refine st_iload_n (pc' := 16) dX12_put_15 rfl rfl (j := 1) rfl ?_
    refine st_iload_n (pc' := 17) dX12_put_16 rfl rfl (j := 2) rfl ?_
    refine st_ishr (pc' := 18) (z := (shr32 x1 x2)) dX12_put_17 rfl rfl ?_
    refine st_sipush (pc' := 21) dX12_put_18 rfl (by decide) ?_
    refine st_iand (pc' := 22) (z := (and32 (shr32 x1 x2) 255)) dX12_put_21 rfl rfl ?_
    obtain ⟨e2, h⟩ := h
    refine st_iastore (pc' := 23) (M' := (mem (P, some 5, some 22) (si I 75 (gi I 74 1).toNat (and32 (shr32 x1 x2) 255)) J)) dX12_put_22 rfl L_75 (by decide) e2 rfl ?_
    refine st_aload_n (pc' := 24) dX12_put_23 rfl rfl (j := 0) rfl ?_
    refine st_dup (pc' := 25) dX12_put_24 rfl rfl ?_
    refine G_X12_13_74 dX12_put_25 (pc' := 28) rfl rfl ?_
    rw [show gi (si I 75 (gi I 74 1).toNat (and32 (shr32 x1 x2) 255)) 74 1 = (gi I 74 1) from (gi_cell _ _ _ _ (by decide))]
    refine st_iconst (pc' := 29) dX12_put_28 rfl ?_
    refine st_iadd (pc' := 30) dX12_put_29 rfl ?_
    refine P_X12_13_74 dX12_put_30 (pc' := 33) rfl rfl ?_
    refine st_iinc (pc' := 36) (L' := [(2, vI (x2 + (-8))), (0, vR (some 74)), (1, vI x1)]) (j := 2) dX12_put_33 rfl (by decide) rfl rfl ?_
    refine st_goto (pc' := 3) dX12_put_36 (by decide) ?_
    refine WP_sub (L' := [(0, vR (some 74)), (1, vI x1), (2, vI (x2 + (-8)))]) [1, 2, 0] rfl ?_
    exact h
set_option maxRecDepth 20000 in
set_option maxHeartbeats 4000000 in
theorem B_X12_feed_0 {k : Nat} {P : Option Nat} {I : Nat → Nat → Int32} {J : Nat → Nat → Int64} {x1 : Int} {x2 : Int} {x3 : Int} {x4 : Int} {x5 : Int} {Q : Option AV → Mem → Prop} (hk : 1 ≤ k) (h : inR ((gi I 74 1) + 20) ∧ ((((gi I 74 1) + 20) ≤ 1600 → (WPm (k - 1) LAY m_X12_put [vR (some 74), vI x1] (mem (P, some 5, some 22) I J) (retV (fun I3 J4 => WPm (k - 1) LAY m_X12_put [vR (some 74), vI x2] (mem (P, some 5, some 22) I3 J4) (retV (fun I6 J7 => WPm (k - 1) LAY m_X12_put [vR (some 74), vI x3] (mem (P, some 5, some 22) I6 J7) (retV (fun I9 J10 => WPm (k - 1) LAY m_X12_put [vR (some 74), vI x4] (mem (P, some 5, some 22) I9 J10) (retV (fun I12 J13 => WPm (k - 1) LAY m_X12_put [vR (some 74), vI x5] (mem (P, some 5, some 22) I12 J13) (retV (fun I15 J16 => Q (some (vI (gi I15 74 1))) (mem (P, some 5, some 22) I15 J16)) (P, some 5, some 22))) (P, some 5, some 22))) (P, some 5, some 22))) (P, some 5, some 22))) (P, some 5, some 22)))) ∧ (¬ ((gi I 74 1) + 20) ≤ 1600 → (Q (some (vI (-1))) (mem (P, some 5, some 22) (si I 107 0 ((gi I 107 0) + 1)) J))))) : WP k LAY m_X12_feed 0 [(0, vR (some 74)), (1, vI x1), (2, vI x2), (3, vI x3), (4, vI x4), (5, vI x5)] [] (mem (P, some 5, some 22) I J) Q := by
  refine st_aload_n (pc' := 1) dX12_feed_0 rfl rfl (j := 0) rfl ?_
  refine G_X12_13_74 dX12_feed_1 (pc' := 4) rfl rfl ?_
  refine st_bipush (pc' := 6) dX12_feed_4 rfl (by decide) ?_
  refine st_iadd (pc' := 7) dX12_feed_6 rfl ?_
  refine st_sipush (pc' := 10) dX12_feed_7 rfl (by decide) ?_
  obtain ⟨e1, h⟩ := h
  refine st_icmp_le (tg := 19) (pc' := 13) dX12_feed_10 (by decide) rfl e1 (by decide) (fun c => ?_) (fun c => ?_)
  · replace h := h.1 c
    refine st_aload_n (pc' := 20) dX12_feed_19 rfl rfl (j := 0) rfl ?_
    refine st_iload_n (pc' := 21) dX12_feed_20 rfl rfl (j := 1) rfl ?_
    refine st_callV (pc' := 24) (kc := k - 1) (E' := LAY) (cal := m_X12_put) (n := 1) (as := [vI x1]) (S := []) dX12_feed_21 rfl l_X12_283 k_X12_put rfl L_74 c_X12 rfl rfl (Nat.le_of_ble_eq_true rfl) (by omega) ⟨Nat.le_refl _, Nat.le_refl _, Nat.le_refl _, Nat.le_refl _⟩ h (fun r M' q => ?_)
    obtain ⟨I3, J4, rfl, rfl, h⟩ := q
    change WP _ LAY m_X12_feed 24 [(0, vR (some 74)), (1, vI x1), (2, vI x2), (3, vI x3), (4, vI x4), (5, vI x5)] [] (mem (P, some 5, some 22) I3 J4) Q
    refine st_aload_n (pc' := 25) dX12_feed_24 rfl rfl (j := 0) rfl ?_
    refine st_iload_n (pc' := 26) dX12_feed_25 rfl rfl (j := 2) rfl ?_
    refine st_callV (pc' := 29) (kc := k - 1) (E' := LAY) (cal := m_X12_put) (n := 1) (as := [vI x2]) (S := []) dX12_feed_26 rfl l_X12_283 k_X12_put rfl L_74 c_X12 rfl rfl (Nat.le_of_ble_eq_true rfl) (by omega) ⟨Nat.le_refl _, Nat.le_refl _, Nat.le_refl _, Nat.le_refl _⟩ h (fun r M' q => ?_)
    obtain ⟨I6, J7, rfl, rfl, h⟩ := q
    change WP _ LAY m_X12_feed 29 [(0, vR (some 74)), (1, vI x1), (2, vI x2), (3, vI x3), (4, vI x4), (5, vI x5)] [] (mem (P, some 5, some 22) I6 J7) Q
    refine st_aload_n (pc' := 30) dX12_feed_29 rfl rfl (j := 0) rfl ?_
    refine st_iload_n (pc' := 31) dX12_feed_30 rfl rfl (j := 3) rfl ?_
    refine st_callV (pc' := 34) (kc := k - 1) (E' := LAY) (cal := m_X12_put) (n := 1) (as := [vI x3]) (S := []) dX12_feed_31 rfl l_X12_283 k_X12_put rfl L_74 c_X12 rfl rfl (Nat.le_of_ble_eq_true rfl) (by omega) ⟨Nat.le_refl _, Nat.le_refl _, Nat.le_refl _, Nat.le_refl _⟩ h (fun r M' q => ?_)
    obtain ⟨I9, J10, rfl, rfl, h⟩ := q
    change WP _ LAY m_X12_feed 34 [(0, vR (some 74)), (1, vI x1), (2, vI x2), (3, vI x3), (4, vI x4), (5, vI x5)] [] (mem (P, some 5, some 22) I9 J10) Q
    refine st_aload_n (pc' := 35) dX12_feed_34 rfl rfl (j := 0) rfl ?_
    refine st_iload (pc' := 37) dX12_feed_35 rfl (j := 4) rfl ?_
    refine st_callV (pc' := 40) (kc := k - 1) (E' := LAY) (cal := m_X12_put) (n := 1) (as := [vI x4]) (S := []) dX12_feed_37 rfl l_X12_283 k_X12_put rfl L_74 c_X12 rfl rfl (Nat.le_of_ble_eq_true rfl) (by omega) ⟨Nat.le_refl _, Nat.le_refl _, Nat.le_refl _, Nat.le_refl _⟩ h (fun r M' q => ?_)
    obtain ⟨I12, J13, rfl, rfl, h⟩ := q
    change WP _ LAY m_X12_feed 40 [(0, vR (some 74)), (1, vI x1), (2, vI x2), (3, vI x3), (4, vI x4), (5, vI x5)] [] (mem (P, some 5, some 22) I12 J13) Q
    refine st_aload_n (pc' := 41) dX12_feed_40 rfl rfl (j := 0) rfl ?_
    refine st_iload (pc' := 43) dX12_feed_41 rfl (j := 5) rfl ?_
    refine st_callV (pc' := 46) (kc := k - 1) (E' := LAY) (cal := m_X12_put) (n := 1) (as := [vI x5]) (S := []) dX12_feed_43 rfl l_X12_283 k_X12_put rfl L_74 c_X12 rfl rfl (Nat.le_of_ble_eq_true rfl) (by omega) ⟨Nat.le_refl _, Nat.le_refl _, Nat.le_refl _, Nat.le_refl _⟩ h (fun r M' q => ?_)
    obtain ⟨I15, J16, rfl, rfl, h⟩ := q
    change WP _ LAY m_X12_feed 46 [(0, vR (some 74)), (1, vI x1), (2, vI x2), (3, vI x3), (4, vI x4), (5, vI x5)] [] (mem (P, some 5, some 22) I15 J16) Q
    refine st_aload_n (pc' := 47) dX12_feed_46 rfl rfl (j := 0) rfl ?_
    refine G_X12_13_74 dX12_feed_47 (pc' := 50) rfl rfl ?_
    exact st_iret (ty := .int) dX12_feed_50 rfl rfl rfl h
  · replace h := h.2 c
    refine st_aload_n (pc' := 14) dX12_feed_13 rfl rfl (j := 0) rfl ?_
    refine st_iconst (pc' := 15) dX12_feed_14 rfl ?_
    refine st_callV (pc' := 18) (kc := k - 1) (E' := LAY) (cal := m_X12_refuses) (n := 1) (as := [vI 0]) (S := []) dX12_feed_15 rfl l_X12_279 k_X12_refuses rfl L_74 c_X12 rfl rfl (Nat.le_of_ble_eq_true rfl) (by omega) ⟨Nat.le_refl _, Nat.le_refl _, Nat.le_refl _, Nat.le_refl _⟩ (Q1 := fun r M' => WP k LAY m_X12_feed 18 [(0, vR (some 74)), (1, vI x1), (2, vI x2), (3, vI x3), (4, vI x4), (5, vI x5)] (r.toList ++ []) M' Q) (WPm.of k_X12_refuses.1 (Nat.le_of_ble_eq_true rfl) (B_X12_refuses_0 (by omega) ?_)) (fun r M' q => q)
    refine ⟨by decide, ?_⟩
    change WP _ LAY m_X12_feed 18 [(0, vR (some 74)), (1, vI x1), (2, vI x2), (3, vI x3), (4, vI x4), (5, vI x5)] [vI (-1)] (mem (P, some 5, some 22) (si I 107 0 ((gi I 107 0) + 1)) J) Q
    exact st_iret (ty := .int) dX12_feed_18 rfl rfl rfl h
set_option maxRecDepth 20000 in
set_option maxHeartbeats 4000000 in
theorem B_X12_must_0 {k : Nat} {P : Option Nat} {I : Nat → Nat → Int32} {J : Nat → Nat → Int64} {x1 : Int} {Q : Option AV → Mem → Prop} (hk : 2 ≤ k) (h : ((gi I 74 12) = (-1) → (inR x1 ∧ (((gi I 74 3 = 3 ∧ gi I 74 6 = x1) → ((¬ (gi I 74 8) = 0 → (Q none (mem (P, some 5, some 22) I J))) ∧ ((gi I 74 8) = 0 → (WPm (k - 1) LAY m_X12_ahead [vR (some 74)] (mem (P, some 5, some 22) I J) (retV (fun I3 J4 => Q none (mem (P, some 5, some 22) I3 J4)) (P, some 5, some 22)))))) ∧ (¬ (gi I 74 3 = 3 ∧ gi I 74 6 = x1) → (((gi I 74 8) ≤ 0 → (Q none (mem (P, some 5, some 22) (si (si I 74 8 1) 74 9 (gi I 74 4)) J))) ∧ (¬ (gi I 74 8) ≤ 0 → ((¬ (gi I 74 8) = 0 → (Q none (mem (P, some 5, some 22) I J))) ∧ ((gi I 74 8) = 0 → (WPm (k - 1) LAY m_X12_ahead [vR (some 74)] (mem (P, some 5, some 22) I J) (retV (fun I6 J7 => Q none (mem (P, some 5, some 22) I6 J7)) (P, some 5, some 22))))))))))) ∧ (¬ (gi I 74 12) = (-1) → (((gi I 74 8) ≤ 0 → (inR x1 ∧ (((gi (si (si I 74 8 1) 74 9 (gi I 74 12)) 74 3 = 3 ∧ gi (si (si I 74 8 1) 74 9 (gi I 74 12)) 74 6 = x1) → (Q none (mem (P, some 5, some 22) (si (si I 74 8 1) 74 9 (gi I 74 12)) J))) ∧ (¬ (gi (si (si I 74 8 1) 74 9 (gi I 74 12)) 74 3 = 3 ∧ gi (si (si I 74 8 1) 74 9 (gi I 74 12)) 74 6 = x1) → (((gi (si (si I 74 8 1) 74 9 (gi I 74 12)) 74 8) ≤ 0 → (Q none (mem (P, some 5, some 22) (si (si (si (si I 74 8 1) 74 9 (gi I 74 12)) 74 8 1) 74 9 (gi I 74 4)) J))) ∧ (¬ (gi (si (si I 74 8 1) 74 9 (gi I 74 12)) 74 8) ≤ 0 → (Q none (mem (P, some 5, some 22) (si (si I 74 8 1) 74 9 (gi I 74 12)) J)))))))) ∧ (¬ (gi I 74 8) ≤ 0 → (inR x1 ∧ (((gi I 74 3 = 3 ∧ gi I 74 6 = x1) → ((¬ (gi I 74 8) = 0 → (Q none (mem (P, some 5, some 22) I J))) ∧ ((gi I 74 8) = 0 → (WPm (k - 1) LAY m_X12_ahead [vR (some 74)] (mem (P, some 5, some 22) I J) (retV (fun I11 J12 => Q none (mem (P, some 5, some 22) I11 J12)) (P, some 5, some 22)))))) ∧ (¬ (gi I 74 3 = 3 ∧ gi I 74 6 = x1) → (((gi I 74 8) ≤ 0 → (Q none (mem (P, some 5, some 22) (si (si I 74 8 1) 74 9 (gi I 74 4)) J))) ∧ (¬ (gi I 74 8) ≤ 0 → ((¬ (gi I 74 8) = 0 → (Q none (mem (P, some 5, some 22) I J))) ∧ ((gi I 74 8) = 0 → (WPm (k - 1) LAY m_X12_ahead [vR (some 74)] (mem (P, some 5, some 22) I J) (retV (fun I14 J15 => Q none (mem (P, some 5, some 22) I14 J15)) (P, some 5, some 22)))))))))))))) : WP k LAY m_X12_must 0 [(0, vR (some 74)), (1, vI x1)] [] (mem (P, some 5, some 22) I J) Q := by
  refine st_aload_n (pc' := 1) dX12_must_0 rfl rfl (j := 0) rfl ?_
  refine st_callV (pc' := 4) (kc := k - 1) (E' := LAY) (cal := m_X12_lex) (n := 0) (as := []) (S := []) dX12_must_1 rfl l_X12_302 k_X12_lex rfl L_74 c_X12 rfl rfl (Nat.le_of_ble_eq_true rfl) (by omega) ⟨Nat.le_refl _, Nat.le_refl _, Nat.le_refl _, Nat.le_refl _⟩ (Q1 := fun r M' => WP k LAY m_X12_must 4 [(0, vR (some 74)), (1, vI x1)] (r.toList ++ []) M' Q) (WPm.of k_X12_lex.1 (Nat.le_of_ble_eq_true rfl) (B_X12_lex_0 (by omega) ?_)) (fun r M' q => q)
  refine ⟨fun c => ?_, fun c => ?_⟩
  · replace h := h.1 c
    change WP _ LAY m_X12_must 4 [(0, vR (some 74)), (1, vI x1)] [] (mem (P, some 5, some 22) I J) Q
    refine st_aload_n (pc' := 5) dX12_must_4 rfl rfl (j := 0) rfl ?_
    refine st_iload_n (pc' := 6) dX12_must_5 rfl rfl (j := 1) rfl ?_
    obtain ⟨e1, h⟩ := h
    refine st_callV (pc' := 9) (kc := k - 1) (E' := LAY) (cal := m_X12_isSign) (n := 1) (as := [vI x1]) (S := []) dX12_must_6 rfl l_X12_305 k_X12_isSign rfl L_74 c_X12 rfl rfl (Nat.le_of_ble_eq_true rfl) (by omega) ⟨Nat.le_refl _, Nat.le_refl _, Nat.le_refl _, Nat.le_refl _⟩ (Q1 := fun r M' => WP k LAY m_X12_must 9 [(0, vR (some 74)), (1, vI x1)] (r.toList ++ []) M' Q) (S_X12_isSign (by omega) e1 ?_) (fun r M' q => q)
    change WP _ LAY m_X12_must 9 [(0, vR (some 74)), (1, vI x1)] [vI (b2i (gi I 74 3 = 3 ∧ gi I 74 6 = x1))] (mem (P, some 5, some 22) I J) Q
    refine st_if_ne (tg := 21) (pc' := 12) dX12_must_9 (by decide) rfl (b2i_in _) (fun c => ?_) (fun c => ?_)
    · replace h := h.1 (b2i_t.mp c)
      refine st_aload_n (pc' := 22) dX12_must_21 rfl rfl (j := 0) rfl ?_
      refine G_X12_36_74 dX12_must_22 (pc' := 25) rfl rfl ?_
      refine st_if_ne (tg := 32) (pc' := 28) dX12_must_25 (by decide) rfl (gi_in _ _ _) (fun c => ?_) (fun c => ?_)
      · replace h := h.1 c
        exact st_vret dX12_must_32 rfl rfl h
      · replace h := h.2 c
        refine st_aload_n (pc' := 29) dX12_must_28 rfl rfl (j := 0) rfl ?_
        refine st_callV (pc' := 32) (kc := k - 1) (E' := LAY) (cal := m_X12_ahead) (n := 0) (as := []) (S := []) dX12_must_29 rfl l_X12_308 k_X12_ahead rfl L_74 c_X12 rfl rfl (Nat.le_of_ble_eq_true rfl) (by omega) ⟨Nat.le_refl _, Nat.le_refl _, Nat.le_refl _, Nat.le_refl _⟩ h (fun r M' q => ?_)
        obtain ⟨I3, J4, rfl, rfl, h⟩ := q
        change WP _ LAY m_X12_must 32 [(0, vR (some 74)), (1, vI x1)] [] (mem (P, some 5, some 22) I3 J4) Q
        exact st_vret dX12_must_32 rfl rfl h
    · replace h := h.2 (b2i_f.mp c)
      refine st_aload_n (pc' := 13) dX12_must_12 rfl rfl (j := 0) rfl ?_
      refine st_iconst (pc' := 14) dX12_must_13 rfl ?_
      refine st_aload_n (pc' := 15) dX12_must_14 rfl rfl (j := 0) rfl ?_
      refine G_X12_23_74 dX12_must_15 (pc' := 18) rfl rfl ?_
      refine st_callV (pc' := 21) (kc := k - 1) (E' := LAY) (cal := m_X12_blame) (n := 2) (as := [vI 1, vI (gi I 74 4)]) (S := []) dX12_must_18 rfl l_X12_287 k_X12_blame rfl L_74 c_X12 rfl rfl (Nat.le_of_ble_eq_true rfl) (by omega) ⟨Nat.le_refl _, Nat.le_refl _, Nat.le_refl _, Nat.le_refl _⟩ (Q1 := fun r M' => WP k LAY m_X12_must 21 [(0, vR (some 74)), (1, vI x1)] (r.toList ++ []) M' Q) (WPm.of k_X12_blame.1 (Nat.le_of_ble_eq_true rfl) (B_X12_blame_0 (by omega) ?_)) (fun r M' q => q)
      refine ⟨fun c => ?_, fun c => ?_⟩
      · replace h := h.1 c
        change WP _ LAY m_X12_must 21 [(0, vR (some 74)), (1, vI x1)] [] (mem (P, some 5, some 22) (si (si I 74 8 1) 74 9 (gi I 74 4)) J) Q
        refine st_aload_n (pc' := 22) dX12_must_21 rfl rfl (j := 0) rfl ?_
        refine G_X12_36_74 dX12_must_22 (pc' := 25) rfl rfl ?_
        rw [show gi (si (si I 74 8 1) 74 9 (gi I 74 4)) 74 8 = 1 from ((gi_idx _ _ _ (by decide)).trans (gi_same _ _ _ (by decide)))]
        refine st_if_ne (tg := 32) (pc' := 28) dX12_must_25 (by decide) rfl (by decide) (fun c => ?_) (fun c => ?_)
        · exact st_vret dX12_must_32 rfl rfl h
        · exact absurd c (by decide)
      · replace h := h.2 c
        change WP _ LAY m_X12_must 21 [(0, vR (some 74)), (1, vI x1)] [] (mem (P, some 5, some 22) I J) Q
        refine st_aload_n (pc' := 22) dX12_must_21 rfl rfl (j := 0) rfl ?_
        refine G_X12_36_74 dX12_must_22 (pc' := 25) rfl rfl ?_
        refine st_if_ne (tg := 32) (pc' := 28) dX12_must_25 (by decide) rfl (gi_in _ _ _) (fun c => ?_) (fun c => ?_)
        · replace h := h.1 c
          exact st_vret dX12_must_32 rfl rfl h
        · replace h := h.2 c
          refine st_aload_n (pc' := 29) dX12_must_28 rfl rfl (j := 0) rfl ?_
          refine st_callV (pc' := 32) (kc := k - 1) (E' := LAY) (cal := m_X12_ahead) (n := 0) (as := []) (S := []) dX12_must_29 rfl l_X12_308 k_X12_ahead rfl L_74 c_X12 rfl rfl (Nat.le_of_ble_eq_true rfl) (by omega) ⟨Nat.le_refl _, Nat.le_refl _, Nat.le_refl _, Nat.le_refl _⟩ h (fun r M' q => ?_)
          obtain ⟨I6, J7, rfl, rfl, h⟩ := q
          change WP _ LAY m_X12_must 32 [(0, vR (some 74)), (1, vI x1)] [] (mem (P, some 5, some 22) I6 J7) Q
          exact st_vret dX12_must_32 rfl rfl h
  · replace h := h.2 c
    refine ⟨fun c => ?_, fun c => ?_⟩
    · replace h := h.1 c
      change WP _ LAY m_X12_must 4 [(0, vR (some 74)), (1, vI x1)] [] (mem (P, some 5, some 22) (si (si I 74 8 1) 74 9 (gi I 74 12)) J) Q
      refine st_aload_n (pc' := 5) dX12_must_4 rfl rfl (j := 0) rfl ?_
      refine st_iload_n (pc' := 6) dX12_must_5 rfl rfl (j := 1) rfl ?_
      obtain ⟨e8, h⟩ := h
      refine st_callV (pc' := 9) (kc := k - 1) (E' := LAY) (cal := m_X12_isSign) (n := 1) (as := [vI x1]) (S := []) dX12_must_6 rfl l_X12_305 k_X12_isSign rfl L_74 c_X12 rfl rfl (Nat.le_of_ble_eq_true rfl) (by omega) ⟨Nat.le_refl _, Nat.le_refl _, Nat.le_refl _, Nat.le_refl _⟩ (Q1 := fun r M' => WP k LAY m_X12_must 9 [(0, vR (some 74)), (1, vI x1)] (r.toList ++ []) M' Q) (S_X12_isSign (by omega) e8 ?_) (fun r M' q => q)
      change WP _ LAY m_X12_must 9 [(0, vR (some 74)), (1, vI x1)] [vI (b2i (gi (si (si I 74 8 1) 74 9 (gi I 74 12)) 74 3 = 3 ∧ gi (si (si I 74 8 1) 74 9 (gi I 74 12)) 74 6 = x1))] (mem (P, some 5, some 22) (si (si I 74 8 1) 74 9 (gi I 74 12)) J) Q
      refine st_if_ne (tg := 21) (pc' := 12) dX12_must_9 (by decide) rfl (b2i_in _) (fun c => ?_) (fun c => ?_)
      · replace h := h.1 (b2i_t.mp c)
        refine st_aload_n (pc' := 22) dX12_must_21 rfl rfl (j := 0) rfl ?_
        refine G_X12_36_74 dX12_must_22 (pc' := 25) rfl rfl ?_
        rw [show gi (si (si I 74 8 1) 74 9 (gi I 74 12)) 74 8 = 1 from ((gi_idx _ _ _ (by decide)).trans (gi_same _ _ _ (by decide)))]
        refine st_if_ne (tg := 32) (pc' := 28) dX12_must_25 (by decide) rfl (by decide) (fun c => ?_) (fun c => ?_)
        · exact st_vret dX12_must_32 rfl rfl h
        · exact absurd c (by decide)
      · replace h := h.2 (b2i_f.mp c)
        refine st_aload_n (pc' := 13) dX12_must_12 rfl rfl (j := 0) rfl ?_
        refine st_iconst (pc' := 14) dX12_must_13 rfl ?_
        refine st_aload_n (pc' := 15) dX12_must_14 rfl rfl (j := 0) rfl ?_
        refine G_X12_23_74 dX12_must_15 (pc' := 18) rfl rfl ?_
        rw [show gi (si (si I 74 8 1) 74 9 (gi I 74 12)) 74 4 = (gi I 74 4) from ((gi_idx _ _ _ (by decide)).trans (gi_idx _ _ _ (by decide)))]
        refine st_callV (pc' := 21) (kc := k - 1) (E' := LAY) (cal := m_X12_blame) (n := 2) (as := [vI 1, vI (gi I 74 4)]) (S := []) dX12_must_18 rfl l_X12_287 k_X12_blame rfl L_74 c_X12 rfl rfl (Nat.le_of_ble_eq_true rfl) (by omega) ⟨Nat.le_refl _, Nat.le_refl _, Nat.le_refl _, Nat.le_refl _⟩ (Q1 := fun r M' => WP k LAY m_X12_must 21 [(0, vR (some 74)), (1, vI x1)] (r.toList ++ []) M' Q) (WPm.of k_X12_blame.1 (Nat.le_of_ble_eq_true rfl) (B_X12_blame_0 (by omega) ?_)) (fun r M' q => q)
        refine ⟨fun c => ?_, fun c => ?_⟩
        · replace h := h.1 c
          change WP _ LAY m_X12_must 21 [(0, vR (some 74)), (1, vI x1)] [] (mem (P, some 5, some 22) (si (si (si (si I 74 8 1) 74 9 (gi I 74 12)) 74 8 1) 74 9 (gi I 74 4)) J) Q
          refine st_aload_n (pc' := 22) dX12_must_21 rfl rfl (j := 0) rfl ?_
          refine G_X12_36_74 dX12_must_22 (pc' := 25) rfl rfl ?_
          rw [show gi (si (si (si (si I 74 8 1) 74 9 (gi I 74 12)) 74 8 1) 74 9 (gi I 74 4)) 74 8 = 1 from ((gi_idx _ _ _ (by decide)).trans (gi_same _ _ _ (by decide)))]
          refine st_if_ne (tg := 32) (pc' := 28) dX12_must_25 (by decide) rfl (by decide) (fun c => ?_) (fun c => ?_)
          · exact st_vret dX12_must_32 rfl rfl h
          · exact absurd c (by decide)
        · replace h := h.2 c
          change WP _ LAY m_X12_must 21 [(0, vR (some 74)), (1, vI x1)] [] (mem (P, some 5, some 22) (si (si I 74 8 1) 74 9 (gi I 74 12)) J) Q
          refine st_aload_n (pc' := 22) dX12_must_21 rfl rfl (j := 0) rfl ?_
          refine G_X12_36_74 dX12_must_22 (pc' := 25) rfl rfl ?_
          rw [show gi (si (si I 74 8 1) 74 9 (gi I 74 12)) 74 8 = 1 from ((gi_idx _ _ _ (by decide)).trans (gi_same _ _ _ (by decide)))]
          refine st_if_ne (tg := 32) (pc' := 28) dX12_must_25 (by decide) rfl (by decide) (fun c => ?_) (fun c => ?_)
          · exact st_vret dX12_must_32 rfl rfl h
          · exact absurd c (by decide)
    · replace h := h.2 c
      change WP _ LAY m_X12_must 4 [(0, vR (some 74)), (1, vI x1)] [] (mem (P, some 5, some 22) I J) Q
      refine st_aload_n (pc' := 5) dX12_must_4 rfl rfl (j := 0) rfl ?_
      refine st_iload_n (pc' := 6) dX12_must_5 rfl rfl (j := 1) rfl ?_
      obtain ⟨e9, h⟩ := h
      refine st_callV (pc' := 9) (kc := k - 1) (E' := LAY) (cal := m_X12_isSign) (n := 1) (as := [vI x1]) (S := []) dX12_must_6 rfl l_X12_305 k_X12_isSign rfl L_74 c_X12 rfl rfl (Nat.le_of_ble_eq_true rfl) (by omega) ⟨Nat.le_refl _, Nat.le_refl _, Nat.le_refl _, Nat.le_refl _⟩ (Q1 := fun r M' => WP k LAY m_X12_must 9 [(0, vR (some 74)), (1, vI x1)] (r.toList ++ []) M' Q) (S_X12_isSign (by omega) e9 ?_) (fun r M' q => q)
      change WP _ LAY m_X12_must 9 [(0, vR (some 74)), (1, vI x1)] [vI (b2i (gi I 74 3 = 3 ∧ gi I 74 6 = x1))] (mem (P, some 5, some 22) I J) Q
      refine st_if_ne (tg := 21) (pc' := 12) dX12_must_9 (by decide) rfl (b2i_in _) (fun c => ?_) (fun c => ?_)
      · replace h := h.1 (b2i_t.mp c)
        refine st_aload_n (pc' := 22) dX12_must_21 rfl rfl (j := 0) rfl ?_
        refine G_X12_36_74 dX12_must_22 (pc' := 25) rfl rfl ?_
        refine st_if_ne (tg := 32) (pc' := 28) dX12_must_25 (by decide) rfl (gi_in _ _ _) (fun c => ?_) (fun c => ?_)
        · replace h := h.1 c
          exact st_vret dX12_must_32 rfl rfl h
        · replace h := h.2 c
          refine st_aload_n (pc' := 29) dX12_must_28 rfl rfl (j := 0) rfl ?_
          refine st_callV (pc' := 32) (kc := k - 1) (E' := LAY) (cal := m_X12_ahead) (n := 0) (as := []) (S := []) dX12_must_29 rfl l_X12_308 k_X12_ahead rfl L_74 c_X12 rfl rfl (Nat.le_of_ble_eq_true rfl) (by omega) ⟨Nat.le_refl _, Nat.le_refl _, Nat.le_refl _, Nat.le_refl _⟩ h (fun r M' q => ?_)
          obtain ⟨I11, J12, rfl, rfl, h⟩ := q
          change WP _ LAY m_X12_must 32 [(0, vR (some 74)), (1, vI x1)] [] (mem (P, some 5, some 22) I11 J12) Q
          exact st_vret dX12_must_32 rfl rfl h
      · replace h := h.2 (b2i_f.mp c)
        refine st_aload_n (pc' := 13) dX12_must_12 rfl rfl (j := 0) rfl ?_
        refine st_iconst (pc' := 14) dX12_must_13 rfl ?_
        refine st_aload_n (pc' := 15) dX12_must_14 rfl rfl (j := 0) rfl ?_
        refine G_X12_23_74 dX12_must_15 (pc' := 18) rfl rfl ?_
        refine st_callV (pc' := 21) (kc := k - 1) (E' := LAY) (cal := m_X12_blame) (n := 2) (as := [vI 1, vI (gi I 74 4)]) (S := []) dX12_must_18 rfl l_X12_287 k_X12_blame rfl L_74 c_X12 rfl rfl (Nat.le_of_ble_eq_true rfl) (by omega) ⟨Nat.le_refl _, Nat.le_refl _, Nat.le_refl _, Nat.le_refl _⟩ (Q1 := fun r M' => WP k LAY m_X12_must 21 [(0, vR (some 74)), (1, vI x1)] (r.toList ++ []) M' Q) (WPm.of k_X12_blame.1 (Nat.le_of_ble_eq_true rfl) (B_X12_blame_0 (by omega) ?_)) (fun r M' q => q)
        refine ⟨fun c => ?_, fun c => ?_⟩
        · replace h := h.1 c
          change WP _ LAY m_X12_must 21 [(0, vR (some 74)), (1, vI x1)] [] (mem (P, some 5, some 22) (si (si I 74 8 1) 74 9 (gi I 74 4)) J) Q
          refine st_aload_n (pc' := 22) dX12_must_21 rfl rfl (j := 0) rfl ?_
          refine G_X12_36_74 dX12_must_22 (pc' := 25) rfl rfl ?_
          rw [show gi (si (si I 74 8 1) 74 9 (gi I 74 4)) 74 8 = 1 from ((gi_idx _ _ _ (by decide)).trans (gi_same _ _ _ (by decide)))]
          refine st_if_ne (tg := 32) (pc' := 28) dX12_must_25 (by decide) rfl (by decide) (fun c => ?_) (fun c => ?_)
          · exact st_vret dX12_must_32 rfl rfl h
          · exact absurd c (by decide)
        · replace h := h.2 c
          change WP _ LAY m_X12_must 21 [(0, vR (some 74)), (1, vI x1)] [] (mem (P, some 5, some 22) I J) Q
          refine st_aload_n (pc' := 22) dX12_must_21 rfl rfl (j := 0) rfl ?_
          refine G_X12_36_74 dX12_must_22 (pc' := 25) rfl rfl ?_
          refine st_if_ne (tg := 32) (pc' := 28) dX12_must_25 (by decide) rfl (gi_in _ _ _) (fun c => ?_) (fun c => ?_)
          · replace h := h.1 c
            exact st_vret dX12_must_32 rfl rfl h
          · replace h := h.2 c
            refine st_aload_n (pc' := 29) dX12_must_28 rfl rfl (j := 0) rfl ?_
            refine st_callV (pc' := 32) (kc := k - 1) (E' := LAY) (cal := m_X12_ahead) (n := 0) (as := []) (S := []) dX12_must_29 rfl l_X12_308 k_X12_ahead rfl L_74 c_X12 rfl rfl (Nat.le_of_ble_eq_true rfl) (by omega) ⟨Nat.le_refl _, Nat.le_refl _, Nat.le_refl _, Nat.le_refl _⟩ h (fun r M' q => ?_)
            obtain ⟨I14, J15, rfl, rfl, h⟩ := q
            change WP _ LAY m_X12_must 32 [(0, vR (some 74)), (1, vI x1)] [] (mem (P, some 5, some 22) I14 J15) Q
            exact st_vret dX12_must_32 rfl rfl h
set_option maxRecDepth 20000 in
set_option maxHeartbeats 4000000 in
theorem B_X12_finishes_0 {k : Nat} {P : Option Nat} {I : Nat → Nat → Int32} {J : Nat → Nat → Int64} {x1 : Int} {Q : Option AV → Mem → Prop} (hk : 2 ≤ k) (h : ((gi I 74 12) = (-1) → (((gi I 74 8) ≤ 0 → (WP k LAY m_X12_finishes 17 [(0, vR (some 74)), (1, vI x1), (2, vI (gi I 74 5))] [] (mem (P, some 5, some 22) I J) Q)) ∧ (¬ (gi I 74 8) ≤ 0 → (Q none (mem (P, some 5, some 22) I J))))) ∧ (¬ (gi I 74 12) = (-1) → (((gi I 74 8) ≤ 0 → (Q none (mem (P, some 5, some 22) (si (si I 74 8 1) 74 9 (gi I 74 12)) J))) ∧ (¬ (gi I 74 8) ≤ 0 → (((gi I 74 8) ≤ 0 → (WP k LAY m_X12_finishes 17 [(0, vR (some 74)), (1, vI x1), (2, vI (gi I 74 5))] [] (mem (P, some 5, some 22) I J) Q)) ∧ (¬ (gi I 74 8) ≤ 0 → (Q none (mem (P, some 5, some 22) I J)))))))) : WP k LAY m_X12_finishes 0 [(0, vR (some 74)), (1, vI x1)] [] (mem (P, some 5, some 22) I J) Q := by
  refine st_aload_n (pc' := 1) dX12_finishes_0 rfl rfl (j := 0) rfl ?_
  refine st_callV (pc' := 4) (kc := k - 1) (E' := LAY) (cal := m_X12_lex) (n := 0) (as := []) (S := []) dX12_finishes_1 rfl l_X12_302 k_X12_lex rfl L_74 c_X12 rfl rfl (Nat.le_of_ble_eq_true rfl) (by omega) ⟨Nat.le_refl _, Nat.le_refl _, Nat.le_refl _, Nat.le_refl _⟩ (Q1 := fun r M' => WP k LAY m_X12_finishes 4 [(0, vR (some 74)), (1, vI x1)] (r.toList ++ []) M' Q) (WPm.of k_X12_lex.1 (Nat.le_of_ble_eq_true rfl) (B_X12_lex_0 (by omega) ?_)) (fun r M' q => q)
  refine ⟨fun c => ?_, fun c => ?_⟩
  · replace h := h.1 c
    change WP _ LAY m_X12_finishes 4 [(0, vR (some 74)), (1, vI x1)] [] (mem (P, some 5, some 22) I J) Q
    refine st_aload_n (pc' := 5) dX12_finishes_4 rfl rfl (j := 0) rfl ?_
    refine G_X12_36_74 dX12_finishes_5 (pc' := 8) rfl rfl ?_
    refine st_if_le (tg := 12) (pc' := 11) dX12_finishes_8 (by decide) rfl (gi_in _ _ _) (fun c => ?_) (fun c => ?_)
    · replace h := h.1 c
      refine st_aload_n (pc' := 13) dX12_finishes_12 rfl rfl (j := 0) rfl ?_
      refine G_X12_26_74 dX12_finishes_13 (pc' := 16) rfl rfl ?_
      refine st_istore_n (pc' := 17) (L' := [(2, vI (gi I 74 5)), (0, vR (some 74)), (1, vI x1)]) dX12_finishes_16 rfl rfl (by decide) rfl ?_
      refine WP_sub (L' := [(0, vR (some 74)), (1, vI x1), (2, vI (gi I 74 5))]) [1, 2, 0] rfl ?_
      exact h
    · replace h := h.2 c
      exact st_vret dX12_finishes_11 rfl rfl h
  · replace h := h.2 c
    refine ⟨fun c => ?_, fun c => ?_⟩
    · replace h := h.1 c
      change WP _ LAY m_X12_finishes 4 [(0, vR (some 74)), (1, vI x1)] [] (mem (P, some 5, some 22) (si (si I 74 8 1) 74 9 (gi I 74 12)) J) Q
      refine st_aload_n (pc' := 5) dX12_finishes_4 rfl rfl (j := 0) rfl ?_
      refine G_X12_36_74 dX12_finishes_5 (pc' := 8) rfl rfl ?_
      rw [show gi (si (si I 74 8 1) 74 9 (gi I 74 12)) 74 8 = 1 from ((gi_idx _ _ _ (by decide)).trans (gi_same _ _ _ (by decide)))]
      refine st_if_le (tg := 12) (pc' := 11) dX12_finishes_8 (by decide) rfl (by decide) (fun c => ?_) (fun c => ?_)
      · exact absurd c (by decide)
      · exact st_vret dX12_finishes_11 rfl rfl h
    · replace h := h.2 c
      change WP _ LAY m_X12_finishes 4 [(0, vR (some 74)), (1, vI x1)] [] (mem (P, some 5, some 22) I J) Q
      refine st_aload_n (pc' := 5) dX12_finishes_4 rfl rfl (j := 0) rfl ?_
      refine G_X12_36_74 dX12_finishes_5 (pc' := 8) rfl rfl ?_
      refine st_if_le (tg := 12) (pc' := 11) dX12_finishes_8 (by decide) rfl (gi_in _ _ _) (fun c => ?_) (fun c => ?_)
      · replace h := h.1 c
        refine st_aload_n (pc' := 13) dX12_finishes_12 rfl rfl (j := 0) rfl ?_
        refine G_X12_26_74 dX12_finishes_13 (pc' := 16) rfl rfl ?_
        refine st_istore_n (pc' := 17) (L' := [(2, vI (gi I 74 5)), (0, vR (some 74)), (1, vI x1)]) dX12_finishes_16 rfl rfl (by decide) rfl ?_
        refine WP_sub (L' := [(0, vR (some 74)), (1, vI x1), (2, vI (gi I 74 5))]) [1, 2, 0] rfl ?_
        exact h
      · replace h := h.2 c
        exact st_vret dX12_finishes_11 rfl rfl h
set_option maxRecDepth 20000 in
set_option maxHeartbeats 4000000 in
theorem B_X12_finishes_17 {k : Nat} {P : Option Nat} {I : Nat → Nat → Int32} {J : Nat → Nat → Int64} {x1 : Int} {x2 : Int} {Q : Option AV → Mem → Prop} (hk : 1 ≤ k) (h : inR x2 ∧ (((gi I 74 2) ≤ x2 → ((¬ (gi I 74 3 = 3 ∧ gi I 74 6 = 59) → (WPm (k - 1) LAY m_X12_must [vR (some 74), vI 59] (mem (P, some 5, some 22) I J) (retV (fun I3 J4 => Q none (mem (P, some 5, some 22) I3 J4)) (P, some 5, some 22)))) ∧ ((gi I 74 3 = 3 ∧ gi I 74 6 = 59) → (inR x1 ∧ ((¬ x1 = 80 → (WPm (k - 1) LAY m_X12_must [vR (some 74), vI 59] (mem (P, some 5, some 22) I J) (retV (fun I7 J8 => Q none (mem (P, some 5, some 22) I7 J8)) (P, some 5, some 22)))) ∧ (x1 = 80 → (((gi I 74 2) ≤ x2 → (WPm (k - 1) LAY m_X12_must [vR (some 74), vI 59] (mem (P, some 5, some 22) I J) (retV (fun I10 J11 => Q none (mem (P, some 5, some 22) I10 J11)) (P, some 5, some 22)))) ∧ (¬ (gi I 74 2) ≤ x2 → (((gi I 74 8) ≤ 0 → (WPm (k - 1) LAY m_X12_must [vR (some 74), vI 59] (mem (P, some 5, some 22) (si (si I 74 8 6) 74 9 x2) J) (retV (fun I13 J14 => Q none (mem (P, some 5, some 22) I13 J14)) (P, some 5, some 22)))) ∧ (¬ (gi I 74 8) ≤ 0 → (WPm (k - 1) LAY m_X12_must [vR (some 74), vI 59] (mem (P, some 5, some 22) I J) (retV (fun I16 J17 => Q none (mem (P, some 5, some 22) I16 J17)) (P, some 5, some 22))))))))))))) ∧ (¬ (gi I 74 2) ≤ x2 → ((0 ≤ x2 ∧ x2 < 1800) ∧ (((gi I 75 (x2).toNat) = 32 → (WP k LAY m_X12_finishes 17 [(0, vR (some 74)), (1, vI x1), (2, vI (x2 + 1))] [] (mem (P, some 5, some 22) I J) Q)) ∧ (¬ (gi I 75 (x2).toNat) = 32 → ((¬ (gi I 75 (x2).toNat) = 10 → ((¬ (gi I 74 3 = 3 ∧ gi I 74 6 = 59) → (WPm (k - 1) LAY m_X12_must [vR (some 74), vI 59] (mem (P, some 5, some 22) I J) (retV (fun I20 J21 => Q none (mem (P, some 5, some 22) I20 J21)) (P, some 5, some 22)))) ∧ ((gi I 74 3 = 3 ∧ gi I 74 6 = 59) → (inR x1 ∧ ((¬ x1 = 80 → (WPm (k - 1) LAY m_X12_must [vR (some 74), vI 59] (mem (P, some 5, some 22) I J) (retV (fun I24 J25 => Q none (mem (P, some 5, some 22) I24 J25)) (P, some 5, some 22)))) ∧ (x1 = 80 → (((gi I 74 2) ≤ x2 → (WPm (k - 1) LAY m_X12_must [vR (some 74), vI 59] (mem (P, some 5, some 22) I J) (retV (fun I27 J28 => Q none (mem (P, some 5, some 22) I27 J28)) (P, some 5, some 22)))) ∧ (¬ (gi I 74 2) ≤ x2 → (((gi I 74 8) ≤ 0 → (WPm (k - 1) LAY m_X12_must [vR (some 74), vI 59] (mem (P, some 5, some 22) (si (si I 74 8 6) 74 9 x2) J) (retV (fun I30 J31 => Q none (mem (P, some 5, some 22) I30 J31)) (P, some 5, some 22)))) ∧ (¬ (gi I 74 8) ≤ 0 → (WPm (k - 1) LAY m_X12_must [vR (some 74), vI 59] (mem (P, some 5, some 22) I J) (retV (fun I33 J34 => Q none (mem (P, some 5, some 22) I33 J34)) (P, some 5, some 22))))))))))))) ∧ ((gi I 75 (x2).toNat) = 10 → (WP k LAY m_X12_finishes 17 [(0, vR (some 74)), (1, vI x1), (2, vI (x2 + 1))] [] (mem (P, some 5, some 22) I J) Q))))))))) : WP k LAY m_X12_finishes 17 [(0, vR (some 74)), (1, vI x1), (2, vI x2)] [] (mem (P, some 5, some 22) I J) Q := by
  refine st_iload_n (pc' := 18) dX12_finishes_17 rfl rfl (j := 2) rfl ?_
  refine st_aload_n (pc' := 19) dX12_finishes_18 rfl rfl (j := 0) rfl ?_
  refine G_X12_17_74 dX12_finishes_19 (pc' := 22) rfl rfl ?_
  obtain ⟨e1, h⟩ := h
  refine st_icmp_ge (tg := 53) (pc' := 25) dX12_finishes_22 (by decide) rfl e1 (gi_in _ _ _) (fun c => ?_) (fun c => ?_)
  · replace h := h.1 c
    refine st_aload_n (pc' := 54) dX12_finishes_53 rfl rfl (j := 0) rfl ?_
    refine st_bipush (pc' := 56) dX12_finishes_54 rfl (by decide) ?_
    refine st_callV (pc' := 59) (kc := k - 1) (E' := LAY) (cal := m_X12_isSign) (n := 1) (as := [vI 59]) (S := []) dX12_finishes_56 rfl l_X12_305 k_X12_isSign rfl L_74 c_X12 rfl rfl (Nat.le_of_ble_eq_true rfl) (by omega) ⟨Nat.le_refl _, Nat.le_refl _, Nat.le_refl _, Nat.le_refl _⟩ (Q1 := fun r M' => WP k LAY m_X12_finishes 59 [(0, vR (some 74)), (1, vI x1), (2, vI x2)] (r.toList ++ []) M' Q) (S_X12_isSign (by omega) (by decide) ?_) (fun r M' q => q)
    change WP _ LAY m_X12_finishes 59 [(0, vR (some 74)), (1, vI x1), (2, vI x2)] [vI (b2i (gi I 74 3 = 3 ∧ gi I 74 6 = 59))] (mem (P, some 5, some 22) I J) Q
    refine st_if_eq (tg := 83) (pc' := 62) dX12_finishes_59 (by decide) rfl (b2i_in _) (fun c => ?_) (fun c => ?_)
    · replace h := h.1 (b2i_f.mp c)
      refine st_aload_n (pc' := 84) dX12_finishes_83 rfl rfl (j := 0) rfl ?_
      refine st_bipush (pc' := 86) dX12_finishes_84 rfl (by decide) ?_
      refine st_callV (pc' := 89) (kc := k - 1) (E' := LAY) (cal := m_X12_must) (n := 1) (as := [vI 59]) (S := []) dX12_finishes_86 rfl l_X12_459 k_X12_must rfl L_74 c_X12 rfl rfl (Nat.le_of_ble_eq_true rfl) (by omega) ⟨Nat.le_refl _, Nat.le_refl _, Nat.le_refl _, Nat.le_refl _⟩ h (fun r M' q => ?_)
      obtain ⟨I3, J4, rfl, rfl, h⟩ := q
      change WP _ LAY m_X12_finishes 89 [(0, vR (some 74)), (1, vI x1), (2, vI x2)] [] (mem (P, some 5, some 22) I3 J4) Q
      exact st_vret dX12_finishes_89 rfl rfl h
    · replace h := h.2 (b2i_t.mp c)
      refine st_iload_n (pc' := 63) dX12_finishes_62 rfl rfl (j := 1) rfl ?_
      refine st_bipush (pc' := 65) dX12_finishes_63 rfl (by decide) ?_
      obtain ⟨e5, h⟩ := h
      refine st_icmp_ne (tg := 83) (pc' := 68) dX12_finishes_65 (by decide) rfl e5 (by decide) (fun c => ?_) (fun c => ?_)
      · replace h := h.1 c
        refine st_aload_n (pc' := 84) dX12_finishes_83 rfl rfl (j := 0) rfl ?_
        refine st_bipush (pc' := 86) dX12_finishes_84 rfl (by decide) ?_
        refine st_callV (pc' := 89) (kc := k - 1) (E' := LAY) (cal := m_X12_must) (n := 1) (as := [vI 59]) (S := []) dX12_finishes_86 rfl l_X12_459 k_X12_must rfl L_74 c_X12 rfl rfl (Nat.le_of_ble_eq_true rfl) (by omega) ⟨Nat.le_refl _, Nat.le_refl _, Nat.le_refl _, Nat.le_refl _⟩ h (fun r M' q => ?_)
        obtain ⟨I7, J8, rfl, rfl, h⟩ := q
        change WP _ LAY m_X12_finishes 89 [(0, vR (some 74)), (1, vI x1), (2, vI x2)] [] (mem (P, some 5, some 22) I7 J8) Q
        exact st_vret dX12_finishes_89 rfl rfl h
      · replace h := h.2 c
        refine st_iload_n (pc' := 69) dX12_finishes_68 rfl rfl (j := 2) rfl ?_
        refine st_aload_n (pc' := 70) dX12_finishes_69 rfl rfl (j := 0) rfl ?_
        refine G_X12_17_74 dX12_finishes_70 (pc' := 73) rfl rfl ?_
        refine st_icmp_ge (tg := 83) (pc' := 76) dX12_finishes_73 (by decide) rfl e1 (gi_in _ _ _) (fun c => ?_) (fun c => ?_)
        · replace h := h.1 c
          refine st_aload_n (pc' := 84) dX12_finishes_83 rfl rfl (j := 0) rfl ?_
          refine st_bipush (pc' := 86) dX12_finishes_84 rfl (by decide) ?_
          refine st_callV (pc' := 89) (kc := k - 1) (E' := LAY) (cal := m_X12_must) (n := 1) (as := [vI 59]) (S := []) dX12_finishes_86 rfl l_X12_459 k_X12_must rfl L_74 c_X12 rfl rfl (Nat.le_of_ble_eq_true rfl) (by omega) ⟨Nat.le_refl _, Nat.le_refl _, Nat.le_refl _, Nat.le_refl _⟩ h (fun r M' q => ?_)
          obtain ⟨I10, J11, rfl, rfl, h⟩ := q
          change WP _ LAY m_X12_finishes 89 [(0, vR (some 74)), (1, vI x1), (2, vI x2)] [] (mem (P, some 5, some 22) I10 J11) Q
          exact st_vret dX12_finishes_89 rfl rfl h
        · replace h := h.2 c
          refine st_aload_n (pc' := 77) dX12_finishes_76 rfl rfl (j := 0) rfl ?_
          refine st_bipush (pc' := 79) dX12_finishes_77 rfl (by decide) ?_
          refine st_iload_n (pc' := 80) dX12_finishes_79 rfl rfl (j := 2) rfl ?_
          refine st_callV (pc' := 83) (kc := k - 1) (E' := LAY) (cal := m_X12_blame) (n := 2) (as := [vI 6, vI x2]) (S := []) dX12_finishes_80 rfl l_X12_287 k_X12_blame rfl L_74 c_X12 rfl rfl (Nat.le_of_ble_eq_true rfl) (by omega) ⟨Nat.le_refl _, Nat.le_refl _, Nat.le_refl _, Nat.le_refl _⟩ (Q1 := fun r M' => WP k LAY m_X12_finishes 83 [(0, vR (some 74)), (1, vI x1), (2, vI x2)] (r.toList ++ []) M' Q) (WPm.of k_X12_blame.1 (Nat.le_of_ble_eq_true rfl) (B_X12_blame_0 (by omega) ?_)) (fun r M' q => q)
          refine ⟨fun c => ?_, fun c => ?_⟩
          · replace h := h.1 c
            change WP _ LAY m_X12_finishes 83 [(0, vR (some 74)), (1, vI x1), (2, vI x2)] [] (mem (P, some 5, some 22) (si (si I 74 8 6) 74 9 x2) J) Q
            refine st_aload_n (pc' := 84) dX12_finishes_83 rfl rfl (j := 0) rfl ?_
            refine st_bipush (pc' := 86) dX12_finishes_84 rfl (by decide) ?_
            refine st_callV (pc' := 89) (kc := k - 1) (E' := LAY) (cal := m_X12_must) (n := 1) (as := [vI 59]) (S := []) dX12_finishes_86 rfl l_X12_459 k_X12_must rfl L_74 c_X12 rfl rfl (Nat.le_of_ble_eq_true rfl) (by omega) ⟨Nat.le_refl _, Nat.le_refl _, Nat.le_refl _, Nat.le_refl _⟩ h (fun r M' q => ?_)
            obtain ⟨I13, J14, rfl, rfl, h⟩ := q
            change WP _ LAY m_X12_finishes 89 [(0, vR (some 74)), (1, vI x1), (2, vI x2)] [] (mem (P, some 5, some 22) I13 J14) Q
            exact st_vret dX12_finishes_89 rfl rfl h
          · replace h := h.2 c
            change WP _ LAY m_X12_finishes 83 [(0, vR (some 74)), (1, vI x1), (2, vI x2)] [] (mem (P, some 5, some 22) I J) Q
            refine st_aload_n (pc' := 84) dX12_finishes_83 rfl rfl (j := 0) rfl ?_
            refine st_bipush (pc' := 86) dX12_finishes_84 rfl (by decide) ?_
            refine st_callV (pc' := 89) (kc := k - 1) (E' := LAY) (cal := m_X12_must) (n := 1) (as := [vI 59]) (S := []) dX12_finishes_86 rfl l_X12_459 k_X12_must rfl L_74 c_X12 rfl rfl (Nat.le_of_ble_eq_true rfl) (by omega) ⟨Nat.le_refl _, Nat.le_refl _, Nat.le_refl _, Nat.le_refl _⟩ h (fun r M' q => ?_)
            obtain ⟨I16, J17, rfl, rfl, h⟩ := q
            change WP _ LAY m_X12_finishes 89 [(0, vR (some 74)), (1, vI x1), (2, vI x2)] [] (mem (P, some 5, some 22) I16 J17) Q
            exact st_vret dX12_finishes_89 rfl rfl h
  · replace h := h.2 c
    refine st_aload_n (pc' := 26) dX12_finishes_25 rfl rfl (j := 0) rfl ?_
    refine G_X12_7_74 dX12_finishes_26 (pc' := 29) rfl rfl ?_
    refine st_iload_n (pc' := 30) dX12_finishes_29 rfl rfl (j := 2) rfl ?_
    obtain ⟨e18, h⟩ := h
    refine st_iaload (pc' := 31) (v := (gi I 75 (x2).toNat)) dX12_finishes_30 rfl L_75 (by decide) e18 (show gi I 75 (x2).toNat = (gi I 75 (x2).toNat) from rfl) ?_
    refine st_bipush (pc' := 33) dX12_finishes_31 rfl (by decide) ?_
    refine st_icmp_eq (tg := 47) (pc' := 36) dX12_finishes_33 (by decide) rfl (gi_in _ _ _) (by decide) (fun c => ?_) (fun c => ?_)
    · replace h := h.1 c
      refine st_iinc (pc' := 50) (L' := [(2, vI (x2 + 1)), (0, vR (some 74)), (1, vI x1)]) (j := 2) dX12_finishes_47 rfl (by decide) rfl rfl ?_
      refine st_goto (pc' := 17) dX12_finishes_50 (by decide) ?_
      refine WP_sub (L' := [(0, vR (some 74)), (1, vI x1), (2, vI (x2 + 1))]) [1, 2, 0] rfl ?_
      exact h
    · replace h := h.2 c
      refine st_aload_n (pc' := 37) dX12_finishes_36 rfl rfl (j := 0) rfl ?_
      refine G_X12_7_74 dX12_finishes_37 (pc' := 40) rfl rfl ?_
      refine st_iload_n (pc' := 41) dX12_finishes_40 rfl rfl (j := 2) rfl ?_
      refine st_iaload (pc' := 42) (v := (gi I 75 (x2).toNat)) dX12_finishes_41 rfl L_75 (by decide) e18 (show gi I 75 (x2).toNat = (gi I 75 (x2).toNat) from rfl) ?_
      refine st_bipush (pc' := 44) dX12_finishes_42 rfl (by decide) ?_
      refine st_icmp_ne (tg := 53) (pc' := 47) dX12_finishes_44 (by decide) rfl (gi_in _ _ _) (by decide) (fun c => ?_) (fun c => ?_)
      · replace h := h.1 c
        refine st_aload_n (pc' := 54) dX12_finishes_53 rfl rfl (j := 0) rfl ?_
        refine st_bipush (pc' := 56) dX12_finishes_54 rfl (by decide) ?_
        refine st_callV (pc' := 59) (kc := k - 1) (E' := LAY) (cal := m_X12_isSign) (n := 1) (as := [vI 59]) (S := []) dX12_finishes_56 rfl l_X12_305 k_X12_isSign rfl L_74 c_X12 rfl rfl (Nat.le_of_ble_eq_true rfl) (by omega) ⟨Nat.le_refl _, Nat.le_refl _, Nat.le_refl _, Nat.le_refl _⟩ (Q1 := fun r M' => WP k LAY m_X12_finishes 59 [(0, vR (some 74)), (1, vI x1), (2, vI x2)] (r.toList ++ []) M' Q) (S_X12_isSign (by omega) (by decide) ?_) (fun r M' q => q)
        change WP _ LAY m_X12_finishes 59 [(0, vR (some 74)), (1, vI x1), (2, vI x2)] [vI (b2i (gi I 74 3 = 3 ∧ gi I 74 6 = 59))] (mem (P, some 5, some 22) I J) Q
        refine st_if_eq (tg := 83) (pc' := 62) dX12_finishes_59 (by decide) rfl (b2i_in _) (fun c => ?_) (fun c => ?_)
        · replace h := h.1 (b2i_f.mp c)
          refine st_aload_n (pc' := 84) dX12_finishes_83 rfl rfl (j := 0) rfl ?_
          refine st_bipush (pc' := 86) dX12_finishes_84 rfl (by decide) ?_
          refine st_callV (pc' := 89) (kc := k - 1) (E' := LAY) (cal := m_X12_must) (n := 1) (as := [vI 59]) (S := []) dX12_finishes_86 rfl l_X12_459 k_X12_must rfl L_74 c_X12 rfl rfl (Nat.le_of_ble_eq_true rfl) (by omega) ⟨Nat.le_refl _, Nat.le_refl _, Nat.le_refl _, Nat.le_refl _⟩ h (fun r M' q => ?_)
          obtain ⟨I20, J21, rfl, rfl, h⟩ := q
          change WP _ LAY m_X12_finishes 89 [(0, vR (some 74)), (1, vI x1), (2, vI x2)] [] (mem (P, some 5, some 22) I20 J21) Q
          exact st_vret dX12_finishes_89 rfl rfl h
        · replace h := h.2 (b2i_t.mp c)
          refine st_iload_n (pc' := 63) dX12_finishes_62 rfl rfl (j := 1) rfl ?_
          refine st_bipush (pc' := 65) dX12_finishes_63 rfl (by decide) ?_
          obtain ⟨e22, h⟩ := h
          refine st_icmp_ne (tg := 83) (pc' := 68) dX12_finishes_65 (by decide) rfl e22 (by decide) (fun c => ?_) (fun c => ?_)
          · replace h := h.1 c
            refine st_aload_n (pc' := 84) dX12_finishes_83 rfl rfl (j := 0) rfl ?_
            refine st_bipush (pc' := 86) dX12_finishes_84 rfl (by decide) ?_
            refine st_callV (pc' := 89) (kc := k - 1) (E' := LAY) (cal := m_X12_must) (n := 1) (as := [vI 59]) (S := []) dX12_finishes_86 rfl l_X12_459 k_X12_must rfl L_74 c_X12 rfl rfl (Nat.le_of_ble_eq_true rfl) (by omega) ⟨Nat.le_refl _, Nat.le_refl _, Nat.le_refl _, Nat.le_refl _⟩ h (fun r M' q => ?_)
            obtain ⟨I24, J25, rfl, rfl, h⟩ := q
            change WP _ LAY m_X12_finishes 89 [(0, vR (some 74)), (1, vI x1), (2, vI x2)] [] (mem (P, some 5, some 22) I24 J25) Q
            exact st_vret dX12_finishes_89 rfl rfl h
          · replace h := h.2 c
            refine st_iload_n (pc' := 69) dX12_finishes_68 rfl rfl (j := 2) rfl ?_
            refine st_aload_n (pc' := 70) dX12_finishes_69 rfl rfl (j := 0) rfl ?_
            refine G_X12_17_74 dX12_finishes_70 (pc' := 73) rfl rfl ?_
            refine st_icmp_ge (tg := 83) (pc' := 76) dX12_finishes_73 (by decide) rfl e1 (gi_in _ _ _) (fun c => ?_) (fun c => ?_)
            · replace h := h.1 c
              refine st_aload_n (pc' := 84) dX12_finishes_83 rfl rfl (j := 0) rfl ?_
              refine st_bipush (pc' := 86) dX12_finishes_84 rfl (by decide) ?_
              refine st_callV (pc' := 89) (kc := k - 1) (E' := LAY) (cal := m_X12_must) (n := 1) (as := [vI 59]) (S := []) dX12_finishes_86 rfl l_X12_459 k_X12_must rfl L_74 c_X12 rfl rfl (Nat.le_of_ble_eq_true rfl) (by omega) ⟨Nat.le_refl _, Nat.le_refl _, Nat.le_refl _, Nat.le_refl _⟩ h (fun r M' q => ?_)
              obtain ⟨I27, J28, rfl, rfl, h⟩ := q
              change WP _ LAY m_X12_finishes 89 [(0, vR (some 74)), (1, vI x1), (2, vI x2)] [] (mem (P, some 5, some 22) I27 J28) Q
              exact st_vret dX12_finishes_89 rfl rfl h
            · replace h := h.2 c
              refine st_aload_n (pc' := 77) dX12_finishes_76 rfl rfl (j := 0) rfl ?_
              refine st_bipush (pc' := 79) dX12_finishes_77 rfl (by decide) ?_
              refine st_iload_n (pc' := 80) dX12_finishes_79 rfl rfl (j := 2) rfl ?_
              refine st_callV (pc' := 83) (kc := k - 1) (E' := LAY) (cal := m_X12_blame) (n := 2) (as := [vI 6, vI x2]) (S := []) dX12_finishes_80 rfl l_X12_287 k_X12_blame rfl L_74 c_X12 rfl rfl (Nat.le_of_ble_eq_true rfl) (by omega) ⟨Nat.le_refl _, Nat.le_refl _, Nat.le_refl _, Nat.le_refl _⟩ (Q1 := fun r M' => WP k LAY m_X12_finishes 83 [(0, vR (some 74)), (1, vI x1), (2, vI x2)] (r.toList ++ []) M' Q) (WPm.of k_X12_blame.1 (Nat.le_of_ble_eq_true rfl) (B_X12_blame_0 (by omega) ?_)) (fun r M' q => q)
              refine ⟨fun c => ?_, fun c => ?_⟩
              · replace h := h.1 c
                change WP _ LAY m_X12_finishes 83 [(0, vR (some 74)), (1, vI x1), (2, vI x2)] [] (mem (P, some 5, some 22) (si (si I 74 8 6) 74 9 x2) J) Q
                refine st_aload_n (pc' := 84) dX12_finishes_83 rfl rfl (j := 0) rfl ?_
                refine st_bipush (pc' := 86) dX12_finishes_84 rfl (by decide) ?_
                refine st_callV (pc' := 89) (kc := k - 1) (E' := LAY) (cal := m_X12_must) (n := 1) (as := [vI 59]) (S := []) dX12_finishes_86 rfl l_X12_459 k_X12_must rfl L_74 c_X12 rfl rfl (Nat.le_of_ble_eq_true rfl) (by omega) ⟨Nat.le_refl _, Nat.le_refl _, Nat.le_refl _, Nat.le_refl _⟩ h (fun r M' q => ?_)
                obtain ⟨I30, J31, rfl, rfl, h⟩ := q
                change WP _ LAY m_X12_finishes 89 [(0, vR (some 74)), (1, vI x1), (2, vI x2)] [] (mem (P, some 5, some 22) I30 J31) Q
                exact st_vret dX12_finishes_89 rfl rfl h
              · replace h := h.2 c
                change WP _ LAY m_X12_finishes 83 [(0, vR (some 74)), (1, vI x1), (2, vI x2)] [] (mem (P, some 5, some 22) I J) Q
                refine st_aload_n (pc' := 84) dX12_finishes_83 rfl rfl (j := 0) rfl ?_
                refine st_bipush (pc' := 86) dX12_finishes_84 rfl (by decide) ?_
                refine st_callV (pc' := 89) (kc := k - 1) (E' := LAY) (cal := m_X12_must) (n := 1) (as := [vI 59]) (S := []) dX12_finishes_86 rfl l_X12_459 k_X12_must rfl L_74 c_X12 rfl rfl (Nat.le_of_ble_eq_true rfl) (by omega) ⟨Nat.le_refl _, Nat.le_refl _, Nat.le_refl _, Nat.le_refl _⟩ h (fun r M' q => ?_)
                obtain ⟨I33, J34, rfl, rfl, h⟩ := q
                change WP _ LAY m_X12_finishes 89 [(0, vR (some 74)), (1, vI x1), (2, vI x2)] [] (mem (P, some 5, some 22) I33 J34) Q
                exact st_vret dX12_finishes_89 rfl rfl h
      · replace h := h.2 c
        refine st_iinc (pc' := 50) (L' := [(2, vI (x2 + 1)), (0, vR (some 74)), (1, vI x1)]) (j := 2) dX12_finishes_47 rfl (by decide) rfl rfl ?_
        refine st_goto (pc' := 17) dX12_finishes_50 (by decide) ?_
        refine WP_sub (L' := [(0, vR (some 74)), (1, vI x1), (2, vI (x2 + 1))]) [1, 2, 0] rfl ?_
        exact h
set_option maxRecDepth 20000 in
set_option maxHeartbeats 4000000 in
theorem B_X12_lightOf_0 {k : Nat} {P : Option Nat} {I : Nat → Nat → Int32} {J : Nat → Nat → Int64} {x1 : Int} {x2 : Int} {Q : Option AV → Mem → Prop} (hk : 0 ≤ k) (h : WP k LAY m_X12_lightOf 5 [(0, vR (some 74)), (1, vI x1), (2, vI x2), (3, vI 0), (4, vI 0)] [] (mem (P, some 5, some 22) I J) Q) : WP k LAY m_X12_lightOf 0 [(0, vR (some 74)), (1, vI x1), (2, vI x2)] [] (mem (P, some 5, some 22) I J) Q := by
  refine st_iconst (pc' := 1) dX12_lightOf_0 rfl ?_
  refine st_istore_n (pc' := 2) (L' := [(3, vI 0), (0, vR (some 74)), (1, vI x1), (2, vI x2)]) dX12_lightOf_1 rfl rfl (by decide) rfl ?_
  refine st_iconst (pc' := 3) dX12_lightOf_2 rfl ?_
  refine st_istore (pc' := 5) (L' := [(4, vI 0), (3, vI 0), (0, vR (some 74)), (1, vI x1), (2, vI x2)]) dX12_lightOf_3 rfl (by decide) rfl ?_
  refine WP_sub (L' := [(0, vR (some 74)), (1, vI x1), (2, vI x2), (3, vI 0), (4, vI 0)]) [2, 3, 4, 1, 0] rfl ?_
  exact h
set_option maxRecDepth 20000 in
set_option maxHeartbeats 4000000 in
theorem B_X12_lightOf_5 {k : Nat} {P : Option Nat} {I : Nat → Nat → Int32} {J : Nat → Nat → Int64} {x1 : Int} {x2 : Int} {x3 : Int} {x4 : Int} {Q : Option AV → Mem → Prop} (hk : 1 ≤ k) (h : (0 ≤ (gi I 74 13) ∧ (gi I 74 13) < 2) ∧ (inR x4 ∧ (((gi I 83 (gi I 74 13).toNat) ≤ x4 → (Q (some (vI x3)) (mem (P, some 5, some 22) I J))) ∧ (¬ (gi I 83 (gi I 74 13).toNat) ≤ x4 → ((0 ≤ ((6 * x1) + x4) ∧ ((6 * x1) + x4) < 132) ∧ (inR x2 ∧ ((¬ (gi I 110 (((6 * x1) + x4) : Int).toNat) = x2 → (WP k LAY m_X12_lightOf 5 [(0, vR (some 74)), (1, vI x1), (2, vI x2), (3, vI (x3 + 0)), (4, vI (x4 + 1))] [] (mem (P, some 5, some 22) I J) Q)) ∧ ((gi I 110 (((6 * x1) + x4) : Int).toNat) = x2 → (WPm (k - 1) LAY m_X12_burnsOf [vR (some 74), vI x1, vI x4] (mem (P, some 5, some 22) I J) (retI (fun v5 I6 J7 => WP k LAY m_X12_lightOf 5 [(0, vR (some 74)), (1, vI x1), (2, vI x2), (3, vI (x3 + v5)), (4, vI (x4 + 1))] [] (mem (P, some 5, some 22) I6 J7) Q) (P, some 5, some 22))))))))))) : WP k LAY m_X12_lightOf 5 [(0, vR (some 74)), (1, vI x1), (2, vI x2), (3, vI x3), (4, vI x4)] [] (mem (P, some 5, some 22) I J) Q := by
  refine st_iload (pc' := 7) dX12_lightOf_5 rfl (j := 4) rfl ?_
  refine st_aload_n (pc' := 8) dX12_lightOf_7 rfl rfl (j := 0) rfl ?_
  refine G_X12_75_74 dX12_lightOf_8 (pc' := 11) rfl rfl ?_
  refine st_aload_n (pc' := 12) dX12_lightOf_11 rfl rfl (j := 0) rfl ?_
  refine G_X12_51_74 dX12_lightOf_12 (pc' := 15) rfl rfl ?_
  obtain ⟨e1, h⟩ := h
  refine st_iaload (pc' := 16) (v := (gi I 83 (gi I 74 13).toNat)) dX12_lightOf_15 rfl L_83 (by decide) e1 (show gi I 83 (gi I 74 13).toNat = (gi I 83 (gi I 74 13).toNat) from rfl) ?_
  obtain ⟨e2, h⟩ := h
  refine st_icmp_ge (tg := 55) (pc' := 19) dX12_lightOf_16 (by decide) rfl e2 (gi_in _ _ _) (fun c => ?_) (fun c => ?_)
  · replace h := h.1 c
    refine st_iload_n (pc' := 56) dX12_lightOf_55 rfl rfl (j := 3) rfl ?_
    exact st_iret (ty := .int) dX12_lightOf_56 rfl rfl rfl h
  · replace h := h.2 c
    refine st_iload_n (pc' := 20) dX12_lightOf_19 rfl rfl (j := 3) rfl ?_
    refine st_aload_n (pc' := 21) dX12_lightOf_20 rfl rfl (j := 0) rfl ?_
    refine G_X12_177_74 dX12_lightOf_21 (pc' := 24) rfl rfl ?_
    refine st_bipush (pc' := 26) dX12_lightOf_24 rfl (by decide) ?_
    refine st_iload_n (pc' := 27) dX12_lightOf_26 rfl rfl (j := 1) rfl ?_
    refine st_imul (pc' := 28) dX12_lightOf_27 rfl ?_
    refine st_iload (pc' := 30) dX12_lightOf_28 rfl (j := 4) rfl ?_
    refine st_iadd (pc' := 31) dX12_lightOf_30 rfl ?_
    obtain ⟨e3, h⟩ := h
    refine st_iaload (pc' := 32) (v := (gi I 110 (((6 * x1) + x4) : Int).toNat)) dX12_lightOf_31 rfl L_110 (by decide) e3 (show gi I 110 (((6 * x1) + x4) : Int).toNat = (gi I 110 (((6 * x1) + x4) : Int).toNat) from rfl) ?_
    refine st_iload_n (pc' := 33) dX12_lightOf_32 rfl rfl (j := 2) rfl ?_
    obtain ⟨e4, h⟩ := h
    refine st_icmp_ne (tg := 46) (pc' := 36) dX12_lightOf_33 (by decide) rfl (gi_in _ _ _) e4 (fun c => ?_) (fun c => ?_)
    · replace h := h.1 c
      refine st_iconst (pc' := 47) dX12_lightOf_46 rfl ?_
      refine st_iadd (pc' := 48) dX12_lightOf_47 rfl ?_
      refine st_istore_n (pc' := 49) (L' := [(3, vI (x3 + 0)), (0, vR (some 74)), (1, vI x1), (2, vI x2), (4, vI x4)]) dX12_lightOf_48 rfl rfl (by decide) rfl ?_
      refine st_iinc (pc' := 52) (L' := [(4, vI (x4 + 1)), (3, vI (x3 + 0)), (0, vR (some 74)), (1, vI x1), (2, vI x2)]) (j := 4) dX12_lightOf_49 rfl (by decide) rfl rfl ?_
      refine st_goto (pc' := 5) dX12_lightOf_52 (by decide) ?_
      refine WP_sub (L' := [(0, vR (some 74)), (1, vI x1), (2, vI x2), (3, vI (x3 + 0)), (4, vI (x4 + 1))]) [2, 3, 4, 1, 0] rfl ?_
      exact h
    · replace h := h.2 c
      refine st_aload_n (pc' := 37) dX12_lightOf_36 rfl rfl (j := 0) rfl ?_
      refine st_iload_n (pc' := 38) dX12_lightOf_37 rfl rfl (j := 1) rfl ?_
      refine st_iload (pc' := 40) dX12_lightOf_38 rfl (j := 4) rfl ?_
      refine st_callV (pc' := 43) (kc := k - 1) (E' := LAY) (cal := m_X12_burnsOf) (n := 2) (as := [vI x1, vI x4]) (S := [vI x3]) dX12_lightOf_40 rfl l_X12_521 k_X12_burnsOf rfl L_74 c_X12 rfl rfl (Nat.le_of_ble_eq_true rfl) (by omega) ⟨Nat.le_refl _, Nat.le_refl _, Nat.le_refl _, Nat.le_refl _⟩ h (fun r M' q => ?_)
      obtain ⟨v5, I6, J7, rfl, rfl, h⟩ := q
      change WP _ LAY m_X12_lightOf 43 [(0, vR (some 74)), (1, vI x1), (2, vI x2), (3, vI x3), (4, vI x4)] [vI v5, vI x3] (mem (P, some 5, some 22) I6 J7) Q
      refine st_goto (pc' := 47) dX12_lightOf_43 (by decide) ?_
      refine st_iadd (pc' := 48) dX12_lightOf_47 rfl ?_
      refine st_istore_n (pc' := 49) (L' := [(3, vI (x3 + v5)), (0, vR (some 74)), (1, vI x1), (2, vI x2), (4, vI x4)]) dX12_lightOf_48 rfl rfl (by decide) rfl ?_
      refine st_iinc (pc' := 52) (L' := [(4, vI (x4 + 1)), (3, vI (x3 + v5)), (0, vR (some 74)), (1, vI x1), (2, vI x2)]) (j := 4) dX12_lightOf_49 rfl (by decide) rfl rfl ?_
      refine st_goto (pc' := 5) dX12_lightOf_52 (by decide) ?_
      refine WP_sub (L' := [(0, vR (some 74)), (1, vI x1), (2, vI x2), (3, vI (x3 + v5)), (4, vI (x4 + 1))]) [2, 3, 4, 1, 0] rfl ?_
      exact h
set_option maxRecDepth 20000 in
set_option maxHeartbeats 4000000 in
theorem B_X12_mayRead_0 {k : Nat} {P : Option Nat} {I : Nat → Nat → Int32} {J : Nat → Nat → Int64} {x1 : Int} {x2 : Int} {x3 : Int} {Q : Option AV → Mem → Prop} (hk : 1 ≤ k) (h : (0 ≤ ((14 * (gi I 74 13)) + x3) ∧ ((14 * (gi I 74 13)) + x3) < 28) ∧ ((0 ≤ ((6 * x1) + x2) ∧ ((6 * x1) + x2) < 132) ∧ ((¬ (and32 (gi I 81 (((14 * (gi I 74 13)) + x3) : Int).toNat) (xor32 (or32 (gi I 111 (((6 * x1) + x2) : Int).toNat) (gi I 112 (((6 * x1) + x2) : Int).toNat)) (-1))) = 0 → (Q (some (vI 0)) (mem (P, some 5, some 22) I J))) ∧ ((and32 (gi I 81 (((14 * (gi I 74 13)) + x3) : Int).toNat) (xor32 (or32 (gi I 111 (((6 * x1) + x2) : Int).toNat) (gi I 112 (((6 * x1) + x2) : Int).toNat)) (-1))) = 0 → (Q (some (vI 1)) (mem (P, some 5, some 22) I J)))))) : WP k LAY m_X12_mayRead 0 [(0, vR (some 74)), (1, vI x1), (2, vI x2), (3, vI x3)] [] (mem (P, some 5, some 22) I J) Q := by
  refine st_aload_n (pc' := 1) dX12_mayRead_0 rfl rfl (j := 0) rfl ?_
  refine st_iload_n (pc' := 2) dX12_mayRead_1 rfl rfl (j := 3) rfl ?_
  refine st_callV (pc' := 5) (kc := k - 1) (E' := LAY) (cal := m_X12_needsOf) (n := 1) (as := [vI x3]) (S := []) dX12_mayRead_2 rfl l_X12_470 k_X12_needsOf rfl L_74 c_X12 rfl rfl (Nat.le_of_ble_eq_true rfl) (by omega) ⟨Nat.le_refl _, Nat.le_refl _, Nat.le_refl _, Nat.le_refl _⟩ (Q1 := fun r M' => WP k LAY m_X12_mayRead 5 [(0, vR (some 74)), (1, vI x1), (2, vI x2), (3, vI x3)] (r.toList ++ []) M' Q) (WPm.of k_X12_needsOf.1 (Nat.le_of_ble_eq_true rfl) (B_X12_needsOf_0 (by omega) ?_)) (fun r M' q => q)
  obtain ⟨e1, h⟩ := h
  refine ⟨e1, ?_⟩
  change WP _ LAY m_X12_mayRead 5 [(0, vR (some 74)), (1, vI x1), (2, vI x2), (3, vI x3)] [vI (gi I 81 (((14 * (gi I 74 13)) + x3) : Int).toNat)] (mem (P, some 5, some 22) I J) Q
  refine st_aload_n (pc' := 6) dX12_mayRead_5 rfl rfl (j := 0) rfl ?_
  refine st_iload_n (pc' := 7) dX12_mayRead_6 rfl rfl (j := 1) rfl ?_
  refine st_iload_n (pc' := 8) dX12_mayRead_7 rfl rfl (j := 2) rfl ?_
  refine st_callV (pc' := 11) (kc := k - 1) (E' := LAY) (cal := m_X12_known) (n := 2) (as := [vI x1, vI x2]) (S := [vI (gi I 81 (((14 * (gi I 74 13)) + x3) : Int).toNat)]) dX12_mayRead_8 rfl l_X12_473 k_X12_known rfl L_74 c_X12 rfl rfl (Nat.le_of_ble_eq_true rfl) (by omega) ⟨Nat.le_refl _, Nat.le_refl _, Nat.le_refl _, Nat.le_refl _⟩ (Q1 := fun r M' => WP k LAY m_X12_mayRead 11 [(0, vR (some 74)), (1, vI x1), (2, vI x2), (3, vI x3)] (r.toList ++ [vI (gi I 81 (((14 * (gi I 74 13)) + x3) : Int).toNat)]) M' Q) (WPm.of k_X12_known.1 (Nat.le_of_ble_eq_true rfl) (B_X12_known_0 (by omega) ?_)) (fun r M' q => q)
  obtain ⟨e2, h⟩ := h
  refine ⟨e2, ?_⟩
  change WP _ LAY m_X12_mayRead 11 [(0, vR (some 74)), (1, vI x1), (2, vI x2), (3, vI x3)] [vI (or32 (gi I 111 (((6 * x1) + x2) : Int).toNat) (gi I 112 (((6 * x1) + x2) : Int).toNat)), vI (gi I 81 (((14 * (gi I 74 13)) + x3) : Int).toNat)] (mem (P, some 5, some 22) I J) Q
  refine st_iconst (pc' := 12) dX12_mayRead_11 rfl ?_
  refine st_ixor (pc' := 13) (z := (xor32 (or32 (gi I 111 (((6 * x1) + x2) : Int).toNat) (gi I 112 (((6 * x1) + x2) : Int).toNat)) (-1))) dX12_mayRead_12 rfl rfl ?_
  refine st_iand (pc' := 14) (z := (and32 (gi I 81 (((14 * (gi I 74 13)) + x3) : Int).toNat) (xor32 (or32 (gi I 111 (((6 * x1) + x2) : Int).toNat) (gi I 112 (((6 * x1) + x2) : Int).toNat)) (-1)))) dX12_mayRead_13 rfl rfl ?_
  refine st_if_ne (tg := 21) (pc' := 17) dX12_mayRead_14 (by decide) rfl (and32_in _ _) (fun c => ?_) (fun c => ?_)
  · replace h := h.1 c
    refine st_iconst (pc' := 22) dX12_mayRead_21 rfl ?_
    exact st_iret (ty := .boolean) dX12_mayRead_22 rfl (by decide) rfl h
  · replace h := h.2 c
    refine st_iconst (pc' := 18) dX12_mayRead_17 rfl ?_
    refine st_goto (pc' := 22) dX12_mayRead_18 (by decide) ?_
    exact st_iret (ty := .boolean) dX12_mayRead_22 rfl (by decide) rfl h
set_option maxRecDepth 20000 in
set_option maxHeartbeats 4000000 in
theorem B_X12_nextPage_0 {k : Nat} {P : Option Nat} {I : Nat → Nat → Int32} {J : Nat → Nat → Int64} {x1 : Int} {x2 : Int} {Q : Option AV → Mem → Prop} (hk : 2 ≤ k) (h : (0 ≤ ((6 * x1) + x2) ∧ ((6 * x1) + x2) < 132) ∧ (((gi I 113 (((6 * x1) + x2) : Int).toNat) = (-1) → (WP k LAY m_X12_nextPage 42 [(0, vR (some 74)), (1, vI x1), (2, vI x2), (3, vI ((6 * x1) + x2)), (4, vI 0)] [] (mem (P, some 5, some 22) I J) Q)) ∧ (¬ (gi I 113 (((6 * x1) + x2) : Int).toNat) = (-1) → ((0 ≤ ((14 * (gi I 74 13)) + (gi I 113 (((6 * x1) + x2) : Int).toNat)) ∧ ((14 * (gi I 74 13)) + (gi I 113 (((6 * x1) + x2) : Int).toNat)) < 28) ∧ ((¬ (and32 (gi I 81 (((14 * (gi I 74 13)) + (gi I 113 (((6 * x1) + x2) : Int).toNat)) : Int).toNat) (xor32 (or32 (gi I 111 (((6 * x1) + x2) : Int).toNat) (gi I 112 (((6 * x1) + x2) : Int).toNat)) (-1))) = 0 → (WP k LAY m_X12_nextPage 42 [(0, vR (some 74)), (1, vI x1), (2, vI x2), (3, vI ((6 * x1) + x2)), (4, vI 0)] [] (mem (P, some 5, some 22) I J) Q)) ∧ ((and32 (gi I 81 (((14 * (gi I 74 13)) + (gi I 113 (((6 * x1) + x2) : Int).toNat)) : Int).toNat) (xor32 (or32 (gi I 111 (((6 * x1) + x2) : Int).toNat) (gi I 112 (((6 * x1) + x2) : Int).toNat)) (-1))) = 0 → (Q (some (vI (gi I 113 (((6 * x1) + x2) : Int).toNat))) (mem (P, some 5, some 22) I J)))))))) : WP k LAY m_X12_nextPage 0 [(0, vR (some 74)), (1, vI x1), (2, vI x2)] [] (mem (P, some 5, some 22) I J) Q := by
  refine st_bipush (pc' := 2) dX12_nextPage_0 rfl (by decide) ?_
  refine st_iload_n (pc' := 3) dX12_nextPage_2 rfl rfl (j := 1) rfl ?_
  refine st_imul (pc' := 4) dX12_nextPage_3 rfl ?_
  refine st_iload_n (pc' := 5) dX12_nextPage_4 rfl rfl (j := 2) rfl ?_
  refine st_iadd (pc' := 6) dX12_nextPage_5 rfl ?_
  refine st_istore_n (pc' := 7) (L' := [(3, vI ((6 * x1) + x2)), (0, vR (some 74)), (1, vI x1), (2, vI x2)]) dX12_nextPage_6 rfl rfl (by decide) rfl ?_
  refine st_aload_n (pc' := 8) dX12_nextPage_7 rfl rfl (j := 1) rfl ?_
  refine G_X12_186_74 dX12_nextPage_8 (pc' := 11) rfl rfl ?_
  refine st_iload_n (pc' := 12) dX12_nextPage_11 rfl rfl (j := 0) rfl ?_
  obtain ⟨e1, h⟩ := h
  refine st_iaload (pc' := 13) (v := (gi I 113 (((6 * x1) + x2) : Int).toNat)) dX12_nextPage_12 rfl L_113 (by decide) e1 (show gi I 113 (((6 * x1) + x2) : Int).toNat = (gi I 113 (((6 * x1) + x2) : Int).toNat) from rfl) ?_
  refine st_iconst (pc' := 14) dX12_nextPage_13 rfl ?_
  refine st_icmp_eq (tg := 39) (pc' := 17) dX12_nextPage_14 (by decide) rfl (gi_in _ _ _) (by decide) (fun c => ?_) (fun c => ?_)
  · replace h := h.1 c
    refine st_iconst (pc' := 40) dX12_nextPage_39 rfl ?_
    refine st_istore (pc' := 42) (L' := [(4, vI 0), (3, vI ((6 * x1) + x2)), (0, vR (some 74)), (1, vI x1), (2, vI x2)]) dX12_nextPage_40 rfl (by decide) rfl ?_
    refine WP_sub (L' := [(0, vR (some 74)), (1, vI x1), (2, vI x2), (3, vI ((6 * x1) + x2)), (4, vI 0)]) [2, 3, 4, 1, 0] rfl ?_
    exact h
  · replace h := h.2 c
    refine st_aload_n (pc' := 18) dX12_nextPage_17 rfl rfl (j := 1) rfl ?_
    refine st_iload_n (pc' := 19) dX12_nextPage_18 rfl rfl (j := 2) rfl ?_
    refine st_iload_n (pc' := 20) dX12_nextPage_19 rfl rfl (j := 3) rfl ?_
    refine st_aload_n (pc' := 21) dX12_nextPage_20 rfl rfl (j := 1) rfl ?_
    refine G_X12_186_74 dX12_nextPage_21 (pc' := 24) rfl rfl ?_
    refine st_iload_n (pc' := 25) dX12_nextPage_24 rfl rfl (j := 0) rfl ?_
    refine st_iaload (pc' := 26) (v := (gi I 113 (((6 * x1) + x2) : Int).toNat)) dX12_nextPage_25 rfl L_113 (by decide) e1 (show gi I 113 (((6 * x1) + x2) : Int).toNat = (gi I 113 (((6 * x1) + x2) : Int).toNat) from rfl) ?_
    refine st_callV (pc' := 29) (kc := k - 1) (E' := LAY) (cal := m_X12_mayRead) (n := 3) (as := [vI x1, vI x2, vI (gi I 113 (((6 * x1) + x2) : Int).toNat)]) (S := []) dX12_nextPage_26 rfl l_X12_524 k_X12_mayRead rfl L_74 c_X12 rfl rfl (Nat.le_of_ble_eq_true rfl) (by omega) ⟨Nat.le_refl _, Nat.le_refl _, Nat.le_refl _, Nat.le_refl _⟩ (Q1 := fun r M' => WP k LAY m_X12_nextPage 29 [(3, vI ((6 * x1) + x2)), (0, vR (some 74)), (1, vI x1), (2, vI x2)] (r.toList ++ []) M' Q) (WPm.of k_X12_mayRead.1 (Nat.le_of_ble_eq_true rfl) (B_X12_mayRead_0 (by omega) ?_)) (fun r M' q => q)
    obtain ⟨e2, h⟩ := h
    refine ⟨e2, ?_⟩
    refine ⟨e1, ?_⟩
    refine ⟨fun c => ?_, fun c => ?_⟩
    · replace h := h.1 c
      change WP _ LAY m_X12_nextPage 29 [(3, vI ((6 * x1) + x2)), (0, vR (some 74)), (1, vI x1), (2, vI x2)] [vI 0] (mem (P, some 5, some 22) I J) Q
      refine st_if_eq (tg := 39) (pc' := 32) dX12_nextPage_29 (by decide) rfl (by decide) (fun c => ?_) (fun c => ?_)
      · refine st_iconst (pc' := 40) dX12_nextPage_39 rfl ?_
        refine st_istore (pc' := 42) (L' := [(4, vI 0), (3, vI ((6 * x1) + x2)), (0, vR (some 74)), (1, vI x1), (2, vI x2)]) dX12_nextPage_40 rfl (by decide) rfl ?_
        refine WP_sub (L' := [(0, vR (some 74)), (1, vI x1), (2, vI x2), (3, vI ((6 * x1) + x2)), (4, vI 0)]) [2, 3, 4, 1, 0] rfl ?_
        exact h
      · exact absurd c (by decide)
    · replace h := h.2 c
      change WP _ LAY m_X12_nextPage 29 [(3, vI ((6 * x1) + x2)), (0, vR (some 74)), (1, vI x1), (2, vI x2)] [vI 1] (mem (P, some 5, some 22) I J) Q
      refine st_if_eq (tg := 39) (pc' := 32) dX12_nextPage_29 (by decide) rfl (by decide) (fun c => ?_) (fun c => ?_)
      · exact absurd c (by decide)
      · refine st_aload_n (pc' := 33) dX12_nextPage_32 rfl rfl (j := 1) rfl ?_
        refine G_X12_186_74 dX12_nextPage_33 (pc' := 36) rfl rfl ?_
        refine st_iload_n (pc' := 37) dX12_nextPage_36 rfl rfl (j := 0) rfl ?_
        refine st_iaload (pc' := 38) (v := (gi I 113 (((6 * x1) + x2) : Int).toNat)) dX12_nextPage_37 rfl L_113 (by decide) e1 (show gi I 113 (((6 * x1) + x2) : Int).toNat = (gi I 113 (((6 * x1) + x2) : Int).toNat) from rfl) ?_
        exact st_iret (ty := .int) dX12_nextPage_38 rfl rfl rfl h
set_option maxRecDepth 20000 in
set_option maxHeartbeats 4000000 in
theorem B_X12_nextPage_42 {k : Nat} {P : Option Nat} {I : Nat → Nat → Int32} {J : Nat → Nat → Int64} {x1 : Int} {x2 : Int} {x3 : Int} {x4 : Int} {Q : Option AV → Mem → Prop} (hk : 2 ≤ k) (h : (0 ≤ x3 ∧ x3 < 132) ∧ (inR x4 ∧ (((gi I 115 (x3).toNat) ≤ x4 → (Q (some (vI (-1))) (mem (P, some 5, some 22) I J))) ∧ (¬ (gi I 115 (x3).toNat) ≤ x4 → ((0 ≤ ((8 * x3) + x4) ∧ ((8 * x3) + x4) < 1056) ∧ ((0 ≤ ((14 * (gi I 74 13)) + (gi I 116 (((8 * x3) + x4) : Int).toNat)) ∧ ((14 * (gi I 74 13)) + (gi I 116 (((8 * x3) + x4) : Int).toNat)) < 28) ∧ ((0 ≤ ((6 * x1) + x2) ∧ ((6 * x1) + x2) < 132) ∧ ((¬ (and32 (gi I 81 (((14 * (gi I 74 13)) + (gi I 116 (((8 * x3) + x4) : Int).toNat)) : Int).toNat) (xor32 (or32 (gi I 111 (((6 * x1) + x2) : Int).toNat) (gi I 112 (((6 * x1) + x2) : Int).toNat)) (-1))) = 0 → (WP k LAY m_X12_nextPage 42 [(0, vR (some 74)), (1, vI x1), (2, vI x2), (3, vI x3), (4, vI (x4 + 1))] [] (mem (P, some 5, some 22) I J) Q)) ∧ ((and32 (gi I 81 (((14 * (gi I 74 13)) + (gi I 116 (((8 * x3) + x4) : Int).toNat)) : Int).toNat) (xor32 (or32 (gi I 111 (((6 * x1) + x2) : Int).toNat) (gi I 112 (((6 * x1) + x2) : Int).toNat)) (-1))) = 0 → (Q (some (vI (gi I 116 (((8 * x3) + x4) : Int).toNat))) (mem (P, some 5, some 22) I J))))))))))) : WP k LAY m_X12_nextPage 42 [(0, vR (some 74)), (1, vI x1), (2, vI x2), (3, vI x3), (4, vI x4)] [] (mem (P, some 5, some 22) I J) Q := by
  refine st_iload (pc' := 44) dX12_nextPage_42 rfl (j := 4) rfl ?_
  refine st_aload_n (pc' := 45) dX12_nextPage_44 rfl rfl (j := 0) rfl ?_
  refine G_X12_192_74 dX12_nextPage_45 (pc' := 48) rfl rfl ?_
  refine st_iload_n (pc' := 49) dX12_nextPage_48 rfl rfl (j := 3) rfl ?_
  obtain ⟨e1, h⟩ := h
  refine st_iaload (pc' := 50) (v := (gi I 115 (x3).toNat)) dX12_nextPage_49 rfl L_115 (by decide) e1 (show gi I 115 (x3).toNat = (gi I 115 (x3).toNat) from rfl) ?_
  obtain ⟨e2, h⟩ := h
  refine st_icmp_ge (tg := 93) (pc' := 53) dX12_nextPage_50 (by decide) rfl e2 (gi_in _ _ _) (fun c => ?_) (fun c => ?_)
  · replace h := h.1 c
    refine st_iconst (pc' := 94) dX12_nextPage_93 rfl ?_
    exact st_iret (ty := .int) dX12_nextPage_94 rfl rfl rfl h
  · replace h := h.2 c
    refine st_aload_n (pc' := 54) dX12_nextPage_53 rfl rfl (j := 0) rfl ?_
    refine st_iload_n (pc' := 55) dX12_nextPage_54 rfl rfl (j := 1) rfl ?_
    refine st_iload_n (pc' := 56) dX12_nextPage_55 rfl rfl (j := 2) rfl ?_
    refine st_aload_n (pc' := 57) dX12_nextPage_56 rfl rfl (j := 0) rfl ?_
    refine G_X12_195_74 dX12_nextPage_57 (pc' := 60) rfl rfl ?_
    refine st_bipush (pc' := 62) dX12_nextPage_60 rfl (by decide) ?_
    refine st_iload_n (pc' := 63) dX12_nextPage_62 rfl rfl (j := 3) rfl ?_
    refine st_imul (pc' := 64) dX12_nextPage_63 rfl ?_
    refine st_iload (pc' := 66) dX12_nextPage_64 rfl (j := 4) rfl ?_
    refine st_iadd (pc' := 67) dX12_nextPage_66 rfl ?_
    obtain ⟨e3, h⟩ := h
    refine st_iaload (pc' := 68) (v := (gi I 116 (((8 * x3) + x4) : Int).toNat)) dX12_nextPage_67 rfl L_116 (by decide) e3 (show gi I 116 (((8 * x3) + x4) : Int).toNat = (gi I 116 (((8 * x3) + x4) : Int).toNat) from rfl) ?_
    refine st_callV (pc' := 71) (kc := k - 1) (E' := LAY) (cal := m_X12_mayRead) (n := 3) (as := [vI x1, vI x2, vI (gi I 116 (((8 * x3) + x4) : Int).toNat)]) (S := []) dX12_nextPage_68 rfl l_X12_524 k_X12_mayRead rfl L_74 c_X12 rfl rfl (Nat.le_of_ble_eq_true rfl) (by omega) ⟨Nat.le_refl _, Nat.le_refl _, Nat.le_refl _, Nat.le_refl _⟩ (Q1 := fun r M' => WP k LAY m_X12_nextPage 71 [(0, vR (some 74)), (1, vI x1), (2, vI x2), (3, vI x3), (4, vI x4)] (r.toList ++ []) M' Q) (WPm.of k_X12_mayRead.1 (Nat.le_of_ble_eq_true rfl) (B_X12_mayRead_0 (by omega) ?_)) (fun r M' q => q)
    obtain ⟨e4, h⟩ := h
    refine ⟨e4, ?_⟩
    obtain ⟨e5, h⟩ := h
    refine ⟨e5, ?_⟩
    refine ⟨fun c => ?_, fun c => ?_⟩
    · replace h := h.1 c
      change WP _ LAY m_X12_nextPage 71 [(0, vR (some 74)), (1, vI x1), (2, vI x2), (3, vI x3), (4, vI x4)] [vI 0] (mem (P, some 5, some 22) I J) Q
      refine st_if_eq (tg := 87) (pc' := 74) dX12_nextPage_71 (by decide) rfl (by decide) (fun c => ?_) (fun c => ?_)
      · refine st_iinc (pc' := 90) (L' := [(4, vI (x4 + 1)), (0, vR (some 74)), (1, vI x1), (2, vI x2), (3, vI x3)]) (j := 4) dX12_nextPage_87 rfl (by decide) rfl rfl ?_
        refine st_goto (pc' := 42) dX12_nextPage_90 (by decide) ?_
        refine WP_sub (L' := [(0, vR (some 74)), (1, vI x1), (2, vI x2), (3, vI x3), (4, vI (x4 + 1))]) [1, 2, 3, 4, 0] rfl ?_
        exact h
      · exact absurd c (by decide)
    · replace h := h.2 c
      change WP _ LAY m_X12_nextPage 71 [(0, vR (some 74)), (1, vI x1), (2, vI x2), (3, vI x3), (4, vI x4)] [vI 1] (mem (P, some 5, some 22) I J) Q
      refine st_if_eq (tg := 87) (pc' := 74) dX12_nextPage_71 (by decide) rfl (by decide) (fun c => ?_) (fun c => ?_)
      · exact absurd c (by decide)
      · refine st_aload_n (pc' := 75) dX12_nextPage_74 rfl rfl (j := 0) rfl ?_
        refine G_X12_195_74 dX12_nextPage_75 (pc' := 78) rfl rfl ?_
        refine st_bipush (pc' := 80) dX12_nextPage_78 rfl (by decide) ?_
        refine st_iload_n (pc' := 81) dX12_nextPage_80 rfl rfl (j := 3) rfl ?_
        refine st_imul (pc' := 82) dX12_nextPage_81 rfl ?_
        refine st_iload (pc' := 84) dX12_nextPage_82 rfl (j := 4) rfl ?_
        refine st_iadd (pc' := 85) dX12_nextPage_84 rfl ?_
        refine st_iaload (pc' := 86) (v := (gi I 116 (((8 * x3) + x4) : Int).toNat)) dX12_nextPage_85 rfl L_116 (by decide) e3 (show gi I 116 (((8 * x3) + x4) : Int).toNat = (gi I 116 (((8 * x3) + x4) : Int).toNat) from rfl) ?_
        exact st_iret (ty := .int) dX12_nextPage_86 rfl rfl rfl h
set_option maxRecDepth 20000 in
set_option maxHeartbeats 4000000 in
theorem B_X12_unlists_0 {k : Nat} {P : Option Nat} {I : Nat → Nat → Int32} {J : Nat → Nat → Int64} {x1 : Int} {x2 : Int} {Q : Option AV → Mem → Prop} (hk : 0 ≤ k) (h : WP k LAY m_X12_unlists 5 [(0, vR (some 74)), (1, vI x1), (2, vI x2), (3, vI 0), (4, vI 0)] [] (mem (P, some 5, some 22) I J) Q) : WP k LAY m_X12_unlists 0 [(0, vR (some 74)), (1, vI x1), (2, vI x2)] [] (mem (P, some 5, some 22) I J) Q := by
  refine st_iconst (pc' := 1) dX12_unlists_0 rfl ?_
  refine st_istore_n (pc' := 2) (L' := [(3, vI 0), (0, vR (some 74)), (1, vI x1), (2, vI x2)]) dX12_unlists_1 rfl rfl (by decide) rfl ?_
  refine st_iconst (pc' := 3) dX12_unlists_2 rfl ?_
  refine st_istore (pc' := 5) (L' := [(4, vI 0), (3, vI 0), (0, vR (some 74)), (1, vI x1), (2, vI x2)]) dX12_unlists_3 rfl (by decide) rfl ?_
  refine WP_sub (L' := [(0, vR (some 74)), (1, vI x1), (2, vI x2), (3, vI 0), (4, vI 0)]) [2, 3, 4, 1, 0] rfl ?_
  exact h
set_option maxRecDepth 20000 in
set_option maxHeartbeats 4000000 in
theorem B_X12_unlists_5 {k : Nat} {P : Option Nat} {I : Nat → Nat → Int32} {J : Nat → Nat → Int64} {x1 : Int} {x2 : Int} {x3 : Int} {x4 : Int} {Q : Option AV → Mem → Prop} (hk : 0 ≤ k) (h : (0 ≤ x1 ∧ x1 < 132) ∧ (inR x4 ∧ (((gi I 115 (x1).toNat) ≤ x4 → (Q none (mem (P, some 5, some 22) (si I 115 (x1).toNat x3) J))) ∧ (¬ (gi I 115 (x1).toNat) ≤ x4 → ((0 ≤ ((8 * x1) + x4) ∧ ((8 * x1) + x4) < 1056) ∧ (inR x2 ∧ ((¬ (gi I 116 (((8 * x1) + x4) : Int).toNat) = x2 → ((0 ≤ ((8 * x1) + x3) ∧ ((8 * x1) + x3) < 1056) ∧ (WP k LAY m_X12_unlists 5 [(0, vR (some 74)), (1, vI x1), (2, vI x2), (3, vI (x3 + 1)), (4, vI (x4 + 1))] [] (mem (P, some 5, some 22) (si I 116 (((8 * x1) + x3) : Int).toNat (gi I 116 (((8 * x1) + x4) : Int).toNat)) J) Q))) ∧ ((gi I 116 (((8 * x1) + x4) : Int).toNat) = x2 → (WP k LAY m_X12_unlists 5 [(0, vR (some 74)), (1, vI x1), (2, vI x2), (3, vI x3), (4, vI (x4 + 1))] [] (mem (P, some 5, some 22) I J) Q))))))))) : WP k LAY m_X12_unlists 5 [(0, vR (some 74)), (1, vI x1), (2, vI x2), (3, vI x3), (4, vI x4)] [] (mem (P, some 5, some 22) I J) Q := by
  refine st_iload (pc' := 7) dX12_unlists_5 rfl (j := 4) rfl ?_
  refine st_aload_n (pc' := 8) dX12_unlists_7 rfl rfl (j := 0) rfl ?_
  refine G_X12_192_74 dX12_unlists_8 (pc' := 11) rfl rfl ?_
  refine st_iload_n (pc' := 12) dX12_unlists_11 rfl rfl (j := 1) rfl ?_
  obtain ⟨e1, h⟩ := h
  refine st_iaload (pc' := 13) (v := (gi I 115 (x1).toNat)) dX12_unlists_12 rfl L_115 (by decide) e1 (show gi I 115 (x1).toNat = (gi I 115 (x1).toNat) from rfl) ?_
  obtain ⟨e2, h⟩ := h
  refine st_icmp_ge (tg := 67) (pc' := 16) dX12_unlists_13 (by decide) rfl e2 (gi_in _ _ _) (fun c => ?_) (fun c => ?_)
  · replace h := h.1 c
    refine st_aload_n (pc' := 68) dX12_unlists_67 rfl rfl (j := 0) rfl ?_
    refine G_X12_192_74 dX12_unlists_68 (pc' := 71) rfl rfl ?_
    refine st_iload_n (pc' := 72) dX12_unlists_71 rfl rfl (j := 1) rfl ?_
    refine st_iload_n (pc' := 73) dX12_unlists_72 rfl rfl (j := 3) rfl ?_
    refine st_iastore (pc' := 74) (M' := (mem (P, some 5, some 22) (si I 115 (x1).toNat x3) J)) dX12_unlists_73 rfl L_115 (by decide) e1 rfl ?_
    exact st_vret dX12_unlists_74 rfl rfl h
  · replace h := h.2 c
    refine st_aload_n (pc' := 17) dX12_unlists_16 rfl rfl (j := 0) rfl ?_
    refine G_X12_195_74 dX12_unlists_17 (pc' := 20) rfl rfl ?_
    refine st_bipush (pc' := 22) dX12_unlists_20 rfl (by decide) ?_
    refine st_iload_n (pc' := 23) dX12_unlists_22 rfl rfl (j := 1) rfl ?_
    refine st_imul (pc' := 24) dX12_unlists_23 rfl ?_
    refine st_iload (pc' := 26) dX12_unlists_24 rfl (j := 4) rfl ?_
    refine st_iadd (pc' := 27) dX12_unlists_26 rfl ?_
    obtain ⟨e3, h⟩ := h
    refine st_iaload (pc' := 28) (v := (gi I 116 (((8 * x1) + x4) : Int).toNat)) dX12_unlists_27 rfl L_116 (by decide) e3 (show gi I 116 (((8 * x1) + x4) : Int).toNat = (gi I 116 (((8 * x1) + x4) : Int).toNat) from rfl) ?_
    refine st_iload_n (pc' := 29) dX12_unlists_28 rfl rfl (j := 2) rfl ?_
    obtain ⟨e4, h⟩ := h
    refine st_icmp_ne (tg := 35) (pc' := 32) dX12_unlists_29 (by decide) rfl (gi_in _ _ _) e4 (fun c => ?_) (fun c => ?_)
    · replace h := h.1 c
      refine st_aload_n (pc' := 36) dX12_unlists_35 rfl rfl (j := 0) rfl ?_
      refine G_X12_195_74 dX12_unlists_36 (pc' := 39) rfl rfl ?_
      refine st_bipush (pc' := 41) dX12_unlists_39 rfl (by decide) ?_
      refine st_iload_n (pc' := 42) dX12_unlists_41 rfl rfl (j := 1) rfl ?_
      refine st_imul (pc' := 43) dX12_unlists_42 rfl ?_
      refine st_iload_n (pc' := 44) dX12_unlists_43 rfl rfl (j := 3) rfl ?_
      refine st_iadd (pc' := 45) dX12_unlists_44 rfl ?_
      refine st_aload_n (pc' := 46) dX12_unlists_45 rfl rfl (j := 0) rfl ?_
      refine G_X12_195_74 dX12_unlists_46 (pc' := 49) rfl rfl ?_
      refine st_bipush (pc' := 51) dX12_unlists_49 rfl (by decide) ?_
      refine st_iload_n (pc' := 52) dX12_unlists_51 rfl rfl (j := 1) rfl ?_
      refine st_imul (pc' := 53) dX12_unlists_52 rfl ?_
      refine st_iload (pc' := 55) dX12_unlists_53 rfl (j := 4) rfl ?_
      refine st_iadd (pc' := 56) dX12_unlists_55 rfl ?_
      refine st_iaload (pc' := 57) (v := (gi I 116 (((8 * x1) + x4) : Int).toNat)) dX12_unlists_56 rfl L_116 (by decide) e3 (show gi I 116 (((8 * x1) + x4) : Int).toNat = (gi I 116 (((8 * x1) + x4) : Int).toNat) from rfl) ?_
      obtain ⟨e5, h⟩ := h
      refine st_iastore (pc' := 58) (M' := (mem (P, some 5, some 22) (si I 116 (((8 * x1) + x3) : Int).toNat (gi I 116 (((8 * x1) + x4) : Int).toNat)) J)) dX12_unlists_57 rfl L_116 (by decide) e5 rfl ?_
      refine st_iinc (pc' := 61) (L' := [(3, vI (x3 + 1)), (0, vR (some 74)), (1, vI x1), (2, vI x2), (4, vI x4)]) (j := 3) dX12_unlists_58 rfl (by decide) rfl rfl ?_
      refine st_iinc (pc' := 64) (L' := [(4, vI (x4 + 1)), (3, vI (x3 + 1)), (0, vR (some 74)), (1, vI x1), (2, vI x2)]) (j := 4) dX12_unlists_61 rfl (by decide) rfl rfl ?_
      refine st_goto (pc' := 5) dX12_unlists_64 (by decide) ?_
      refine WP_sub (L' := [(0, vR (some 74)), (1, vI x1), (2, vI x2), (3, vI (x3 + 1)), (4, vI (x4 + 1))]) [2, 3, 4, 1, 0] rfl ?_
      exact h
    · replace h := h.2 c
      refine st_goto (pc' := 61) dX12_unlists_32 (by decide) ?_
      refine st_iinc (pc' := 64) (L' := [(4, vI (x4 + 1)), (0, vR (some 74)), (1, vI x1), (2, vI x2), (3, vI x3)]) (j := 4) dX12_unlists_61 rfl (by decide) rfl rfl ?_
      refine st_goto (pc' := 5) dX12_unlists_64 (by decide) ?_
      refine WP_sub (L' := [(0, vR (some 74)), (1, vI x1), (2, vI x2), (3, vI x3), (4, vI (x4 + 1))]) [1, 2, 3, 4, 0] rfl ?_
      exact h
set_option maxRecDepth 20000 in
set_option maxHeartbeats 4000000 in
theorem B_X12_writesDown_0 {k : Nat} {P : Option Nat} {I : Nat → Nat → Int32} {J : Nat → Nat → Int64} {x1 : Int} {x2 : Int} {x3 : Int} {Q : Option AV → Mem → Prop} (hk : 0 ≤ k) (h : (0 ≤ x1 ∧ x1 < 22) ∧ ((¬ (gi I 117 (x1).toNat) = 60 → ((0 ≤ ((60 * x1) + (gi I 117 (x1).toNat)) ∧ ((60 * x1) + (gi I 117 (x1).toNat)) < 1320) ∧ (Q none (mem (P, some 5, some 22) (si (si (si (si I 118 (((60 * x1) + (gi I 117 (x1).toNat)) : Int).toNat ((gi I 108 (x1).toNat) + 1)) 119 (((60 * x1) + (gi I 117 (x1).toNat)) : Int).toNat x2) 120 (((60 * x1) + (gi I 117 (x1).toNat)) : Int).toNat x3) 117 (x1).toNat ((gi I 117 (x1).toNat) + 1)) J)))) ∧ ((gi I 117 (x1).toNat) = 60 → (WP k LAY m_X12_writesDown 17 [(0, vR (some 74)), (1, vI x1), (2, vI x2), (3, vI x3), (4, vI (60 * x1))] [] (mem (P, some 5, some 22) I J) Q)))) : WP k LAY m_X12_writesDown 0 [(0, vR (some 74)), (1, vI x1), (2, vI x2), (3, vI x3)] [] (mem (P, some 5, some 22) I J) Q := by
  refine st_aload_n (pc' := 1) dX12_writesDown_0 rfl rfl (j := 0) rfl ?_
  refine G_X12_198_74 dX12_writesDown_1 (pc' := 4) rfl rfl ?_
  refine st_iload_n (pc' := 5) dX12_writesDown_4 rfl rfl (j := 1) rfl ?_
  obtain ⟨e1, h⟩ := h
  refine st_iaload (pc' := 6) (v := (gi I 117 (x1).toNat)) dX12_writesDown_5 rfl L_117 (by decide) e1 (show gi I 117 (x1).toNat = (gi I 117 (x1).toNat) from rfl) ?_
  refine st_bipush (pc' := 8) dX12_writesDown_6 rfl (by decide) ?_
  refine st_icmp_ne (tg := 95) (pc' := 11) dX12_writesDown_8 (by decide) rfl (gi_in _ _ _) (by decide) (fun c => ?_) (fun c => ?_)
  · replace h := h.1 c
    refine st_bipush (pc' := 97) dX12_writesDown_95 rfl (by decide) ?_
    refine st_iload_n (pc' := 98) dX12_writesDown_97 rfl rfl (j := 1) rfl ?_
    refine st_imul (pc' := 99) dX12_writesDown_98 rfl ?_
    refine st_aload_n (pc' := 100) dX12_writesDown_99 rfl rfl (j := 0) rfl ?_
    refine G_X12_198_74 dX12_writesDown_100 (pc' := 103) rfl rfl ?_
    refine st_iload_n (pc' := 104) dX12_writesDown_103 rfl rfl (j := 1) rfl ?_
    refine st_iaload (pc' := 105) (v := (gi I 117 (x1).toNat)) dX12_writesDown_104 rfl L_117 (by decide) e1 (show gi I 117 (x1).toNat = (gi I 117 (x1).toNat) from rfl) ?_
    refine st_iadd (pc' := 106) dX12_writesDown_105 rfl ?_
    refine st_istore (pc' := 108) (L' := [(4, vI ((60 * x1) + (gi I 117 (x1).toNat))), (0, vR (some 74)), (1, vI x1), (2, vI x2), (3, vI x3)]) dX12_writesDown_106 rfl (by decide) rfl ?_
    refine st_aload_n (pc' := 109) dX12_writesDown_108 rfl rfl (j := 1) rfl ?_
    refine G_X12_201_74 dX12_writesDown_109 (pc' := 112) rfl rfl ?_
    refine st_iload (pc' := 114) dX12_writesDown_112 rfl (j := 0) rfl ?_
    refine st_aload_n (pc' := 115) dX12_writesDown_114 rfl rfl (j := 1) rfl ?_
    refine G_X12_171_74 dX12_writesDown_115 (pc' := 118) rfl rfl ?_
    refine st_iload_n (pc' := 119) dX12_writesDown_118 rfl rfl (j := 2) rfl ?_
    refine st_iaload (pc' := 120) (v := (gi I 108 (x1).toNat)) dX12_writesDown_119 rfl L_108 (by decide) e1 (show gi I 108 (x1).toNat = (gi I 108 (x1).toNat) from rfl) ?_
    refine st_iconst (pc' := 121) dX12_writesDown_120 rfl ?_
    refine st_iadd (pc' := 122) dX12_writesDown_121 rfl ?_
    obtain ⟨e2, h⟩ := h
    refine st_iastore (pc' := 123) (M' := (mem (P, some 5, some 22) (si I 118 (((60 * x1) + (gi I 117 (x1).toNat)) : Int).toNat ((gi I 108 (x1).toNat) + 1)) J)) dX12_writesDown_122 rfl L_118 (by decide) e2 rfl ?_
    refine st_aload_n (pc' := 124) dX12_writesDown_123 rfl rfl (j := 1) rfl ?_
    refine G_X12_204_74 dX12_writesDown_124 (pc' := 127) rfl rfl ?_
    refine st_iload (pc' := 129) dX12_writesDown_127 rfl (j := 0) rfl ?_
    refine st_iload_n (pc' := 130) dX12_writesDown_129 rfl rfl (j := 3) rfl ?_
    refine st_iastore (pc' := 131) (M' := (mem (P, some 5, some 22) (si (si I 118 (((60 * x1) + (gi I 117 (x1).toNat)) : Int).toNat ((gi I 108 (x1).toNat) + 1)) 119 (((60 * x1) + (gi I 117 (x1).toNat)) : Int).toNat x2) J)) dX12_writesDown_130 rfl L_119 (by decide) e2 rfl ?_
    refine st_aload_n (pc' := 132) dX12_writesDown_131 rfl rfl (j := 1) rfl ?_
    refine G_X12_207_74 dX12_writesDown_132 (pc' := 135) rfl rfl ?_
    refine st_iload (pc' := 137) dX12_writesDown_135 rfl (j := 0) rfl ?_
    refine st_iload_n (pc' := 138) dX12_writesDown_137 rfl rfl (j := 4) rfl ?_
    refine st_iastore (pc' := 139) (M' := (mem (P, some 5, some 22) (si (si (si I 118 (((60 * x1) + (gi I 117 (x1).toNat)) : Int).toNat ((gi I 108 (x1).toNat) + 1)) 119 (((60 * x1) + (gi I 117 (x1).toNat)) : Int).toNat x2) 120 (((60 * x1) + (gi I 117 (x1).toNat)) : Int).toNat x3) J)) dX12_writesDown_138 rfl L_120 (by decide) e2 rfl ?_
    refine st_aload_n (pc' := 140) dX12_writesDown_139 rfl rfl (j := 1) rfl ?_
    refine G_X12_198_74 dX12_writesDown_140 (pc' := 143) rfl rfl ?_
    refine st_iload_n (pc' := 144) dX12_writesDown_143 rfl rfl (j := 2) rfl ?_
    refine st_dup2 (pc' := 145) dX12_writesDown_144 rfl rfl rfl ?_
    refine st_iaload (pc' := 146) (v := (gi I 117 (x1).toNat)) dX12_writesDown_145 rfl L_117 (by decide) e1 (show gi (si (si (si I 118 (((60 * x1) + (gi I 117 (x1).toNat)) : Int).toNat ((gi I 108 (x1).toNat) + 1)) 119 (((60 * x1) + (gi I 117 (x1).toNat)) : Int).toNat x2) 120 (((60 * x1) + (gi I 117 (x1).toNat)) : Int).toNat x3) 117 (x1).toNat = (gi I 117 (x1).toNat) from ((gi_cell _ _ _ _ (by decide)).trans ((gi_cell _ _ _ _ (by decide)).trans (gi_cell _ _ _ _ (by decide))))) ?_
    refine st_iconst (pc' := 147) dX12_writesDown_146 rfl ?_
    refine st_iadd (pc' := 148) dX12_writesDown_147 rfl ?_
    refine st_iastore (pc' := 149) (M' := (mem (P, some 5, some 22) (si (si (si (si I 118 (((60 * x1) + (gi I 117 (x1).toNat)) : Int).toNat ((gi I 108 (x1).toNat) + 1)) 119 (((60 * x1) + (gi I 117 (x1).toNat)) : Int).toNat x2) 120 (((60 * x1) + (gi I 117 (x1).toNat)) : Int).toNat x3) 117 (x1).toNat ((gi I 117 (x1).toNat) + 1)) J)) dX12_writesDown_148 rfl L_117 (by decide) e1 rfl ?_
    exact st_vret dX12_writesDown_149 rfl rfl h
  · replace h := h.2 c
    refine st_bipush (pc' := 13) dX12_writesDown_11 rfl (by decide) ?_
    refine st_iload_n (pc' := 14) dX12_writesDown_13 rfl rfl (j := 1) rfl ?_
    refine st_imul (pc' := 15) dX12_writesDown_14 rfl ?_
    refine st_istore (pc' := 17) (L' := [(4, vI (60 * x1)), (0, vR (some 74)), (1, vI x1), (2, vI x2), (3, vI x3)]) dX12_writesDown_15 rfl (by decide) rfl ?_
    refine WP_sub (L' := [(0, vR (some 74)), (1, vI x1), (2, vI x2), (3, vI x3), (4, vI (60 * x1))]) [1, 2, 3, 4, 0] rfl ?_
    exact h
set_option maxRecDepth 20000 in
set_option maxHeartbeats 4000000 in
theorem B_X12_writesDown_17 {k : Nat} {P : Option Nat} {I : Nat → Nat → Int32} {J : Nat → Nat → Int64} {x1 : Int} {x2 : Int} {x3 : Int} {x4 : Int} {Q : Option AV → Mem → Prop} (hk : 0 ≤ k) (h : inR x4 ∧ (inR (((60 * x1) + 60) - 1) ∧ (((((60 * x1) + 60) - 1) ≤ x4 → ((0 ≤ x1 ∧ x1 < 22) ∧ (∀ y4 : Int, y4 = ((60 * x1) + (gi (si I 117 (x1).toNat ((gi I 117 (x1).toNat) - 1)) 117 (x1).toNat)) → ((0 ≤ y4 ∧ y4 < 1320) ∧ (Q none (mem (P, some 5, some 22) (si (si (si (si (si I 117 (x1).toNat ((gi I 117 (x1).toNat) - 1)) 118 (y4).toNat ((gi I 108 (x1).toNat) + 1)) 119 (y4).toNat x2) 120 (y4).toNat x3) 117 (x1).toNat ((gi (si I 117 (x1).toNat ((gi I 117 (x1).toNat) - 1)) 117 (x1).toNat) + 1)) J)))))) ∧ (¬ (((60 * x1) + 60) - 1) ≤ x4 → ((0 ≤ (x4 + 1) ∧ (x4 + 1) < 1320) ∧ ((0 ≤ x4 ∧ x4 < 1320) ∧ (WP k LAY m_X12_writesDown 17 [(0, vR (some 74)), (1, vI x1), (2, vI x2), (3, vI x3), (4, vI (x4 + 1))] [] (mem (P, some 5, some 22) (si (si (si I 118 (x4).toNat (gi I 118 ((x4 + 1) : Int).toNat)) 119 (x4).toNat (gi I 119 ((x4 + 1) : Int).toNat)) 120 (x4).toNat (gi I 120 ((x4 + 1) : Int).toNat)) J) Q))))))) : WP k LAY m_X12_writesDown 17 [(0, vR (some 74)), (1, vI x1), (2, vI x2), (3, vI x3), (4, vI x4)] [] (mem (P, some 5, some 22) I J) Q := by
  refine st_iload (pc' := 19) dX12_writesDown_17 rfl (j := 4) rfl ?_
  refine st_bipush (pc' := 21) dX12_writesDown_19 rfl (by decide) ?_
  refine st_iload_n (pc' := 22) dX12_writesDown_21 rfl rfl (j := 1) rfl ?_
  refine st_imul (pc' := 23) dX12_writesDown_22 rfl ?_
  refine st_bipush (pc' := 25) dX12_writesDown_23 rfl (by decide) ?_
  refine st_iadd (pc' := 26) dX12_writesDown_25 rfl ?_
  refine st_iconst (pc' := 27) dX12_writesDown_26 rfl ?_
  refine st_isub (pc' := 28) dX12_writesDown_27 rfl ?_
  obtain ⟨e1, h⟩ := h
  obtain ⟨e2, h⟩ := h
  refine st_icmp_ge (tg := 85) (pc' := 31) dX12_writesDown_28 (by decide) rfl e1 e2 (fun c => ?_) (fun c => ?_)
  · replace h := h.1 c
    refine st_aload_n (pc' := 86) dX12_writesDown_85 rfl rfl (j := 0) rfl ?_
    refine G_X12_198_74 dX12_writesDown_86 (pc' := 89) rfl rfl ?_
    refine st_iload_n (pc' := 90) dX12_writesDown_89 rfl rfl (j := 1) rfl ?_
    refine st_dup2 (pc' := 91) dX12_writesDown_90 rfl rfl rfl ?_
    obtain ⟨e3, h⟩ := h
    refine st_iaload (pc' := 92) (v := (gi I 117 (x1).toNat)) dX12_writesDown_91 rfl L_117 (by decide) e3 (show gi I 117 (x1).toNat = (gi I 117 (x1).toNat) from rfl) ?_
    refine st_iconst (pc' := 93) dX12_writesDown_92 rfl ?_
    refine st_isub (pc' := 94) dX12_writesDown_93 rfl ?_
    refine st_iastore (pc' := 95) (M' := (mem (P, some 5, some 22) (si I 117 (x1).toNat ((gi I 117 (x1).toNat) - 1)) J)) dX12_writesDown_94 rfl L_117 (by decide) e3 rfl ?_
    refine st_bipush (pc' := 97) dX12_writesDown_95 rfl (by decide) ?_
    refine st_iload_n (pc' := 98) dX12_writesDown_97 rfl rfl (j := 1) rfl ?_
    refine st_imul (pc' := 99) dX12_writesDown_98 rfl ?_
    refine st_aload_n (pc' := 100) dX12_writesDown_99 rfl rfl (j := 0) rfl ?_
    refine G_X12_198_74 dX12_writesDown_100 (pc' := 103) rfl rfl ?_
    refine st_iload_n (pc' := 104) dX12_writesDown_103 rfl rfl (j := 1) rfl ?_
    refine st_iaload (pc' := 105) (v := (gi (si I 117 (x1).toNat ((gi I 117 (x1).toNat) - 1)) 117 (x1).toNat)) dX12_writesDown_104 rfl L_117 (by decide) e3 (show gi (si I 117 (x1).toNat ((gi I 117 (x1).toNat) - 1)) 117 (x1).toNat = (gi (si I 117 (x1).toNat ((gi I 117 (x1).toNat) - 1)) 117 (x1).toNat) from rfl) ?_
    refine st_iadd (pc' := 106) dX12_writesDown_105 rfl ?_
    obtain ⟨y4, hy4⟩ : ∃ y : Int, y = ((60 * x1) + (gi (si I 117 (x1).toNat ((gi I 117 (x1).toNat) - 1)) 117 (x1).toNat)) := ⟨_, rfl⟩
    rw [← hy4]
    replace h := h y4 hy4
    refine st_istore (pc' := 108) (L' := [(4, vI y4), (0, vR (some 74)), (1, vI x1), (2, vI x2), (3, vI x3)]) dX12_writesDown_106 rfl (by decide) rfl ?_
    refine st_aload_n (pc' := 109) dX12_writesDown_108 rfl rfl (j := 1) rfl ?_
    refine G_X12_201_74 dX12_writesDown_109 (pc' := 112) rfl rfl ?_
    refine st_iload (pc' := 114) dX12_writesDown_112 rfl (j := 0) rfl ?_
    refine st_aload_n (pc' := 115) dX12_writesDown_114 rfl rfl (j := 1) rfl ?_
    refine G_X12_171_74 dX12_writesDown_115 (pc' := 118) rfl rfl ?_
    refine st_iload_n (pc' := 119) dX12_writesDown_118 rfl rfl (j := 2) rfl ?_
    refine st_iaload (pc' := 120) (v := (gi I 108 (x1).toNat)) dX12_writesDown_119 rfl L_108 (by decide) e3 (show gi (si I 117 (x1).toNat ((gi I 117 (x1).toNat) - 1)) 108 (x1).toNat = (gi I 108 (x1).toNat) from (gi_cell _ _ _ _ (by decide))) ?_
    refine st_iconst (pc' := 121) dX12_writesDown_120 rfl ?_
    refine st_iadd (pc' := 122) dX12_writesDown_121 rfl ?_
    obtain ⟨e5, h⟩ := h
    refine st_iastore (pc' := 123) (M' := (mem (P, some 5, some 22) (si (si I 117 (x1).toNat ((gi I 117 (x1).toNat) - 1)) 118 (y4).toNat ((gi I 108 (x1).toNat) + 1)) J)) dX12_writesDown_122 rfl L_118 (by decide) e5 rfl ?_
    refine st_aload_n (pc' := 124) dX12_writesDown_123 rfl rfl (j := 1) rfl ?_
    refine G_X12_204_74 dX12_writesDown_124 (pc' := 127) rfl rfl ?_
    refine st_iload (pc' := 129) dX12_writesDown_127 rfl (j := 0) rfl ?_
    refine st_iload_n (pc' := 130) dX12_writesDown_129 rfl rfl (j := 3) rfl ?_
    refine st_iastore (pc' := 131) (M' := (mem (P, some 5, some 22) (si (si (si I 117 (x1).toNat ((gi I 117 (x1).toNat) - 1)) 118 (y4).toNat ((gi I 108 (x1).toNat) + 1)) 119 (y4).toNat x2) J)) dX12_writesDown_130 rfl L_119 (by decide) e5 rfl ?_
    refine st_aload_n (pc' := 132) dX12_writesDown_131 rfl rfl (j := 1) rfl ?_
    refine G_X12_207_74 dX12_writesDown_132 (pc' := 135) rfl rfl ?_
    refine st_iload (pc' := 137) dX12_writesDown_135 rfl (j := 0) rfl ?_
    refine st_iload_n (pc' := 138) dX12_writesDown_137 rfl rfl (j := 4) rfl ?_
    refine st_iastore (pc' := 139) (M' := (mem (P, some 5, some 22) (si (si (si (si I 117 (x1).toNat ((gi I 117 (x1).toNat) - 1)) 118 (y4).toNat ((gi I 108 (x1).toNat) + 1)) 119 (y4).toNat x2) 120 (y4).toNat x3) J)) dX12_writesDown_138 rfl L_120 (by decide) e5 rfl ?_
    refine st_aload_n (pc' := 140) dX12_writesDown_139 rfl rfl (j := 1) rfl ?_
    refine G_X12_198_74 dX12_writesDown_140 (pc' := 143) rfl rfl ?_
    refine st_iload_n (pc' := 144) dX12_writesDown_143 rfl rfl (j := 2) rfl ?_
    refine st_dup2 (pc' := 145) dX12_writesDown_144 rfl rfl rfl ?_
    refine st_iaload (pc' := 146) (v := (gi (si I 117 (x1).toNat ((gi I 117 (x1).toNat) - 1)) 117 (x1).toNat)) dX12_writesDown_145 rfl L_117 (by decide) e3 (show gi (si (si (si (si I 117 (x1).toNat ((gi I 117 (x1).toNat) - 1)) 118 (y4).toNat ((gi I 108 (x1).toNat) + 1)) 119 (y4).toNat x2) 120 (y4).toNat x3) 117 (x1).toNat = (gi (si I 117 (x1).toNat ((gi I 117 (x1).toNat) - 1)) 117 (x1).toNat) from ((gi_cell _ _ _ _ (by decide)).trans ((gi_cell _ _ _ _ (by decide)).trans (gi_cell _ _ _ _ (by decide))))) ?_
    refine st_iconst (pc' := 147) dX12_writesDown_146 rfl ?_
    refine st_iadd (pc' := 148) dX12_writesDown_147 rfl ?_
    refine st_iastore (pc' := 149) (M' := (mem (P, some 5, some 22) (si (si (si (si (si I 117 (x1).toNat ((gi I 117 (x1).toNat) - 1)) 118 (y4).toNat ((gi I 108 (x1).toNat) + 1)) 119 (y4).toNat x2) 120 (y4).toNat x3) 117 (x1).toNat ((gi (si I 117 (x1).toNat ((gi I 117 (x1).toNat) - 1)) 117 (x1).toNat) + 1)) J)) dX12_writesDown_148 rfl L_117 (by decide) e3 rfl ?_
    exact st_vret dX12_writesDown_149 rfl rfl h
  · replace h := h.2 c
    refine st_aload_n (pc' := 32) dX12_writesDown_31 rfl rfl (j := 0) rfl ?_
    refine G_X12_201_74 dX12_writesDown_32 (pc' := 35) rfl rfl ?_
    refine st_iload (pc' := 37) dX12_writesDown_35 rfl (j := 4) rfl ?_
    refine st_aload_n (pc' := 38) dX12_writesDown_37 rfl rfl (j := 0) rfl ?_
    refine G_X12_201_74 dX12_writesDown_38 (pc' := 41) rfl rfl ?_
    refine st_iload (pc' := 43) dX12_writesDown_41 rfl (j := 4) rfl ?_
    refine st_iconst (pc' := 44) dX12_writesDown_43 rfl ?_
    refine st_iadd (pc' := 45) dX12_writesDown_44 rfl ?_
    obtain ⟨e6, h⟩ := h
    refine st_iaload (pc' := 46) (v := (gi I 118 ((x4 + 1) : Int).toNat)) dX12_writesDown_45 rfl L_118 (by decide) e6 (show gi I 118 ((x4 + 1) : Int).toNat = (gi I 118 ((x4 + 1) : Int).toNat) from rfl) ?_
    obtain ⟨e7, h⟩ := h
    refine st_iastore (pc' := 47) (M' := (mem (P, some 5, some 22) (si I 118 (x4).toNat (gi I 118 ((x4 + 1) : Int).toNat)) J)) dX12_writesDown_46 rfl L_118 (by decide) e7 rfl ?_
    refine st_aload_n (pc' := 48) dX12_writesDown_47 rfl rfl (j := 0) rfl ?_
    refine G_X12_204_74 dX12_writesDown_48 (pc' := 51) rfl rfl ?_
    refine st_iload (pc' := 53) dX12_writesDown_51 rfl (j := 4) rfl ?_
    refine st_aload_n (pc' := 54) dX12_writesDown_53 rfl rfl (j := 0) rfl ?_
    refine G_X12_204_74 dX12_writesDown_54 (pc' := 57) rfl rfl ?_
    refine st_iload (pc' := 59) dX12_writesDown_57 rfl (j := 4) rfl ?_
    refine st_iconst (pc' := 60) dX12_writesDown_59 rfl ?_
    refine st_iadd (pc' := 61) dX12_writesDown_60 rfl ?_
    refine st_iaload (pc' := 62) (v := (gi I 119 ((x4 + 1) : Int).toNat)) dX12_writesDown_61 rfl L_119 (by decide) e6 (show gi (si I 118 (x4).toNat (gi I 118 ((x4 + 1) : Int).toNat)) 119 ((x4 + 1) : Int).toNat = (gi I 119 ((x4 + 1) : Int).toNat) from (gi_cell _ _ _ _ (by decide))) ?_
    refine st_iastore (pc' := 63) (M' := (mem (P, some 5, some 22) (si (si I 118 (x4).toNat (gi I 118 ((x4 + 1) : Int).toNat)) 119 (x4).toNat (gi I 119 ((x4 + 1) : Int).toNat)) J)) dX12_writesDown_62 rfl L_119 (by decide) e7 rfl ?_
    refine st_aload_n (pc' := 64) dX12_writesDown_63 rfl rfl (j := 0) rfl ?_
    refine G_X12_207_74 dX12_writesDown_64 (pc' := 67) rfl rfl ?_
    refine st_iload (pc' := 69) dX12_writesDown_67 rfl (j := 4) rfl ?_
    refine st_aload_n (pc' := 70) dX12_writesDown_69 rfl rfl (j := 0) rfl ?_
    refine G_X12_207_74 dX12_writesDown_70 (pc' := 73) rfl rfl ?_
    refine st_iload (pc' := 75) dX12_writesDown_73 rfl (j := 4) rfl ?_
    refine st_iconst (pc' := 76) dX12_writesDown_75 rfl ?_
    refine st_iadd (pc' := 77) dX12_writesDown_76 rfl ?_
    refine st_iaload (pc' := 78) (v := (gi I 120 ((x4 + 1) : Int).toNat)) dX12_writesDown_77 rfl L_120 (by decide) e6 (show gi (si (si I 118 (x4).toNat (gi I 118 ((x4 + 1) : Int).toNat)) 119 (x4).toNat (gi I 119 ((x4 + 1) : Int).toNat)) 120 ((x4 + 1) : Int).toNat = (gi I 120 ((x4 + 1) : Int).toNat) from ((gi_cell _ _ _ _ (by decide)).trans (gi_cell _ _ _ _ (by decide)))) ?_
    refine st_iastore (pc' := 79) (M' := (mem (P, some 5, some 22) (si (si (si I 118 (x4).toNat (gi I 118 ((x4 + 1) : Int).toNat)) 119 (x4).toNat (gi I 119 ((x4 + 1) : Int).toNat)) 120 (x4).toNat (gi I 120 ((x4 + 1) : Int).toNat)) J)) dX12_writesDown_78 rfl L_120 (by decide) e7 rfl ?_
    refine st_iinc (pc' := 82) (L' := [(4, vI (x4 + 1)), (0, vR (some 74)), (1, vI x1), (2, vI x2), (3, vI x3)]) (j := 4) dX12_writesDown_79 rfl (by decide) rfl rfl ?_
    refine st_goto (pc' := 17) dX12_writesDown_82 (by decide) ?_
    refine WP_sub (L' := [(0, vR (some 74)), (1, vI x1), (2, vI x2), (3, vI x3), (4, vI (x4 + 1))]) [1, 2, 3, 4, 0] rfl ?_
    exact h
set_option maxRecDepth 20000 in
set_option maxHeartbeats 4000000 in
theorem B_X12_readsOn_0 {k : Nat} {P : Option Nat} {I : Nat → Nat → Int32} {J : Nat → Nat → Int64} {x1 : Int} {x2 : Int} {x3 : Int} {Q : Option AV → Mem → Prop} (hk : 1 ≤ k) (h : (0 ≤ x2 ∧ x2 < 6) ∧ (WPm (k - 1) LAY m_X12_nextPage [vR (some 74), vI x1, vI x2] (mem (P, some 5, some 22) (si (si I 122 (x2).toNat 0) 123 (x2).toNat 0) J) (retI (fun v2 I3 J4 => WP k LAY m_X12_readsOn 33 [(0, vR (some 74)), (1, vI x1), (2, vI x2), (3, vI x3), (4, vI ((6 * x1) + x2)), (5, vI v2), (6, vI 1)] [] (mem (P, some 5, some 22) I3 J4) Q) (P, some 5, some 22)))) : WP k LAY m_X12_readsOn 0 [(0, vR (some 74)), (1, vI x1), (2, vI x2), (3, vI x3)] [] (mem (P, some 5, some 22) I J) Q := by
  refine st_bipush (pc' := 2) dX12_readsOn_0 rfl (by decide) ?_
  refine st_iload_n (pc' := 3) dX12_readsOn_2 rfl rfl (j := 1) rfl ?_
  refine st_imul (pc' := 4) dX12_readsOn_3 rfl ?_
  refine st_iload_n (pc' := 5) dX12_readsOn_4 rfl rfl (j := 2) rfl ?_
  refine st_iadd (pc' := 6) dX12_readsOn_5 rfl ?_
  refine st_istore (pc' := 8) (L' := [(4, vI ((6 * x1) + x2)), (0, vR (some 74)), (1, vI x1), (2, vI x2), (3, vI x3)]) dX12_readsOn_6 rfl (by decide) rfl ?_
  refine st_aload_n (pc' := 9) dX12_readsOn_8 rfl rfl (j := 1) rfl ?_
  refine G_X12_237_74 dX12_readsOn_9 (pc' := 12) rfl rfl ?_
  refine st_iload_n (pc' := 13) dX12_readsOn_12 rfl rfl (j := 3) rfl ?_
  refine st_iconst (pc' := 14) dX12_readsOn_13 rfl ?_
  obtain ⟨e1, h⟩ := h
  refine st_iastore (pc' := 15) (M' := (mem (P, some 5, some 22) (si I 122 (x2).toNat 0) J)) dX12_readsOn_14 rfl L_122 (by decide) e1 rfl ?_
  refine st_aload_n (pc' := 16) dX12_readsOn_15 rfl rfl (j := 1) rfl ?_
  refine G_X12_240_74 dX12_readsOn_16 (pc' := 19) rfl rfl ?_
  refine st_iload_n (pc' := 20) dX12_readsOn_19 rfl rfl (j := 3) rfl ?_
  refine st_iconst (pc' := 21) dX12_readsOn_20 rfl ?_
  refine st_iastore (pc' := 22) (M' := (mem (P, some 5, some 22) (si (si I 122 (x2).toNat 0) 123 (x2).toNat 0) J)) dX12_readsOn_21 rfl L_123 (by decide) e1 rfl ?_
  refine st_aload_n (pc' := 23) dX12_readsOn_22 rfl rfl (j := 1) rfl ?_
  refine st_iload_n (pc' := 24) dX12_readsOn_23 rfl rfl (j := 2) rfl ?_
  refine st_iload_n (pc' := 25) dX12_readsOn_24 rfl rfl (j := 3) rfl ?_
  refine st_callV (pc' := 28) (kc := k - 1) (E' := LAY) (cal := m_X12_nextPage) (n := 2) (as := [vI x1, vI x2]) (S := []) dX12_readsOn_25 rfl l_X12_527 k_X12_nextPage rfl L_74 c_X12 rfl rfl (Nat.le_of_ble_eq_true rfl) (by omega) ⟨Nat.le_refl _, Nat.le_refl _, Nat.le_refl _, Nat.le_refl _⟩ h (fun r M' q => ?_)
  obtain ⟨v2, I3, J4, rfl, rfl, h⟩ := q
  change WP _ LAY m_X12_readsOn 28 [(4, vI ((6 * x1) + x2)), (0, vR (some 74)), (1, vI x1), (2, vI x2), (3, vI x3)] [vI v2] (mem (P, some 5, some 22) I3 J4) Q
  refine st_istore (pc' := 30) (L' := [(5, vI v2), (4, vI ((6 * x1) + x2)), (0, vR (some 74)), (1, vI x1), (2, vI x2), (3, vI x3)]) dX12_readsOn_28 rfl (by decide) rfl ?_
  refine st_iconst (pc' := 31) dX12_readsOn_30 rfl ?_
  refine st_istore (pc' := 33) (L' := [(6, vI 1), (5, vI v2), (4, vI ((6 * x1) + x2)), (0, vR (some 74)), (1, vI x1), (2, vI x2), (3, vI x3)]) dX12_readsOn_31 rfl (by decide) rfl ?_
  refine WP_sub (L' := [(0, vR (some 74)), (1, vI x1), (2, vI x2), (3, vI x3), (4, vI ((6 * x1) + x2)), (5, vI v2), (6, vI 1)]) [3, 4, 5, 6, 2, 1, 0] rfl ?_
  exact h
set_option maxRecDepth 20000 in
set_option maxHeartbeats 4000000 in
theorem B_X12_readsOn_33 {k : Nat} {P : Option Nat} {I : Nat → Nat → Int32} {J : Nat → Nat → Int64} {x1 : Int} {x2 : Int} {x3 : Int} {x4 : Int} {x5 : Int} {x6 : Int} {Q : Option AV → Mem → Prop} (hk : 1 ≤ k) (h : inR x5 ∧ ((x5 = (-1) → (Q none (mem (P, some 5, some 22) I J))) ∧ (¬ x5 = (-1) → ((0 ≤ x2 ∧ x2 < 6) ∧ (inR x3 ∧ ((x3 ≤ (gi I 122 (x2).toNat) → (Q none (mem (P, some 5, some 22) I J))) ∧ (¬ x3 ≤ (gi I 122 (x2).toNat) → (inR x6 ∧ ((x6 = 0 → (Q none (mem (P, some 5, some 22) I J))) ∧ (¬ x6 = 0 → ((0 ≤ x4 ∧ x4 < 132) ∧ ((¬ (gi I 113 (x4).toNat) = x5 → (WPm (k - 1) LAY m_X12_longOf [vR (some 74), vI x1, vI x2, vI x5] (mem (P, some 5, some 22) I J) (retI (fun v6 I7 J8 => inR (v6 - 0) ∧ (inR (x3 - (gi I7 122 (x2).toNat)) ∧ (((x3 - (gi I7 122 (x2).toNat)) < (v6 - 0) → (WP k LAY m_X12_readsOn 33 [(0, vR (some 74)), (1, vI x1), (2, vI x2), (3, vI x3), (4, vI x4), (5, vI x5), (6, vI 0)] [] (mem (P, some 5, some 22) (si (si (si I7 113 (x4).toNat x5) 114 (x4).toNat (0 + (x3 - (gi I7 122 (x2).toNat)))) 122 (x2).toNat ((gi I7 122 (x2).toNat) + (x3 - (gi I7 122 (x2).toNat)))) J8) Q)) ∧ (¬ (x3 - (gi I7 122 (x2).toNat)) < (v6 - 0) → ((0 ≤ (v6 - 0) → (WPm (k - 1) LAY m_X12_unlists [vR (some 74), vI x4, vI x5] (mem (P, some 5, some 22) (si (si (si I7 113 (x4).toNat (-1)) 114 (x4).toNat 0) 122 (x2).toNat ((gi I7 122 (x2).toNat) + (v6 - 0))) J8) (retV (fun I12 J13 => WPm (k - 1) LAY m_X12_writesDown [vR (some 74), vI x1, vI x2, vI x5] (mem (P, some 5, some 22) (si (si (si I12 111 (x4).toNat (or32 (gi I12 111 (x4).toNat) (shl32 1 x5))) 123 (x2).toNat (or32 (gi I12 123 (x2).toNat) (shl32 1 x5))) 74 77 ((gi I12 74 77) + 1)) J13) (retV (fun I15 J16 => WPm (k - 1) LAY m_X12_nextPage [vR (some 74), vI x1, vI x2] (mem (P, some 5, some 22) I15 J16) (retI (fun v17 I18 J19 => WP k LAY m_X12_readsOn 33 [(0, vR (some 74)), (1, vI x1), (2, vI x2), (3, vI x3), (4, vI x4), (5, vI v17), (6, vI 1)] [] (mem (P, some 5, some 22) I18 J19) Q) (P, some 5, some 22))) (P, some 5, some 22))) (P, some 5, some 22)))) ∧ (¬ 0 ≤ (v6 - 0) → (WPm (k - 1) LAY m_X12_unlists [vR (some 74), vI x4, vI x5] (mem (P, some 5, some 22) (si (si (si I7 113 (x4).toNat (-1)) 114 (x4).toNat 0) 122 (x2).toNat ((gi I7 122 (x2).toNat) + 0)) J8) (retV (fun I21 J22 => WPm (k - 1) LAY m_X12_writesDown [vR (some 74), vI x1, vI x2, vI x5] (mem (P, some 5, some 22) (si (si (si I21 111 (x4).toNat (or32 (gi I21 111 (x4).toNat) (shl32 1 x5))) 123 (x2).toNat (or32 (gi I21 123 (x2).toNat) (shl32 1 x5))) 74 77 ((gi I21 74 77) + 1)) J22) (retV (fun I24 J25 => WPm (k - 1) LAY m_X12_nextPage [vR (some 74), vI x1, vI x2] (mem (P, some 5, some 22) I24 J25) (retI (fun v26 I27 J28 => WP k LAY m_X12_readsOn 33 [(0, vR (some 74)), (1, vI x1), (2, vI x2), (3, vI x3), (4, vI x4), (5, vI v26), (6, vI 1)] [] (mem (P, some 5, some 22) I27 J28) Q) (P, some 5, some 22))) (P, some 5, some 22))) (P, some 5, some 22))))))))) (P, some 5, some 22)))) ∧ ((gi I 113 (x4).toNat) = x5 → (WPm (k - 1) LAY m_X12_longOf [vR (some 74), vI x1, vI x2, vI x5] (mem (P, some 5, some 22) I J) (retI (fun v29 I30 J31 => inR (v29 - (gi I 114 (x4).toNat)) ∧ (inR (x3 - (gi I30 122 (x2).toNat)) ∧ (((x3 - (gi I30 122 (x2).toNat)) < (v29 - (gi I 114 (x4).toNat)) → (WP k LAY m_X12_readsOn 33 [(0, vR (some 74)), (1, vI x1), (2, vI x2), (3, vI x3), (4, vI x4), (5, vI x5), (6, vI 0)] [] (mem (P, some 5, some 22) (si (si (si I30 113 (x4).toNat x5) 114 (x4).toNat ((gi I 114 (x4).toNat) + (x3 - (gi I30 122 (x2).toNat)))) 122 (x2).toNat ((gi I30 122 (x2).toNat) + (x3 - (gi I30 122 (x2).toNat)))) J31) Q)) ∧ (¬ (x3 - (gi I30 122 (x2).toNat)) < (v29 - (gi I 114 (x4).toNat)) → ((0 ≤ (v29 - (gi I 114 (x4).toNat)) → (WPm (k - 1) LAY m_X12_unlists [vR (some 74), vI x4, vI x5] (mem (P, some 5, some 22) (si (si (si I30 113 (x4).toNat (-1)) 114 (x4).toNat 0) 122 (x2).toNat ((gi I30 122 (x2).toNat) + (v29 - (gi I 114 (x4).toNat)))) J31) (retV (fun I35 J36 => WPm (k - 1) LAY m_X12_writesDown [vR (some 74), vI x1, vI x2, vI x5] (mem (P, some 5, some 22) (si (si (si I35 111 (x4).toNat (or32 (gi I35 111 (x4).toNat) (shl32 1 x5))) 123 (x2).toNat (or32 (gi I35 123 (x2).toNat) (shl32 1 x5))) 74 77 ((gi I35 74 77) + 1)) J36) (retV (fun I38 J39 => WPm (k - 1) LAY m_X12_nextPage [vR (some 74), vI x1, vI x2] (mem (P, some 5, some 22) I38 J39) (retI (fun v40 I41 J42 => WP k LAY m_X12_readsOn 33 [(0, vR (some 74)), (1, vI x1), (2, vI x2), (3, vI x3), (4, vI x4), (5, vI v40), (6, vI 1)] [] (mem (P, some 5, some 22) I41 J42) Q) (P, some 5, some 22))) (P, some 5, some 22))) (P, some 5, some 22)))) ∧ (¬ 0 ≤ (v29 - (gi I 114 (x4).toNat)) → (WPm (k - 1) LAY m_X12_unlists [vR (some 74), vI x4, vI x5] (mem (P, some 5, some 22) (si (si (si I30 113 (x4).toNat (-1)) 114 (x4).toNat 0) 122 (x2).toNat ((gi I30 122 (x2).toNat) + 0)) J31) (retV (fun I44 J45 => WPm (k - 1) LAY m_X12_writesDown [vR (some 74), vI x1, vI x2, vI x5] (mem (P, some 5, some 22) (si (si (si I44 111 (x4).toNat (or32 (gi I44 111 (x4).toNat) (shl32 1 x5))) 123 (x2).toNat (or32 (gi I44 123 (x2).toNat) (shl32 1 x5))) 74 77 ((gi I44 74 77) + 1)) J45) (retV (fun I47 J48 => WPm (k - 1) LAY m_X12_nextPage [vR (some 74), vI x1, vI x2] (mem (P, some 5, some 22) I47 J48) (retI (fun v49 I50 J51 => WP k LAY m_X12_readsOn 33 [(0, vR (some 74)), (1, vI x1), (2, vI x2), (3, vI x3), (4, vI x4), (5, vI v49), (6, vI 1)] [] (mem (P, some 5, some 22) I50 J51) Q) (P, some 5, some 22))) (P, some 5, some 22))) (P, some 5, some 22))))))))) (P, some 5, some 22)))))))))))))))) : WP k LAY m_X12_readsOn 33 [(0, vR (some 74)), (1, vI x1), (2, vI x2), (3, vI x3), (4, vI x4), (5, vI x5), (6, vI x6)] [] (mem (P, some 5, some 22) I J) Q := by
  refine st_iload (pc' := 35) dX12_readsOn_33 rfl (j := 5) rfl ?_
  refine st_iconst (pc' := 36) dX12_readsOn_35 rfl ?_
  obtain ⟨e1, h⟩ := h
  refine st_icmp_eq (tg := 258) (pc' := 39) dX12_readsOn_36 (by decide) rfl e1 (by decide) (fun c => ?_) (fun c => ?_)
  · replace h := h.1 c
    exact st_vret dX12_readsOn_258 rfl rfl h
  · replace h := h.2 c
    refine st_aload_n (pc' := 40) dX12_readsOn_39 rfl rfl (j := 0) rfl ?_
    refine G_X12_237_74 dX12_readsOn_40 (pc' := 43) rfl rfl ?_
    refine st_iload_n (pc' := 44) dX12_readsOn_43 rfl rfl (j := 2) rfl ?_
    obtain ⟨e2, h⟩ := h
    refine st_iaload (pc' := 45) (v := (gi I 122 (x2).toNat)) dX12_readsOn_44 rfl L_122 (by decide) e2 (show gi I 122 (x2).toNat = (gi I 122 (x2).toNat) from rfl) ?_
    refine st_iload_n (pc' := 46) dX12_readsOn_45 rfl rfl (j := 3) rfl ?_
    obtain ⟨e3, h⟩ := h
    refine st_icmp_ge (tg := 258) (pc' := 49) dX12_readsOn_46 (by decide) rfl (gi_in _ _ _) e3 (fun c => ?_) (fun c => ?_)
    · replace h := h.1 c
      exact st_vret dX12_readsOn_258 rfl rfl h
    · replace h := h.2 c
      refine st_iload (pc' := 51) dX12_readsOn_49 rfl (j := 6) rfl ?_
      obtain ⟨e4, h⟩ := h
      refine st_if_eq (tg := 258) (pc' := 54) dX12_readsOn_51 (by decide) rfl e4 (fun c => ?_) (fun c => ?_)
      · replace h := h.1 c
        exact st_vret dX12_readsOn_258 rfl rfl h
      · replace h := h.2 c
        refine st_aload_n (pc' := 55) dX12_readsOn_54 rfl rfl (j := 0) rfl ?_
        refine G_X12_186_74 dX12_readsOn_55 (pc' := 58) rfl rfl ?_
        refine st_iload (pc' := 60) dX12_readsOn_58 rfl (j := 4) rfl ?_
        obtain ⟨e5, h⟩ := h
        refine st_iaload (pc' := 61) (v := (gi I 113 (x4).toNat)) dX12_readsOn_60 rfl L_113 (by decide) e5 (show gi I 113 (x4).toNat = (gi I 113 (x4).toNat) from rfl) ?_
        refine st_iload (pc' := 63) dX12_readsOn_61 rfl (j := 5) rfl ?_
        refine st_icmp_ne (tg := 76) (pc' := 66) dX12_readsOn_63 (by decide) rfl (gi_in _ _ _) e1 (fun c => ?_) (fun c => ?_)
        · replace h := h.1 c
          refine st_iconst (pc' := 77) dX12_readsOn_76 rfl ?_
          refine st_istore (pc' := 79) (L' := [(7, vI 0), (0, vR (some 74)), (1, vI x1), (2, vI x2), (3, vI x3), (4, vI x4), (5, vI x5), (6, vI x6)]) dX12_readsOn_77 rfl (by decide) rfl ?_
          refine st_aload_n (pc' := 80) dX12_readsOn_79 rfl rfl (j := 1) rfl ?_
          refine st_iload_n (pc' := 81) dX12_readsOn_80 rfl rfl (j := 2) rfl ?_
          refine st_iload_n (pc' := 82) dX12_readsOn_81 rfl rfl (j := 3) rfl ?_
          refine st_iload (pc' := 84) dX12_readsOn_82 rfl (j := 6) rfl ?_
          refine st_callV (pc' := 87) (kc := k - 1) (E' := LAY) (cal := m_X12_longOf) (n := 3) (as := [vI x1, vI x2, vI x5]) (S := []) dX12_readsOn_84 rfl l_X12_530 k_X12_longOf rfl L_74 c_X12 rfl rfl (Nat.le_of_ble_eq_true rfl) (by omega) ⟨Nat.le_refl _, Nat.le_refl _, Nat.le_refl _, Nat.le_refl _⟩ h (fun r M' q => ?_)
          obtain ⟨v6, I7, J8, rfl, rfl, h⟩ := q
          change WP _ LAY m_X12_readsOn 87 [(7, vI 0), (0, vR (some 74)), (1, vI x1), (2, vI x2), (3, vI x3), (4, vI x4), (5, vI x5), (6, vI x6)] [vI v6] (mem (P, some 5, some 22) I7 J8) Q
          refine st_iload (pc' := 89) dX12_readsOn_87 rfl (j := 0) rfl ?_
          refine st_isub (pc' := 90) dX12_readsOn_89 rfl ?_
          refine st_istore (pc' := 92) (L' := [(8, vI (v6 - 0)), (7, vI 0), (0, vR (some 74)), (1, vI x1), (2, vI x2), (3, vI x3), (4, vI x4), (5, vI x5), (6, vI x6)]) dX12_readsOn_90 rfl (by decide) rfl ?_
          refine st_iload_n (pc' := 93) dX12_readsOn_92 rfl rfl (j := 5) rfl ?_
          refine st_aload_n (pc' := 94) dX12_readsOn_93 rfl rfl (j := 2) rfl ?_
          refine G_X12_237_74 dX12_readsOn_94 (pc' := 97) rfl rfl ?_
          refine st_iload_n (pc' := 98) dX12_readsOn_97 rfl rfl (j := 4) rfl ?_
          refine st_iaload (pc' := 99) (v := (gi I7 122 (x2).toNat)) dX12_readsOn_98 rfl L_122 (by decide) e2 (show gi I7 122 (x2).toNat = (gi I7 122 (x2).toNat) from rfl) ?_
          refine st_isub (pc' := 100) dX12_readsOn_99 rfl ?_
          refine st_istore (pc' := 102) (L' := [(9, vI (x3 - (gi I7 122 (x2).toNat))), (8, vI (v6 - 0)), (7, vI 0), (0, vR (some 74)), (1, vI x1), (2, vI x2), (3, vI x3), (4, vI x4), (5, vI x5), (6, vI x6)]) dX12_readsOn_100 rfl (by decide) rfl ?_
          refine st_iload (pc' := 104) dX12_readsOn_102 rfl (j := 1) rfl ?_
          refine st_iload (pc' := 106) dX12_readsOn_104 rfl (j := 0) rfl ?_
          obtain ⟨e9, h⟩ := h
          obtain ⟨e10, h⟩ := h
          refine st_icmp_gt (tg := 113) (pc' := 109) dX12_readsOn_106 (by decide) rfl e9 e10 (fun c => ?_) (fun c => ?_)
          · replace h := h.1 c
            refine st_iconst (pc' := 114) dX12_readsOn_113 rfl ?_
            refine st_istore (pc' := 116) (L' := [(10, vI 0), (9, vI (x3 - (gi I7 122 (x2).toNat))), (8, vI (v6 - 0)), (7, vI 0), (0, vR (some 74)), (1, vI x1), (2, vI x2), (3, vI x3), (4, vI x4), (5, vI x5), (6, vI x6)]) dX12_readsOn_114 rfl (by decide) rfl ?_
            refine st_aload_n (pc' := 117) dX12_readsOn_116 rfl rfl (j := 4) rfl ?_
            refine G_X12_186_74 dX12_readsOn_117 (pc' := 120) rfl rfl ?_
            refine st_iload (pc' := 122) dX12_readsOn_120 rfl (j := 8) rfl ?_
            refine st_iload (pc' := 124) dX12_readsOn_122 rfl (j := 0) rfl ?_
            refine st_if_eq (tg := 131) (pc' := 127) dX12_readsOn_124 (by decide) rfl (by decide) (fun c => ?_) (fun c => ?_)
            · refine st_iload (pc' := 133) dX12_readsOn_131 rfl (j := 9) rfl ?_
              refine st_iastore (pc' := 134) (M' := (mem (P, some 5, some 22) (si I7 113 (x4).toNat x5) J8)) dX12_readsOn_133 rfl L_113 (by decide) e5 rfl ?_
              refine st_aload_n (pc' := 135) dX12_readsOn_134 rfl rfl (j := 4) rfl ?_
              refine G_X12_189_74 dX12_readsOn_135 (pc' := 138) rfl rfl ?_
              refine st_iload (pc' := 140) dX12_readsOn_138 rfl (j := 8) rfl ?_
              refine st_iload (pc' := 142) dX12_readsOn_140 rfl (j := 0) rfl ?_
              refine st_if_eq (tg := 149) (pc' := 145) dX12_readsOn_142 (by decide) rfl (by decide) (fun c => ?_) (fun c => ?_)
              · refine st_iload (pc' := 151) dX12_readsOn_149 rfl (j := 3) rfl ?_
                refine st_iload (pc' := 153) dX12_readsOn_151 rfl (j := 1) rfl ?_
                refine st_iadd (pc' := 154) dX12_readsOn_153 rfl ?_
                refine st_iastore (pc' := 155) (M' := (mem (P, some 5, some 22) (si (si I7 113 (x4).toNat x5) 114 (x4).toNat (0 + (x3 - (gi I7 122 (x2).toNat)))) J8)) dX12_readsOn_154 rfl L_114 (by decide) e5 rfl ?_
                refine st_aload_n (pc' := 156) dX12_readsOn_155 rfl rfl (j := 4) rfl ?_
                refine G_X12_237_74 dX12_readsOn_156 (pc' := 159) rfl rfl ?_
                refine st_iload_n (pc' := 160) dX12_readsOn_159 rfl rfl (j := 6) rfl ?_
                refine st_dup2 (pc' := 161) dX12_readsOn_160 rfl rfl rfl ?_
                refine st_iaload (pc' := 162) (v := (gi I7 122 (x2).toNat)) dX12_readsOn_161 rfl L_122 (by decide) e2 (show gi (si (si I7 113 (x4).toNat x5) 114 (x4).toNat (0 + (x3 - (gi I7 122 (x2).toNat)))) 122 (x2).toNat = (gi I7 122 (x2).toNat) from ((gi_cell _ _ _ _ (by decide)).trans (gi_cell _ _ _ _ (by decide)))) ?_
                refine st_iload (pc' := 164) dX12_readsOn_162 rfl (j := 0) rfl ?_
                refine st_if_eq (tg := 181) (pc' := 167) dX12_readsOn_164 (by decide) rfl (by decide) (fun c => ?_) (fun c => ?_)
                · refine st_iload (pc' := 183) dX12_readsOn_181 rfl (j := 1) rfl ?_
                  refine st_iadd (pc' := 184) dX12_readsOn_183 rfl ?_
                  refine st_iastore (pc' := 185) (M' := (mem (P, some 5, some 22) (si (si (si I7 113 (x4).toNat x5) 114 (x4).toNat (0 + (x3 - (gi I7 122 (x2).toNat)))) 122 (x2).toNat ((gi I7 122 (x2).toNat) + (x3 - (gi I7 122 (x2).toNat)))) J8)) dX12_readsOn_184 rfl L_122 (by decide) e2 rfl ?_
                  refine st_iload (pc' := 187) dX12_readsOn_185 rfl (j := 0) rfl ?_
                  refine st_istore (pc' := 189) (L' := [(6, vI 0), (10, vI 0), (9, vI (x3 - (gi I7 122 (x2).toNat))), (8, vI (v6 - 0)), (7, vI 0), (0, vR (some 74)), (1, vI x1), (2, vI x2), (3, vI x3), (4, vI x4), (5, vI x5)]) dX12_readsOn_187 rfl (by decide) rfl ?_
                  refine st_iload (pc' := 191) dX12_readsOn_189 rfl (j := 1) rfl ?_
                  refine st_if_eq (tg := 255) (pc' := 194) dX12_readsOn_191 (by decide) rfl (by decide) (fun c => ?_) (fun c => ?_)
                  · refine st_goto (pc' := 33) dX12_readsOn_255 (by decide) ?_
                    refine WP_sub (L' := [(0, vR (some 74)), (1, vI x1), (2, vI x2), (3, vI x3), (4, vI x4), (5, vI x5), (6, vI 0)]) [5, 6, 7, 8, 9, 10, 0] rfl ?_
                    exact h
                  · exact absurd c (by decide)
                · exact absurd c (by decide)
              · exact absurd c (by decide)
            · exact absurd c (by decide)
          · replace h := h.2 c
            refine st_iconst (pc' := 110) dX12_readsOn_109 rfl ?_
            refine st_goto (pc' := 114) dX12_readsOn_110 (by decide) ?_
            refine st_istore (pc' := 116) (L' := [(10, vI 1), (9, vI (x3 - (gi I7 122 (x2).toNat))), (8, vI (v6 - 0)), (7, vI 0), (0, vR (some 74)), (1, vI x1), (2, vI x2), (3, vI x3), (4, vI x4), (5, vI x5), (6, vI x6)]) dX12_readsOn_114 rfl (by decide) rfl ?_
            refine st_aload_n (pc' := 117) dX12_readsOn_116 rfl rfl (j := 4) rfl ?_
            refine G_X12_186_74 dX12_readsOn_117 (pc' := 120) rfl rfl ?_
            refine st_iload (pc' := 122) dX12_readsOn_120 rfl (j := 8) rfl ?_
            refine st_iload (pc' := 124) dX12_readsOn_122 rfl (j := 0) rfl ?_
            refine st_if_eq (tg := 131) (pc' := 127) dX12_readsOn_124 (by decide) rfl (by decide) (fun c => ?_) (fun c => ?_)
            · exact absurd c (by decide)
            · refine st_iconst (pc' := 128) dX12_readsOn_127 rfl ?_
              refine st_goto (pc' := 133) dX12_readsOn_128 (by decide) ?_
              refine st_iastore (pc' := 134) (M' := (mem (P, some 5, some 22) (si I7 113 (x4).toNat (-1)) J8)) dX12_readsOn_133 rfl L_113 (by decide) e5 rfl ?_
              refine st_aload_n (pc' := 135) dX12_readsOn_134 rfl rfl (j := 4) rfl ?_
              refine G_X12_189_74 dX12_readsOn_135 (pc' := 138) rfl rfl ?_
              refine st_iload (pc' := 140) dX12_readsOn_138 rfl (j := 8) rfl ?_
              refine st_iload (pc' := 142) dX12_readsOn_140 rfl (j := 0) rfl ?_
              refine st_if_eq (tg := 149) (pc' := 145) dX12_readsOn_142 (by decide) rfl (by decide) (fun c => ?_) (fun c => ?_)
              · exact absurd c (by decide)
              · refine st_iconst (pc' := 146) dX12_readsOn_145 rfl ?_
                refine st_goto (pc' := 154) dX12_readsOn_146 (by decide) ?_
                refine st_iastore (pc' := 155) (M' := (mem (P, some 5, some 22) (si (si I7 113 (x4).toNat (-1)) 114 (x4).toNat 0) J8)) dX12_readsOn_154 rfl L_114 (by decide) e5 rfl ?_
                refine st_aload_n (pc' := 156) dX12_readsOn_155 rfl rfl (j := 4) rfl ?_
                refine G_X12_237_74 dX12_readsOn_156 (pc' := 159) rfl rfl ?_
                refine st_iload_n (pc' := 160) dX12_readsOn_159 rfl rfl (j := 6) rfl ?_
                refine st_dup2 (pc' := 161) dX12_readsOn_160 rfl rfl rfl ?_
                refine st_iaload (pc' := 162) (v := (gi I7 122 (x2).toNat)) dX12_readsOn_161 rfl L_122 (by decide) e2 (show gi (si (si I7 113 (x4).toNat (-1)) 114 (x4).toNat 0) 122 (x2).toNat = (gi I7 122 (x2).toNat) from ((gi_cell _ _ _ _ (by decide)).trans (gi_cell _ _ _ _ (by decide)))) ?_
                refine st_iload (pc' := 164) dX12_readsOn_162 rfl (j := 0) rfl ?_
                refine st_if_eq (tg := 181) (pc' := 167) dX12_readsOn_164 (by decide) rfl (by decide) (fun c => ?_) (fun c => ?_)
                · exact absurd c (by decide)
                · refine st_iload (pc' := 169) dX12_readsOn_167 rfl (j := 2) rfl ?_
                  refine st_if_ge (tg := 176) (pc' := 172) dX12_readsOn_169 (by decide) rfl e9 (fun c => ?_) (fun c => ?_)
                  · replace h := h.1 c
                    refine st_iload (pc' := 178) dX12_readsOn_176 rfl (j := 2) rfl ?_
                    refine st_goto (pc' := 183) dX12_readsOn_178 (by decide) ?_
                    refine st_iadd (pc' := 184) dX12_readsOn_183 rfl ?_
                    refine st_iastore (pc' := 185) (M' := (mem (P, some 5, some 22) (si (si (si I7 113 (x4).toNat (-1)) 114 (x4).toNat 0) 122 (x2).toNat ((gi I7 122 (x2).toNat) + (v6 - 0))) J8)) dX12_readsOn_184 rfl L_122 (by decide) e2 rfl ?_
                    refine st_iload (pc' := 187) dX12_readsOn_185 rfl (j := 0) rfl ?_
                    refine st_istore (pc' := 189) (L' := [(6, vI 1), (10, vI 1), (9, vI (x3 - (gi I7 122 (x2).toNat))), (8, vI (v6 - 0)), (7, vI 0), (0, vR (some 74)), (1, vI x1), (2, vI x2), (3, vI x3), (4, vI x4), (5, vI x5)]) dX12_readsOn_187 rfl (by decide) rfl ?_
                    refine st_iload (pc' := 191) dX12_readsOn_189 rfl (j := 1) rfl ?_
                    refine st_if_eq (tg := 255) (pc' := 194) dX12_readsOn_191 (by decide) rfl (by decide) (fun c => ?_) (fun c => ?_)
                    · exact absurd c (by decide)
                    · refine st_aload_n (pc' := 195) dX12_readsOn_194 rfl rfl (j := 5) rfl ?_
                      refine st_iload (pc' := 197) dX12_readsOn_195 rfl (j := 9) rfl ?_
                      refine st_iload (pc' := 199) dX12_readsOn_197 rfl (j := 10) rfl ?_
                      refine st_callV (pc' := 202) (kc := k - 1) (E' := LAY) (cal := m_X12_unlists) (n := 2) (as := [vI x4, vI x5]) (S := []) dX12_readsOn_199 rfl l_X12_534 k_X12_unlists rfl L_74 c_X12 rfl rfl (Nat.le_of_ble_eq_true rfl) (by omega) ⟨Nat.le_refl _, Nat.le_refl _, Nat.le_refl _, Nat.le_refl _⟩ h (fun r M' q => ?_)
                      obtain ⟨I12, J13, rfl, rfl, h⟩ := q
                      change WP _ LAY m_X12_readsOn 202 [(6, vI 1), (10, vI 1), (9, vI (x3 - (gi I7 122 (x2).toNat))), (8, vI (v6 - 0)), (7, vI 0), (0, vR (some 74)), (1, vI x1), (2, vI x2), (3, vI x3), (4, vI x4), (5, vI x5)] [] (mem (P, some 5, some 22) I12 J13) Q
                      refine st_aload_n (pc' := 203) dX12_readsOn_202 rfl rfl (j := 5) rfl ?_
                      refine G_X12_180_74 dX12_readsOn_203 (pc' := 206) rfl rfl ?_
                      refine st_iload (pc' := 208) dX12_readsOn_206 rfl (j := 9) rfl ?_
                      refine st_dup2 (pc' := 209) dX12_readsOn_208 rfl rfl rfl ?_
                      refine st_iaload (pc' := 210) (v := (gi I12 111 (x4).toNat)) dX12_readsOn_209 rfl L_111 (by decide) e5 (show gi I12 111 (x4).toNat = (gi I12 111 (x4).toNat) from rfl) ?_
                      refine st_iconst (pc' := 211) dX12_readsOn_210 rfl ?_
                      refine st_iload (pc' := 213) dX12_readsOn_211 rfl (j := 10) rfl ?_
                      refine st_ishl (pc' := 214) (z := (shl32 1 x5)) dX12_readsOn_213 rfl rfl ?_
                      refine st_ior (pc' := 215) (z := (or32 (gi I12 111 (x4).toNat) (shl32 1 x5))) dX12_readsOn_214 rfl rfl ?_
                      refine st_iastore (pc' := 216) (M' := (mem (P, some 5, some 22) (si I12 111 (x4).toNat (or32 (gi I12 111 (x4).toNat) (shl32 1 x5))) J13)) dX12_readsOn_215 rfl L_111 (by decide) e5 rfl ?_
                      refine st_aload_n (pc' := 217) dX12_readsOn_216 rfl rfl (j := 5) rfl ?_
                      refine G_X12_240_74 dX12_readsOn_217 (pc' := 220) rfl rfl ?_
                      refine st_iload_n (pc' := 221) dX12_readsOn_220 rfl rfl (j := 7) rfl ?_
                      refine st_dup2 (pc' := 222) dX12_readsOn_221 rfl rfl rfl ?_
                      refine st_iaload (pc' := 223) (v := (gi I12 123 (x2).toNat)) dX12_readsOn_222 rfl L_123 (by decide) e2 (show gi (si I12 111 (x4).toNat (or32 (gi I12 111 (x4).toNat) (shl32 1 x5))) 123 (x2).toNat = (gi I12 123 (x2).toNat) from (gi_cell _ _ _ _ (by decide))) ?_
                      refine st_iconst (pc' := 224) dX12_readsOn_223 rfl ?_
                      refine st_iload (pc' := 226) dX12_readsOn_224 rfl (j := 10) rfl ?_
                      refine st_ishl (pc' := 227) (z := (shl32 1 x5)) dX12_readsOn_226 rfl rfl ?_
                      refine st_ior (pc' := 228) (z := (or32 (gi I12 123 (x2).toNat) (shl32 1 x5))) dX12_readsOn_227 rfl rfl ?_
                      refine st_iastore (pc' := 229) (M' := (mem (P, some 5, some 22) (si (si I12 111 (x4).toNat (or32 (gi I12 111 (x4).toNat) (shl32 1 x5))) 123 (x2).toNat (or32 (gi I12 123 (x2).toNat) (shl32 1 x5))) J13)) dX12_readsOn_228 rfl L_123 (by decide) e2 rfl ?_
                      refine st_aload_n (pc' := 230) dX12_readsOn_229 rfl rfl (j := 5) rfl ?_
                      refine st_dup (pc' := 231) dX12_readsOn_230 rfl rfl ?_
                      refine G_X12_246_74 dX12_readsOn_231 (pc' := 234) rfl rfl ?_
                      rw [show gi (si (si I12 111 (x4).toNat (or32 (gi I12 111 (x4).toNat) (shl32 1 x5))) 123 (x2).toNat (or32 (gi I12 123 (x2).toNat) (shl32 1 x5))) 74 77 = (gi I12 74 77) from ((gi_cell _ _ _ _ (by decide)).trans (gi_cell _ _ _ _ (by decide)))]
                      refine st_iconst (pc' := 235) dX12_readsOn_234 rfl ?_
                      refine st_iadd (pc' := 236) dX12_readsOn_235 rfl ?_
                      refine P_X12_246_74 dX12_readsOn_236 (pc' := 239) rfl rfl ?_
                      refine st_aload_n (pc' := 240) dX12_readsOn_239 rfl rfl (j := 5) rfl ?_
                      refine st_iload_n (pc' := 241) dX12_readsOn_240 rfl rfl (j := 6) rfl ?_
                      refine st_iload_n (pc' := 242) dX12_readsOn_241 rfl rfl (j := 7) rfl ?_
                      refine st_iload (pc' := 244) dX12_readsOn_242 rfl (j := 10) rfl ?_
                      refine st_callV (pc' := 247) (kc := k - 1) (E' := LAY) (cal := m_X12_writesDown) (n := 3) (as := [vI x1, vI x2, vI x5]) (S := []) dX12_readsOn_244 rfl l_X12_537 k_X12_writesDown rfl L_74 c_X12 rfl rfl (Nat.le_of_ble_eq_true rfl) (by omega) ⟨Nat.le_refl _, Nat.le_refl _, Nat.le_refl _, Nat.le_refl _⟩ h (fun r M' q => ?_)
                      obtain ⟨I15, J16, rfl, rfl, h⟩ := q
                      change WP _ LAY m_X12_readsOn 247 [(6, vI 1), (10, vI 1), (9, vI (x3 - (gi I7 122 (x2).toNat))), (8, vI (v6 - 0)), (7, vI 0), (0, vR (some 74)), (1, vI x1), (2, vI x2), (3, vI x3), (4, vI x4), (5, vI x5)] [] (mem (P, some 5, some 22) I15 J16) Q
                      refine st_aload_n (pc' := 248) dX12_readsOn_247 rfl rfl (j := 5) rfl ?_
                      refine st_iload_n (pc' := 249) dX12_readsOn_248 rfl rfl (j := 6) rfl ?_
                      refine st_iload_n (pc' := 250) dX12_readsOn_249 rfl rfl (j := 7) rfl ?_
                      refine st_callV (pc' := 253) (kc := k - 1) (E' := LAY) (cal := m_X12_nextPage) (n := 2) (as := [vI x1, vI x2]) (S := []) dX12_readsOn_250 rfl l_X12_527 k_X12_nextPage rfl L_74 c_X12 rfl rfl (Nat.le_of_ble_eq_true rfl) (by omega) ⟨Nat.le_refl _, Nat.le_refl _, Nat.le_refl _, Nat.le_refl _⟩ h (fun r M' q => ?_)
                      obtain ⟨v17, I18, J19, rfl, rfl, h⟩ := q
                      change WP _ LAY m_X12_readsOn 253 [(6, vI 1), (10, vI 1), (9, vI (x3 - (gi I7 122 (x2).toNat))), (8, vI (v6 - 0)), (7, vI 0), (0, vR (some 74)), (1, vI x1), (2, vI x2), (3, vI x3), (4, vI x4), (5, vI x5)] [vI v17] (mem (P, some 5, some 22) I18 J19) Q
                      refine st_istore (pc' := 255) (L' := [(5, vI v17), (6, vI 1), (10, vI 1), (9, vI (x3 - (gi I7 122 (x2).toNat))), (8, vI (v6 - 0)), (7, vI 0), (0, vR (some 74)), (1, vI x1), (2, vI x2), (3, vI x3), (4, vI x4)]) dX12_readsOn_253 rfl (by decide) rfl ?_
                      refine st_goto (pc' := 33) dX12_readsOn_255 (by decide) ?_
                      refine WP_sub (L' := [(0, vR (some 74)), (1, vI x1), (2, vI x2), (3, vI x3), (4, vI x4), (5, vI v17), (6, vI 1)]) [6, 7, 8, 9, 10, 0, 1] rfl ?_
                      exact h
                  · replace h := h.2 c
                    refine st_iconst (pc' := 173) dX12_readsOn_172 rfl ?_
                    refine st_goto (pc' := 183) dX12_readsOn_173 (by decide) ?_
                    refine st_iadd (pc' := 184) dX12_readsOn_183 rfl ?_
                    refine st_iastore (pc' := 185) (M' := (mem (P, some 5, some 22) (si (si (si I7 113 (x4).toNat (-1)) 114 (x4).toNat 0) 122 (x2).toNat ((gi I7 122 (x2).toNat) + 0)) J8)) dX12_readsOn_184 rfl L_122 (by decide) e2 rfl ?_
                    refine st_iload (pc' := 187) dX12_readsOn_185 rfl (j := 0) rfl ?_
                    refine st_istore (pc' := 189) (L' := [(6, vI 1), (10, vI 1), (9, vI (x3 - (gi I7 122 (x2).toNat))), (8, vI (v6 - 0)), (7, vI 0), (0, vR (some 74)), (1, vI x1), (2, vI x2), (3, vI x3), (4, vI x4), (5, vI x5)]) dX12_readsOn_187 rfl (by decide) rfl ?_
                    refine st_iload (pc' := 191) dX12_readsOn_189 rfl (j := 1) rfl ?_
                    refine st_if_eq (tg := 255) (pc' := 194) dX12_readsOn_191 (by decide) rfl (by decide) (fun c => ?_) (fun c => ?_)
                    · exact absurd c (by decide)
                    · refine st_aload_n (pc' := 195) dX12_readsOn_194 rfl rfl (j := 5) rfl ?_
                      refine st_iload (pc' := 197) dX12_readsOn_195 rfl (j := 9) rfl ?_
                      refine st_iload (pc' := 199) dX12_readsOn_197 rfl (j := 10) rfl ?_
                      refine st_callV (pc' := 202) (kc := k - 1) (E' := LAY) (cal := m_X12_unlists) (n := 2) (as := [vI x4, vI x5]) (S := []) dX12_readsOn_199 rfl l_X12_534 k_X12_unlists rfl L_74 c_X12 rfl rfl (Nat.le_of_ble_eq_true rfl) (by omega) ⟨Nat.le_refl _, Nat.le_refl _, Nat.le_refl _, Nat.le_refl _⟩ h (fun r M' q => ?_)
                      obtain ⟨I21, J22, rfl, rfl, h⟩ := q
                      change WP _ LAY m_X12_readsOn 202 [(6, vI 1), (10, vI 1), (9, vI (x3 - (gi I7 122 (x2).toNat))), (8, vI (v6 - 0)), (7, vI 0), (0, vR (some 74)), (1, vI x1), (2, vI x2), (3, vI x3), (4, vI x4), (5, vI x5)] [] (mem (P, some 5, some 22) I21 J22) Q
                      refine st_aload_n (pc' := 203) dX12_readsOn_202 rfl rfl (j := 5) rfl ?_
                      refine G_X12_180_74 dX12_readsOn_203 (pc' := 206) rfl rfl ?_
                      refine st_iload (pc' := 208) dX12_readsOn_206 rfl (j := 9) rfl ?_
                      refine st_dup2 (pc' := 209) dX12_readsOn_208 rfl rfl rfl ?_
                      refine st_iaload (pc' := 210) (v := (gi I21 111 (x4).toNat)) dX12_readsOn_209 rfl L_111 (by decide) e5 (show gi I21 111 (x4).toNat = (gi I21 111 (x4).toNat) from rfl) ?_
                      refine st_iconst (pc' := 211) dX12_readsOn_210 rfl ?_
                      refine st_iload (pc' := 213) dX12_readsOn_211 rfl (j := 10) rfl ?_
                      refine st_ishl (pc' := 214) (z := (shl32 1 x5)) dX12_readsOn_213 rfl rfl ?_
                      refine st_ior (pc' := 215) (z := (or32 (gi I21 111 (x4).toNat) (shl32 1 x5))) dX12_readsOn_214 rfl rfl ?_
                      refine st_iastore (pc' := 216) (M' := (mem (P, some 5, some 22) (si I21 111 (x4).toNat (or32 (gi I21 111 (x4).toNat) (shl32 1 x5))) J22)) dX12_readsOn_215 rfl L_111 (by decide) e5 rfl ?_
                      refine st_aload_n (pc' := 217) dX12_readsOn_216 rfl rfl (j := 5) rfl ?_
                      refine G_X12_240_74 dX12_readsOn_217 (pc' := 220) rfl rfl ?_
                      refine st_iload_n (pc' := 221) dX12_readsOn_220 rfl rfl (j := 7) rfl ?_
                      refine st_dup2 (pc' := 222) dX12_readsOn_221 rfl rfl rfl ?_
                      refine st_iaload (pc' := 223) (v := (gi I21 123 (x2).toNat)) dX12_readsOn_222 rfl L_123 (by decide) e2 (show gi (si I21 111 (x4).toNat (or32 (gi I21 111 (x4).toNat) (shl32 1 x5))) 123 (x2).toNat = (gi I21 123 (x2).toNat) from (gi_cell _ _ _ _ (by decide))) ?_
                      refine st_iconst (pc' := 224) dX12_readsOn_223 rfl ?_
                      refine st_iload (pc' := 226) dX12_readsOn_224 rfl (j := 10) rfl ?_
                      refine st_ishl (pc' := 227) (z := (shl32 1 x5)) dX12_readsOn_226 rfl rfl ?_
                      refine st_ior (pc' := 228) (z := (or32 (gi I21 123 (x2).toNat) (shl32 1 x5))) dX12_readsOn_227 rfl rfl ?_
                      refine st_iastore (pc' := 229) (M' := (mem (P, some 5, some 22) (si (si I21 111 (x4).toNat (or32 (gi I21 111 (x4).toNat) (shl32 1 x5))) 123 (x2).toNat (or32 (gi I21 123 (x2).toNat) (shl32 1 x5))) J22)) dX12_readsOn_228 rfl L_123 (by decide) e2 rfl ?_
                      refine st_aload_n (pc' := 230) dX12_readsOn_229 rfl rfl (j := 5) rfl ?_
                      refine st_dup (pc' := 231) dX12_readsOn_230 rfl rfl ?_
                      refine G_X12_246_74 dX12_readsOn_231 (pc' := 234) rfl rfl ?_
                      rw [show gi (si (si I21 111 (x4).toNat (or32 (gi I21 111 (x4).toNat) (shl32 1 x5))) 123 (x2).toNat (or32 (gi I21 123 (x2).toNat) (shl32 1 x5))) 74 77 = (gi I21 74 77) from ((gi_cell _ _ _ _ (by decide)).trans (gi_cell _ _ _ _ (by decide)))]
                      refine st_iconst (pc' := 235) dX12_readsOn_234 rfl ?_
                      refine st_iadd (pc' := 236) dX12_readsOn_235 rfl ?_
                      refine P_X12_246_74 dX12_readsOn_236 (pc' := 239) rfl rfl ?_
                      refine st_aload_n (pc' := 240) dX12_readsOn_239 rfl rfl (j := 5) rfl ?_
                      refine st_iload_n (pc' := 241) dX12_readsOn_240 rfl rfl (j := 6) rfl ?_
                      refine st_iload_n (pc' := 242) dX12_readsOn_241 rfl rfl (j := 7) rfl ?_
                      refine st_iload (pc' := 244) dX12_readsOn_242 rfl (j := 10) rfl ?_
                      refine st_callV (pc' := 247) (kc := k - 1) (E' := LAY) (cal := m_X12_writesDown) (n := 3) (as := [vI x1, vI x2, vI x5]) (S := []) dX12_readsOn_244 rfl l_X12_537 k_X12_writesDown rfl L_74 c_X12 rfl rfl (Nat.le_of_ble_eq_true rfl) (by omega) ⟨Nat.le_refl _, Nat.le_refl _, Nat.le_refl _, Nat.le_refl _⟩ h (fun r M' q => ?_)
                      obtain ⟨I24, J25, rfl, rfl, h⟩ := q
                      change WP _ LAY m_X12_readsOn 247 [(6, vI 1), (10, vI 1), (9, vI (x3 - (gi I7 122 (x2).toNat))), (8, vI (v6 - 0)), (7, vI 0), (0, vR (some 74)), (1, vI x1), (2, vI x2), (3, vI x3), (4, vI x4), (5, vI x5)] [] (mem (P, some 5, some 22) I24 J25) Q
                      refine st_aload_n (pc' := 248) dX12_readsOn_247 rfl rfl (j := 5) rfl ?_
                      refine st_iload_n (pc' := 249) dX12_readsOn_248 rfl rfl (j := 6) rfl ?_
                      refine st_iload_n (pc' := 250) dX12_readsOn_249 rfl rfl (j := 7) rfl ?_
                      refine st_callV (pc' := 253) (kc := k - 1) (E' := LAY) (cal := m_X12_nextPage) (n := 2) (as := [vI x1, vI x2]) (S := []) dX12_readsOn_250 rfl l_X12_527 k_X12_nextPage rfl L_74 c_X12 rfl rfl (Nat.le_of_ble_eq_true rfl) (by omega) ⟨Nat.le_refl _, Nat.le_refl _, Nat.le_refl _, Nat.le_refl _⟩ h (fun r M' q => ?_)
                      obtain ⟨v26, I27, J28, rfl, rfl, h⟩ := q
                      change WP _ LAY m_X12_readsOn 253 [(6, vI 1), (10, vI 1), (9, vI (x3 - (gi I7 122 (x2).toNat))), (8, vI (v6 - 0)), (7, vI 0), (0, vR (some 74)), (1, vI x1), (2, vI x2), (3, vI x3), (4, vI x4), (5, vI x5)] [vI v26] (mem (P, some 5, some 22) I27 J28) Q
                      refine st_istore (pc' := 255) (L' := [(5, vI v26), (6, vI 1), (10, vI 1), (9, vI (x3 - (gi I7 122 (x2).toNat))), (8, vI (v6 - 0)), (7, vI 0), (0, vR (some 74)), (1, vI x1), (2, vI x2), (3, vI x3), (4, vI x4)]) dX12_readsOn_253 rfl (by decide) rfl ?_
                      refine st_goto (pc' := 33) dX12_readsOn_255 (by decide) ?_
                      refine WP_sub (L' := [(0, vR (some 74)), (1, vI x1), (2, vI x2), (3, vI x3), (4, vI x4), (5, vI v26), (6, vI 1)]) [6, 7, 8, 9, 10, 0, 1] rfl ?_
                      exact h
        · replace h := h.2 c
          refine st_aload_n (pc' := 67) dX12_readsOn_66 rfl rfl (j := 0) rfl ?_
          refine G_X12_189_74 dX12_readsOn_67 (pc' := 70) rfl rfl ?_
          refine st_iload (pc' := 72) dX12_readsOn_70 rfl (j := 4) rfl ?_
          refine st_iaload (pc' := 73) (v := (gi I 114 (x4).toNat)) dX12_readsOn_72 rfl L_114 (by decide) e5 (show gi I 114 (x4).toNat = (gi I 114 (x4).toNat) from rfl) ?_
          refine st_goto (pc' := 77) dX12_readsOn_73 (by decide) ?_
          refine st_istore (pc' := 79) (L' := [(7, vI (gi I 114 (x4).toNat)), (0, vR (some 74)), (1, vI x1), (2, vI x2), (3, vI x3), (4, vI x4), (5, vI x5), (6, vI x6)]) dX12_readsOn_77 rfl (by decide) rfl ?_
          refine st_aload_n (pc' := 80) dX12_readsOn_79 rfl rfl (j := 1) rfl ?_
          refine st_iload_n (pc' := 81) dX12_readsOn_80 rfl rfl (j := 2) rfl ?_
          refine st_iload_n (pc' := 82) dX12_readsOn_81 rfl rfl (j := 3) rfl ?_
          refine st_iload (pc' := 84) dX12_readsOn_82 rfl (j := 6) rfl ?_
          refine st_callV (pc' := 87) (kc := k - 1) (E' := LAY) (cal := m_X12_longOf) (n := 3) (as := [vI x1, vI x2, vI x5]) (S := []) dX12_readsOn_84 rfl l_X12_530 k_X12_longOf rfl L_74 c_X12 rfl rfl (Nat.le_of_ble_eq_true rfl) (by omega) ⟨Nat.le_refl _, Nat.le_refl _, Nat.le_refl _, Nat.le_refl _⟩ h (fun r M' q => ?_)
          obtain ⟨v29, I30, J31, rfl, rfl, h⟩ := q
          change WP _ LAY m_X12_readsOn 87 [(7, vI (gi I 114 (x4).toNat)), (0, vR (some 74)), (1, vI x1), (2, vI x2), (3, vI x3), (4, vI x4), (5, vI x5), (6, vI x6)] [vI v29] (mem (P, some 5, some 22) I30 J31) Q
          refine st_iload (pc' := 89) dX12_readsOn_87 rfl (j := 0) rfl ?_
          refine st_isub (pc' := 90) dX12_readsOn_89 rfl ?_
          refine st_istore (pc' := 92) (L' := [(8, vI (v29 - (gi I 114 (x4).toNat))), (7, vI (gi I 114 (x4).toNat)), (0, vR (some 74)), (1, vI x1), (2, vI x2), (3, vI x3), (4, vI x4), (5, vI x5), (6, vI x6)]) dX12_readsOn_90 rfl (by decide) rfl ?_
          refine st_iload_n (pc' := 93) dX12_readsOn_92 rfl rfl (j := 5) rfl ?_
          refine st_aload_n (pc' := 94) dX12_readsOn_93 rfl rfl (j := 2) rfl ?_
          refine G_X12_237_74 dX12_readsOn_94 (pc' := 97) rfl rfl ?_
          refine st_iload_n (pc' := 98) dX12_readsOn_97 rfl rfl (j := 4) rfl ?_
          refine st_iaload (pc' := 99) (v := (gi I30 122 (x2).toNat)) dX12_readsOn_98 rfl L_122 (by decide) e2 (show gi I30 122 (x2).toNat = (gi I30 122 (x2).toNat) from rfl) ?_
          refine st_isub (pc' := 100) dX12_readsOn_99 rfl ?_
          refine st_istore (pc' := 102) (L' := [(9, vI (x3 - (gi I30 122 (x2).toNat))), (8, vI (v29 - (gi I 114 (x4).toNat))), (7, vI (gi I 114 (x4).toNat)), (0, vR (some 74)), (1, vI x1), (2, vI x2), (3, vI x3), (4, vI x4), (5, vI x5), (6, vI x6)]) dX12_readsOn_100 rfl (by decide) rfl ?_
          refine st_iload (pc' := 104) dX12_readsOn_102 rfl (j := 1) rfl ?_
          refine st_iload (pc' := 106) dX12_readsOn_104 rfl (j := 0) rfl ?_
          obtain ⟨e32, h⟩ := h
          obtain ⟨e33, h⟩ := h
          refine st_icmp_gt (tg := 113) (pc' := 109) dX12_readsOn_106 (by decide) rfl e32 e33 (fun c => ?_) (fun c => ?_)
          · replace h := h.1 c
            refine st_iconst (pc' := 114) dX12_readsOn_113 rfl ?_
            refine st_istore (pc' := 116) (L' := [(10, vI 0), (9, vI (x3 - (gi I30 122 (x2).toNat))), (8, vI (v29 - (gi I 114 (x4).toNat))), (7, vI (gi I 114 (x4).toNat)), (0, vR (some 74)), (1, vI x1), (2, vI x2), (3, vI x3), (4, vI x4), (5, vI x5), (6, vI x6)]) dX12_readsOn_114 rfl (by decide) rfl ?_
            refine st_aload_n (pc' := 117) dX12_readsOn_116 rfl rfl (j := 4) rfl ?_
            refine G_X12_186_74 dX12_readsOn_117 (pc' := 120) rfl rfl ?_
            refine st_iload (pc' := 122) dX12_readsOn_120 rfl (j := 8) rfl ?_
            refine st_iload (pc' := 124) dX12_readsOn_122 rfl (j := 0) rfl ?_
            refine st_if_eq (tg := 131) (pc' := 127) dX12_readsOn_124 (by decide) rfl (by decide) (fun c => ?_) (fun c => ?_)
            · refine st_iload (pc' := 133) dX12_readsOn_131 rfl (j := 9) rfl ?_
              refine st_iastore (pc' := 134) (M' := (mem (P, some 5, some 22) (si I30 113 (x4).toNat x5) J31)) dX12_readsOn_133 rfl L_113 (by decide) e5 rfl ?_
              refine st_aload_n (pc' := 135) dX12_readsOn_134 rfl rfl (j := 4) rfl ?_
              refine G_X12_189_74 dX12_readsOn_135 (pc' := 138) rfl rfl ?_
              refine st_iload (pc' := 140) dX12_readsOn_138 rfl (j := 8) rfl ?_
              refine st_iload (pc' := 142) dX12_readsOn_140 rfl (j := 0) rfl ?_
              refine st_if_eq (tg := 149) (pc' := 145) dX12_readsOn_142 (by decide) rfl (by decide) (fun c => ?_) (fun c => ?_)
              · refine st_iload (pc' := 151) dX12_readsOn_149 rfl (j := 3) rfl ?_
                refine st_iload (pc' := 153) dX12_readsOn_151 rfl (j := 1) rfl ?_
                refine st_iadd (pc' := 154) dX12_readsOn_153 rfl ?_
                refine st_iastore (pc' := 155) (M' := (mem (P, some 5, some 22) (si (si I30 113 (x4).toNat x5) 114 (x4).toNat ((gi I 114 (x4).toNat) + (x3 - (gi I30 122 (x2).toNat)))) J31)) dX12_readsOn_154 rfl L_114 (by decide) e5 rfl ?_
                refine st_aload_n (pc' := 156) dX12_readsOn_155 rfl rfl (j := 4) rfl ?_
                refine G_X12_237_74 dX12_readsOn_156 (pc' := 159) rfl rfl ?_
                refine st_iload_n (pc' := 160) dX12_readsOn_159 rfl rfl (j := 6) rfl ?_
                refine st_dup2 (pc' := 161) dX12_readsOn_160 rfl rfl rfl ?_
                refine st_iaload (pc' := 162) (v := (gi I30 122 (x2).toNat)) dX12_readsOn_161 rfl L_122 (by decide) e2 (show gi (si (si I30 113 (x4).toNat x5) 114 (x4).toNat ((gi I 114 (x4).toNat) + (x3 - (gi I30 122 (x2).toNat)))) 122 (x2).toNat = (gi I30 122 (x2).toNat) from ((gi_cell _ _ _ _ (by decide)).trans (gi_cell _ _ _ _ (by decide)))) ?_
                refine st_iload (pc' := 164) dX12_readsOn_162 rfl (j := 0) rfl ?_
                refine st_if_eq (tg := 181) (pc' := 167) dX12_readsOn_164 (by decide) rfl (by decide) (fun c => ?_) (fun c => ?_)
                · refine st_iload (pc' := 183) dX12_readsOn_181 rfl (j := 1) rfl ?_
                  refine st_iadd (pc' := 184) dX12_readsOn_183 rfl ?_
                  refine st_iastore (pc' := 185) (M' := (mem (P, some 5, some 22) (si (si (si I30 113 (x4).toNat x5) 114 (x4).toNat ((gi I 114 (x4).toNat) + (x3 - (gi I30 122 (x2).toNat)))) 122 (x2).toNat ((gi I30 122 (x2).toNat) + (x3 - (gi I30 122 (x2).toNat)))) J31)) dX12_readsOn_184 rfl L_122 (by decide) e2 rfl ?_
                  refine st_iload (pc' := 187) dX12_readsOn_185 rfl (j := 0) rfl ?_
                  refine st_istore (pc' := 189) (L' := [(6, vI 0), (10, vI 0), (9, vI (x3 - (gi I30 122 (x2).toNat))), (8, vI (v29 - (gi I 114 (x4).toNat))), (7, vI (gi I 114 (x4).toNat)), (0, vR (some 74)), (1, vI x1), (2, vI x2), (3, vI x3), (4, vI x4), (5, vI x5)]) dX12_readsOn_187 rfl (by decide) rfl ?_
                  refine st_iload (pc' := 191) dX12_readsOn_189 rfl (j := 1) rfl ?_
                  refine st_if_eq (tg := 255) (pc' := 194) dX12_readsOn_191 (by decide) rfl (by decide) (fun c => ?_) (fun c => ?_)
                  · refine st_goto (pc' := 33) dX12_readsOn_255 (by decide) ?_
                    refine WP_sub (L' := [(0, vR (some 74)), (1, vI x1), (2, vI x2), (3, vI x3), (4, vI x4), (5, vI x5), (6, vI 0)]) [5, 6, 7, 8, 9, 10, 0] rfl ?_
                    exact h
                  · exact absurd c (by decide)
                · exact absurd c (by decide)
              · exact absurd c (by decide)
            · exact absurd c (by decide)
          · replace h := h.2 c
            refine st_iconst (pc' := 110) dX12_readsOn_109 rfl ?_
            refine st_goto (pc' := 114) dX12_readsOn_110 (by decide) ?_
            refine st_istore (pc' := 116) (L' := [(10, vI 1), (9, vI (x3 - (gi I30 122 (x2).toNat))), (8, vI (v29 - (gi I 114 (x4).toNat))), (7, vI (gi I 114 (x4).toNat)), (0, vR (some 74)), (1, vI x1), (2, vI x2), (3, vI x3), (4, vI x4), (5, vI x5), (6, vI x6)]) dX12_readsOn_114 rfl (by decide) rfl ?_
            refine st_aload_n (pc' := 117) dX12_readsOn_116 rfl rfl (j := 4) rfl ?_
            refine G_X12_186_74 dX12_readsOn_117 (pc' := 120) rfl rfl ?_
            refine st_iload (pc' := 122) dX12_readsOn_120 rfl (j := 8) rfl ?_
            refine st_iload (pc' := 124) dX12_readsOn_122 rfl (j := 0) rfl ?_
            refine st_if_eq (tg := 131) (pc' := 127) dX12_readsOn_124 (by decide) rfl (by decide) (fun c => ?_) (fun c => ?_)
            · exact absurd c (by decide)
            · refine st_iconst (pc' := 128) dX12_readsOn_127 rfl ?_
              refine st_goto (pc' := 133) dX12_readsOn_128 (by decide) ?_
              refine st_iastore (pc' := 134) (M' := (mem (P, some 5, some 22) (si I30 113 (x4).toNat (-1)) J31)) dX12_readsOn_133 rfl L_113 (by decide) e5 rfl ?_
              refine st_aload_n (pc' := 135) dX12_readsOn_134 rfl rfl (j := 4) rfl ?_
              refine G_X12_189_74 dX12_readsOn_135 (pc' := 138) rfl rfl ?_
              refine st_iload (pc' := 140) dX12_readsOn_138 rfl (j := 8) rfl ?_
              refine st_iload (pc' := 142) dX12_readsOn_140 rfl (j := 0) rfl ?_
              refine st_if_eq (tg := 149) (pc' := 145) dX12_readsOn_142 (by decide) rfl (by decide) (fun c => ?_) (fun c => ?_)
              · exact absurd c (by decide)
              · refine st_iconst (pc' := 146) dX12_readsOn_145 rfl ?_
                refine st_goto (pc' := 154) dX12_readsOn_146 (by decide) ?_
                refine st_iastore (pc' := 155) (M' := (mem (P, some 5, some 22) (si (si I30 113 (x4).toNat (-1)) 114 (x4).toNat 0) J31)) dX12_readsOn_154 rfl L_114 (by decide) e5 rfl ?_
                refine st_aload_n (pc' := 156) dX12_readsOn_155 rfl rfl (j := 4) rfl ?_
                refine G_X12_237_74 dX12_readsOn_156 (pc' := 159) rfl rfl ?_
                refine st_iload_n (pc' := 160) dX12_readsOn_159 rfl rfl (j := 6) rfl ?_
                refine st_dup2 (pc' := 161) dX12_readsOn_160 rfl rfl rfl ?_
                refine st_iaload (pc' := 162) (v := (gi I30 122 (x2).toNat)) dX12_readsOn_161 rfl L_122 (by decide) e2 (show gi (si (si I30 113 (x4).toNat (-1)) 114 (x4).toNat 0) 122 (x2).toNat = (gi I30 122 (x2).toNat) from ((gi_cell _ _ _ _ (by decide)).trans (gi_cell _ _ _ _ (by decide)))) ?_
                refine st_iload (pc' := 164) dX12_readsOn_162 rfl (j := 0) rfl ?_
                refine st_if_eq (tg := 181) (pc' := 167) dX12_readsOn_164 (by decide) rfl (by decide) (fun c => ?_) (fun c => ?_)
                · exact absurd c (by decide)
                · refine st_iload (pc' := 169) dX12_readsOn_167 rfl (j := 2) rfl ?_
                  refine st_if_ge (tg := 176) (pc' := 172) dX12_readsOn_169 (by decide) rfl e32 (fun c => ?_) (fun c => ?_)
                  · replace h := h.1 c
                    refine st_iload (pc' := 178) dX12_readsOn_176 rfl (j := 2) rfl ?_
                    refine st_goto (pc' := 183) dX12_readsOn_178 (by decide) ?_
                    refine st_iadd (pc' := 184) dX12_readsOn_183 rfl ?_
                    refine st_iastore (pc' := 185) (M' := (mem (P, some 5, some 22) (si (si (si I30 113 (x4).toNat (-1)) 114 (x4).toNat 0) 122 (x2).toNat ((gi I30 122 (x2).toNat) + (v29 - (gi I 114 (x4).toNat)))) J31)) dX12_readsOn_184 rfl L_122 (by decide) e2 rfl ?_
                    refine st_iload (pc' := 187) dX12_readsOn_185 rfl (j := 0) rfl ?_
                    refine st_istore (pc' := 189) (L' := [(6, vI 1), (10, vI 1), (9, vI (x3 - (gi I30 122 (x2).toNat))), (8, vI (v29 - (gi I 114 (x4).toNat))), (7, vI (gi I 114 (x4).toNat)), (0, vR (some 74)), (1, vI x1), (2, vI x2), (3, vI x3), (4, vI x4), (5, vI x5)]) dX12_readsOn_187 rfl (by decide) rfl ?_
                    refine st_iload (pc' := 191) dX12_readsOn_189 rfl (j := 1) rfl ?_
                    refine st_if_eq (tg := 255) (pc' := 194) dX12_readsOn_191 (by decide) rfl (by decide) (fun c => ?_) (fun c => ?_)
                    · exact absurd c (by decide)
                    · refine st_aload_n (pc' := 195) dX12_readsOn_194 rfl rfl (j := 5) rfl ?_
                      refine st_iload (pc' := 197) dX12_readsOn_195 rfl (j := 9) rfl ?_
                      refine st_iload (pc' := 199) dX12_readsOn_197 rfl (j := 10) rfl ?_
                      refine st_callV (pc' := 202) (kc := k - 1) (E' := LAY) (cal := m_X12_unlists) (n := 2) (as := [vI x4, vI x5]) (S := []) dX12_readsOn_199 rfl l_X12_534 k_X12_unlists rfl L_74 c_X12 rfl rfl (Nat.le_of_ble_eq_true rfl) (by omega) ⟨Nat.le_refl _, Nat.le_refl _, Nat.le_refl _, Nat.le_refl _⟩ h (fun r M' q => ?_)
                      obtain ⟨I35, J36, rfl, rfl, h⟩ := q
                      change WP _ LAY m_X12_readsOn 202 [(6, vI 1), (10, vI 1), (9, vI (x3 - (gi I30 122 (x2).toNat))), (8, vI (v29 - (gi I 114 (x4).toNat))), (7, vI (gi I 114 (x4).toNat)), (0, vR (some 74)), (1, vI x1), (2, vI x2), (3, vI x3), (4, vI x4), (5, vI x5)] [] (mem (P, some 5, some 22) I35 J36) Q
                      refine st_aload_n (pc' := 203) dX12_readsOn_202 rfl rfl (j := 5) rfl ?_
                      refine G_X12_180_74 dX12_readsOn_203 (pc' := 206) rfl rfl ?_
                      refine st_iload (pc' := 208) dX12_readsOn_206 rfl (j := 9) rfl ?_
                      refine st_dup2 (pc' := 209) dX12_readsOn_208 rfl rfl rfl ?_
                      refine st_iaload (pc' := 210) (v := (gi I35 111 (x4).toNat)) dX12_readsOn_209 rfl L_111 (by decide) e5 (show gi I35 111 (x4).toNat = (gi I35 111 (x4).toNat) from rfl) ?_
                      refine st_iconst (pc' := 211) dX12_readsOn_210 rfl ?_
                      refine st_iload (pc' := 213) dX12_readsOn_211 rfl (j := 10) rfl ?_
                      refine st_ishl (pc' := 214) (z := (shl32 1 x5)) dX12_readsOn_213 rfl rfl ?_
                      refine st_ior (pc' := 215) (z := (or32 (gi I35 111 (x4).toNat) (shl32 1 x5))) dX12_readsOn_214 rfl rfl ?_
                      refine st_iastore (pc' := 216) (M' := (mem (P, some 5, some 22) (si I35 111 (x4).toNat (or32 (gi I35 111 (x4).toNat) (shl32 1 x5))) J36)) dX12_readsOn_215 rfl L_111 (by decide) e5 rfl ?_
                      refine st_aload_n (pc' := 217) dX12_readsOn_216 rfl rfl (j := 5) rfl ?_
                      refine G_X12_240_74 dX12_readsOn_217 (pc' := 220) rfl rfl ?_
                      refine st_iload_n (pc' := 221) dX12_readsOn_220 rfl rfl (j := 7) rfl ?_
                      refine st_dup2 (pc' := 222) dX12_readsOn_221 rfl rfl rfl ?_
                      refine st_iaload (pc' := 223) (v := (gi I35 123 (x2).toNat)) dX12_readsOn_222 rfl L_123 (by decide) e2 (show gi (si I35 111 (x4).toNat (or32 (gi I35 111 (x4).toNat) (shl32 1 x5))) 123 (x2).toNat = (gi I35 123 (x2).toNat) from (gi_cell _ _ _ _ (by decide))) ?_
                      refine st_iconst (pc' := 224) dX12_readsOn_223 rfl ?_
                      refine st_iload (pc' := 226) dX12_readsOn_224 rfl (j := 10) rfl ?_
                      refine st_ishl (pc' := 227) (z := (shl32 1 x5)) dX12_readsOn_226 rfl rfl ?_
                      refine st_ior (pc' := 228) (z := (or32 (gi I35 123 (x2).toNat) (shl32 1 x5))) dX12_readsOn_227 rfl rfl ?_
                      refine st_iastore (pc' := 229) (M' := (mem (P, some 5, some 22) (si (si I35 111 (x4).toNat (or32 (gi I35 111 (x4).toNat) (shl32 1 x5))) 123 (x2).toNat (or32 (gi I35 123 (x2).toNat) (shl32 1 x5))) J36)) dX12_readsOn_228 rfl L_123 (by decide) e2 rfl ?_
                      refine st_aload_n (pc' := 230) dX12_readsOn_229 rfl rfl (j := 5) rfl ?_
                      refine st_dup (pc' := 231) dX12_readsOn_230 rfl rfl ?_
                      refine G_X12_246_74 dX12_readsOn_231 (pc' := 234) rfl rfl ?_
                      rw [show gi (si (si I35 111 (x4).toNat (or32 (gi I35 111 (x4).toNat) (shl32 1 x5))) 123 (x2).toNat (or32 (gi I35 123 (x2).toNat) (shl32 1 x5))) 74 77 = (gi I35 74 77) from ((gi_cell _ _ _ _ (by decide)).trans (gi_cell _ _ _ _ (by decide)))]
                      refine st_iconst (pc' := 235) dX12_readsOn_234 rfl ?_
                      refine st_iadd (pc' := 236) dX12_readsOn_235 rfl ?_
                      refine P_X12_246_74 dX12_readsOn_236 (pc' := 239) rfl rfl ?_
                      refine st_aload_n (pc' := 240) dX12_readsOn_239 rfl rfl (j := 5) rfl ?_
                      refine st_iload_n (pc' := 241) dX12_readsOn_240 rfl rfl (j := 6) rfl ?_
                      refine st_iload_n (pc' := 242) dX12_readsOn_241 rfl rfl (j := 7) rfl ?_
                      refine st_iload (pc' := 244) dX12_readsOn_242 rfl (j := 10) rfl ?_
                      refine st_callV (pc' := 247) (kc := k - 1) (E' := LAY) (cal := m_X12_writesDown) (n := 3) (as := [vI x1, vI x2, vI x5]) (S := []) dX12_readsOn_244 rfl l_X12_537 k_X12_writesDown rfl L_74 c_X12 rfl rfl (Nat.le_of_ble_eq_true rfl) (by omega) ⟨Nat.le_refl _, Nat.le_refl _, Nat.le_refl _, Nat.le_refl _⟩ h (fun r M' q => ?_)
                      obtain ⟨I38, J39, rfl, rfl, h⟩ := q
                      change WP _ LAY m_X12_readsOn 247 [(6, vI 1), (10, vI 1), (9, vI (x3 - (gi I30 122 (x2).toNat))), (8, vI (v29 - (gi I 114 (x4).toNat))), (7, vI (gi I 114 (x4).toNat)), (0, vR (some 74)), (1, vI x1), (2, vI x2), (3, vI x3), (4, vI x4), (5, vI x5)] [] (mem (P, some 5, some 22) I38 J39) Q
                      refine st_aload_n (pc' := 248) dX12_readsOn_247 rfl rfl (j := 5) rfl ?_
                      refine st_iload_n (pc' := 249) dX12_readsOn_248 rfl rfl (j := 6) rfl ?_
                      refine st_iload_n (pc' := 250) dX12_readsOn_249 rfl rfl (j := 7) rfl ?_
                      refine st_callV (pc' := 253) (kc := k - 1) (E' := LAY) (cal := m_X12_nextPage) (n := 2) (as := [vI x1, vI x2]) (S := []) dX12_readsOn_250 rfl l_X12_527 k_X12_nextPage rfl L_74 c_X12 rfl rfl (Nat.le_of_ble_eq_true rfl) (by omega) ⟨Nat.le_refl _, Nat.le_refl _, Nat.le_refl _, Nat.le_refl _⟩ h (fun r M' q => ?_)
                      obtain ⟨v40, I41, J42, rfl, rfl, h⟩ := q
                      change WP _ LAY m_X12_readsOn 253 [(6, vI 1), (10, vI 1), (9, vI (x3 - (gi I30 122 (x2).toNat))), (8, vI (v29 - (gi I 114 (x4).toNat))), (7, vI (gi I 114 (x4).toNat)), (0, vR (some 74)), (1, vI x1), (2, vI x2), (3, vI x3), (4, vI x4), (5, vI x5)] [vI v40] (mem (P, some 5, some 22) I41 J42) Q
                      refine st_istore (pc' := 255) (L' := [(5, vI v40), (6, vI 1), (10, vI 1), (9, vI (x3 - (gi I30 122 (x2).toNat))), (8, vI (v29 - (gi I 114 (x4).toNat))), (7, vI (gi I 114 (x4).toNat)), (0, vR (some 74)), (1, vI x1), (2, vI x2), (3, vI x3), (4, vI x4)]) dX12_readsOn_253 rfl (by decide) rfl ?_
                      refine st_goto (pc' := 33) dX12_readsOn_255 (by decide) ?_
                      refine WP_sub (L' := [(0, vR (some 74)), (1, vI x1), (2, vI x2), (3, vI x3), (4, vI x4), (5, vI v40), (6, vI 1)]) [6, 7, 8, 9, 10, 0, 1] rfl ?_
                      exact h
                  · replace h := h.2 c
                    refine st_iconst (pc' := 173) dX12_readsOn_172 rfl ?_
                    refine st_goto (pc' := 183) dX12_readsOn_173 (by decide) ?_
                    refine st_iadd (pc' := 184) dX12_readsOn_183 rfl ?_
                    refine st_iastore (pc' := 185) (M' := (mem (P, some 5, some 22) (si (si (si I30 113 (x4).toNat (-1)) 114 (x4).toNat 0) 122 (x2).toNat ((gi I30 122 (x2).toNat) + 0)) J31)) dX12_readsOn_184 rfl L_122 (by decide) e2 rfl ?_
                    refine st_iload (pc' := 187) dX12_readsOn_185 rfl (j := 0) rfl ?_
                    refine st_istore (pc' := 189) (L' := [(6, vI 1), (10, vI 1), (9, vI (x3 - (gi I30 122 (x2).toNat))), (8, vI (v29 - (gi I 114 (x4).toNat))), (7, vI (gi I 114 (x4).toNat)), (0, vR (some 74)), (1, vI x1), (2, vI x2), (3, vI x3), (4, vI x4), (5, vI x5)]) dX12_readsOn_187 rfl (by decide) rfl ?_
                    refine st_iload (pc' := 191) dX12_readsOn_189 rfl (j := 1) rfl ?_
                    refine st_if_eq (tg := 255) (pc' := 194) dX12_readsOn_191 (by decide) rfl (by decide) (fun c => ?_) (fun c => ?_)
                    · exact absurd c (by decide)
                    · refine st_aload_n (pc' := 195) dX12_readsOn_194 rfl rfl (j := 5) rfl ?_
                      refine st_iload (pc' := 197) dX12_readsOn_195 rfl (j := 9) rfl ?_
                      refine st_iload (pc' := 199) dX12_readsOn_197 rfl (j := 10) rfl ?_
                      refine st_callV (pc' := 202) (kc := k - 1) (E' := LAY) (cal := m_X12_unlists) (n := 2) (as := [vI x4, vI x5]) (S := []) dX12_readsOn_199 rfl l_X12_534 k_X12_unlists rfl L_74 c_X12 rfl rfl (Nat.le_of_ble_eq_true rfl) (by omega) ⟨Nat.le_refl _, Nat.le_refl _, Nat.le_refl _, Nat.le_refl _⟩ h (fun r M' q => ?_)
                      obtain ⟨I44, J45, rfl, rfl, h⟩ := q
                      change WP _ LAY m_X12_readsOn 202 [(6, vI 1), (10, vI 1), (9, vI (x3 - (gi I30 122 (x2).toNat))), (8, vI (v29 - (gi I 114 (x4).toNat))), (7, vI (gi I 114 (x4).toNat)), (0, vR (some 74)), (1, vI x1), (2, vI x2), (3, vI x3), (4, vI x4), (5, vI x5)] [] (mem (P, some 5, some 22) I44 J45) Q
                      refine st_aload_n (pc' := 203) dX12_readsOn_202 rfl rfl (j := 5) rfl ?_
                      refine G_X12_180_74 dX12_readsOn_203 (pc' := 206) rfl rfl ?_
                      refine st_iload (pc' := 208) dX12_readsOn_206 rfl (j := 9) rfl ?_
                      refine st_dup2 (pc' := 209) dX12_readsOn_208 rfl rfl rfl ?_
                      refine st_iaload (pc' := 210) (v := (gi I44 111 (x4).toNat)) dX12_readsOn_209 rfl L_111 (by decide) e5 (show gi I44 111 (x4).toNat = (gi I44 111 (x4).toNat) from rfl) ?_
                      refine st_iconst (pc' := 211) dX12_readsOn_210 rfl ?_
                      refine st_iload (pc' := 213) dX12_readsOn_211 rfl (j := 10) rfl ?_
                      refine st_ishl (pc' := 214) (z := (shl32 1 x5)) dX12_readsOn_213 rfl rfl ?_
                      refine st_ior (pc' := 215) (z := (or32 (gi I44 111 (x4).toNat) (shl32 1 x5))) dX12_readsOn_214 rfl rfl ?_
                      refine st_iastore (pc' := 216) (M' := (mem (P, some 5, some 22) (si I44 111 (x4).toNat (or32 (gi I44 111 (x4).toNat) (shl32 1 x5))) J45)) dX12_readsOn_215 rfl L_111 (by decide) e5 rfl ?_
                      refine st_aload_n (pc' := 217) dX12_readsOn_216 rfl rfl (j := 5) rfl ?_
                      refine G_X12_240_74 dX12_readsOn_217 (pc' := 220) rfl rfl ?_
                      refine st_iload_n (pc' := 221) dX12_readsOn_220 rfl rfl (j := 7) rfl ?_
                      refine st_dup2 (pc' := 222) dX12_readsOn_221 rfl rfl rfl ?_
                      refine st_iaload (pc' := 223) (v := (gi I44 123 (x2).toNat)) dX12_readsOn_222 rfl L_123 (by decide) e2 (show gi (si I44 111 (x4).toNat (or32 (gi I44 111 (x4).toNat) (shl32 1 x5))) 123 (x2).toNat = (gi I44 123 (x2).toNat) from (gi_cell _ _ _ _ (by decide))) ?_
                      refine st_iconst (pc' := 224) dX12_readsOn_223 rfl ?_
                      refine st_iload (pc' := 226) dX12_readsOn_224 rfl (j := 10) rfl ?_
                      refine st_ishl (pc' := 227) (z := (shl32 1 x5)) dX12_readsOn_226 rfl rfl ?_
                      refine st_ior (pc' := 228) (z := (or32 (gi I44 123 (x2).toNat) (shl32 1 x5))) dX12_readsOn_227 rfl rfl ?_
                      refine st_iastore (pc' := 229) (M' := (mem (P, some 5, some 22) (si (si I44 111 (x4).toNat (or32 (gi I44 111 (x4).toNat) (shl32 1 x5))) 123 (x2).toNat (or32 (gi I44 123 (x2).toNat) (shl32 1 x5))) J45)) dX12_readsOn_228 rfl L_123 (by decide) e2 rfl ?_
                      refine st_aload_n (pc' := 230) dX12_readsOn_229 rfl rfl (j := 5) rfl ?_
                      refine st_dup (pc' := 231) dX12_readsOn_230 rfl rfl ?_
                      refine G_X12_246_74 dX12_readsOn_231 (pc' := 234) rfl rfl ?_
                      rw [show gi (si (si I44 111 (x4).toNat (or32 (gi I44 111 (x4).toNat) (shl32 1 x5))) 123 (x2).toNat (or32 (gi I44 123 (x2).toNat) (shl32 1 x5))) 74 77 = (gi I44 74 77) from ((gi_cell _ _ _ _ (by decide)).trans (gi_cell _ _ _ _ (by decide)))]
                      refine st_iconst (pc' := 235) dX12_readsOn_234 rfl ?_
                      refine st_iadd (pc' := 236) dX12_readsOn_235 rfl ?_
                      refine P_X12_246_74 dX12_readsOn_236 (pc' := 239) rfl rfl ?_
                      refine st_aload_n (pc' := 240) dX12_readsOn_239 rfl rfl (j := 5) rfl ?_
                      refine st_iload_n (pc' := 241) dX12_readsOn_240 rfl rfl (j := 6) rfl ?_
                      refine st_iload_n (pc' := 242) dX12_readsOn_241 rfl rfl (j := 7) rfl ?_
                      refine st_iload (pc' := 244) dX12_readsOn_242 rfl (j := 10) rfl ?_
                      refine st_callV (pc' := 247) (kc := k - 1) (E' := LAY) (cal := m_X12_writesDown) (n := 3) (as := [vI x1, vI x2, vI x5]) (S := []) dX12_readsOn_244 rfl l_X12_537 k_X12_writesDown rfl L_74 c_X12 rfl rfl (Nat.le_of_ble_eq_true rfl) (by omega) ⟨Nat.le_refl _, Nat.le_refl _, Nat.le_refl _, Nat.le_refl _⟩ h (fun r M' q => ?_)
                      obtain ⟨I47, J48, rfl, rfl, h⟩ := q
                      change WP _ LAY m_X12_readsOn 247 [(6, vI 1), (10, vI 1), (9, vI (x3 - (gi I30 122 (x2).toNat))), (8, vI (v29 - (gi I 114 (x4).toNat))), (7, vI (gi I 114 (x4).toNat)), (0, vR (some 74)), (1, vI x1), (2, vI x2), (3, vI x3), (4, vI x4), (5, vI x5)] [] (mem (P, some 5, some 22) I47 J48) Q
                      refine st_aload_n (pc' := 248) dX12_readsOn_247 rfl rfl (j := 5) rfl ?_
                      refine st_iload_n (pc' := 249) dX12_readsOn_248 rfl rfl (j := 6) rfl ?_
                      refine st_iload_n (pc' := 250) dX12_readsOn_249 rfl rfl (j := 7) rfl ?_
                      refine st_callV (pc' := 253) (kc := k - 1) (E' := LAY) (cal := m_X12_nextPage) (n := 2) (as := [vI x1, vI x2]) (S := []) dX12_readsOn_250 rfl l_X12_527 k_X12_nextPage rfl L_74 c_X12 rfl rfl (Nat.le_of_ble_eq_true rfl) (by omega) ⟨Nat.le_refl _, Nat.le_refl _, Nat.le_refl _, Nat.le_refl _⟩ h (fun r M' q => ?_)
                      obtain ⟨v49, I50, J51, rfl, rfl, h⟩ := q
                      change WP _ LAY m_X12_readsOn 253 [(6, vI 1), (10, vI 1), (9, vI (x3 - (gi I30 122 (x2).toNat))), (8, vI (v29 - (gi I 114 (x4).toNat))), (7, vI (gi I 114 (x4).toNat)), (0, vR (some 74)), (1, vI x1), (2, vI x2), (3, vI x3), (4, vI x4), (5, vI x5)] [vI v49] (mem (P, some 5, some 22) I50 J51) Q
                      refine st_istore (pc' := 255) (L' := [(5, vI v49), (6, vI 1), (10, vI 1), (9, vI (x3 - (gi I30 122 (x2).toNat))), (8, vI (v29 - (gi I 114 (x4).toNat))), (7, vI (gi I 114 (x4).toNat)), (0, vR (some 74)), (1, vI x1), (2, vI x2), (3, vI x3), (4, vI x4)]) dX12_readsOn_253 rfl (by decide) rfl ?_
                      refine st_goto (pc' := 33) dX12_readsOn_255 (by decide) ?_
                      refine WP_sub (L' := [(0, vR (some 74)), (1, vI x1), (2, vI x2), (3, vI x3), (4, vI x4), (5, vI v49), (6, vI 1)]) [6, 7, 8, 9, 10, 0, 1] rfl ?_
                      exact h
end WM2

section WX10
set_option maxRecDepth 20000 in
set_option maxHeartbeats 4000000 in
theorem B_X10_endOfNumber_0 {k : Nat} {P : Option Nat} {I : Nat → Nat → Int32} {J : Nat → Nat → Int64}  {Q : Option AV → Mem → Prop} (hk : 0 ≤ k) (h : WP k LAY m_X10_endOfNumber 5 [(0, vR (some 1)), (1, vI (gi I 1 3))] [] (mem (P, some 5, some 22) I J) Q) : WP k LAY m_X10_endOfNumber 0 [(0, vR (some 1))] [] (mem (P, some 5, some 22) I J) Q := by
  refine st_aload_n (pc' := 1) dX10_endOfNumber_0 rfl rfl (j := 0) rfl ?_
  refine G_X10_28_1 dX10_endOfNumber_1 (pc' := 4) rfl rfl ?_
  refine st_istore_n (pc' := 5) (L' := [(1, vI (gi I 1 3)), (0, vR (some 1))]) dX10_endOfNumber_4 rfl rfl (by decide) rfl ?_
  refine WP_sub (L' := [(0, vR (some 1)), (1, vI (gi I 1 3))]) [1, 0] rfl ?_
  exact h
set_option maxRecDepth 20000 in
set_option maxHeartbeats 4000000 in
theorem B_X10_endOfNumber_5 {k : Nat} {P : Option Nat} {I : Nat → Nat → Int32} {J : Nat → Nat → Int64} {x1 : Int} {Q : Option AV → Mem → Prop} (hk : 1 ≤ k) (h : inR x1 ∧ (((gi I 1 1) ≤ x1 → (Q (some (vI x1)) (mem (P, some 5, some 22) I J))) ∧ (¬ (gi I 1 1) ≤ x1 → ((0 ≤ x1 ∧ x1 < 1600) ∧ ((¬ (48 ≤ (gi I 2 (x1).toNat) ∧ (gi I 2 (x1).toNat) ≤ 57) → (Q (some (vI x1)) (mem (P, some 5, some 22) I J))) ∧ ((48 ≤ (gi I 2 (x1).toNat) ∧ (gi I 2 (x1).toNat) ≤ 57) → (WP k LAY m_X10_endOfNumber 5 [(0, vR (some 1)), (1, vI (x1 + 1))] [] (mem (P, some 5, some 22) I J) Q))))))) : WP k LAY m_X10_endOfNumber 5 [(0, vR (some 1)), (1, vI x1)] [] (mem (P, some 5, some 22) I J) Q := by
  refine st_iload_n (pc' := 6) dX10_endOfNumber_5 rfl rfl (j := 1) rfl ?_
  refine st_aload_n (pc' := 7) dX10_endOfNumber_6 rfl rfl (j := 0) rfl ?_
  refine G_X10_15_1 dX10_endOfNumber_7 (pc' := 10) rfl rfl ?_
  obtain ⟨e1, h⟩ := h
  refine st_icmp_ge (tg := 31) (pc' := 13) dX10_endOfNumber_10 (by decide) rfl e1 (gi_in _ _ _) (fun c => ?_) (fun c => ?_)
  · replace h := h.1 c
    refine st_iload_n (pc' := 32) dX10_endOfNumber_31 rfl rfl (j := 1) rfl ?_
    exact st_iret (ty := .int) dX10_endOfNumber_32 rfl rfl rfl h
  · replace h := h.2 c
    refine st_aload_n (pc' := 14) dX10_endOfNumber_13 rfl rfl (j := 0) rfl ?_
    refine G_X10_9_1 dX10_endOfNumber_14 (pc' := 17) rfl rfl ?_
    refine st_iload_n (pc' := 18) dX10_endOfNumber_17 rfl rfl (j := 1) rfl ?_
    obtain ⟨e2, h⟩ := h
    refine st_iaload (pc' := 19) (v := (gi I 2 (x1).toNat)) dX10_endOfNumber_18 rfl L_2 (by decide) e2 (show gi I 2 (x1).toNat = (gi I 2 (x1).toNat) from rfl) ?_
    refine st_callS (pc' := 22) (kc := k - 1) (E' := LAY) (cal := m_X10_isDigit) (n := 1) (as := [vI (gi I 2 (x1).toNat)]) (S := []) dX10_endOfNumber_19 rfl l_X10_49 k_X10_isDigit rfl rfl (Nat.le_of_ble_eq_true rfl) (by omega) ⟨Nat.le_refl _, Nat.le_refl _, Nat.le_refl _, Nat.le_refl _⟩ (Q1 := fun r M' => WP k LAY m_X10_endOfNumber 22 [(0, vR (some 1)), (1, vI x1)] (r.toList ++ []) M' Q) (S_X10_isDigit (by omega) (gi_in _ _ _) ?_) (fun r M' q => q)
    change WP _ LAY m_X10_endOfNumber 22 [(0, vR (some 1)), (1, vI x1)] [vI (b2i (48 ≤ (gi I 2 (x1).toNat) ∧ (gi I 2 (x1).toNat) ≤ 57))] (mem (P, some 5, some 22) I J) Q
    refine st_if_eq (tg := 31) (pc' := 25) dX10_endOfNumber_22 (by decide) rfl (b2i_in _) (fun c => ?_) (fun c => ?_)
    · replace h := h.1 (b2i_f.mp c)
      refine st_iload_n (pc' := 32) dX10_endOfNumber_31 rfl rfl (j := 1) rfl ?_
      exact st_iret (ty := .int) dX10_endOfNumber_32 rfl rfl rfl h
    · replace h := h.2 (b2i_t.mp c)
      refine st_iinc (pc' := 28) (L' := [(1, vI (x1 + 1)), (0, vR (some 1))]) (j := 1) dX10_endOfNumber_25 rfl (by decide) rfl rfl ?_
      refine st_goto (pc' := 5) dX10_endOfNumber_28 (by decide) ?_
      refine WP_sub (L' := [(0, vR (some 1)), (1, vI (x1 + 1))]) [1, 0] rfl ?_
      exact h
set_option maxRecDepth 20000 in
set_option maxHeartbeats 4000000 in
theorem B_X10_endOfWord_0 {k : Nat} {P : Option Nat} {I : Nat → Nat → Int32} {J : Nat → Nat → Int64}  {Q : Option AV → Mem → Prop} (hk : 0 ≤ k) (h : WP k LAY m_X10_endOfWord 5 [(0, vR (some 1)), (1, vI (gi I 1 3))] [] (mem (P, some 5, some 22) I J) Q) : WP k LAY m_X10_endOfWord 0 [(0, vR (some 1))] [] (mem (P, some 5, some 22) I J) Q := by
  refine st_aload_n (pc' := 1) dX10_endOfWord_0 rfl rfl (j := 0) rfl ?_
  refine G_X10_28_1 dX10_endOfWord_1 (pc' := 4) rfl rfl ?_
  refine st_istore_n (pc' := 5) (L' := [(1, vI (gi I 1 3)), (0, vR (some 1))]) dX10_endOfWord_4 rfl rfl (by decide) rfl ?_
  refine WP_sub (L' := [(0, vR (some 1)), (1, vI (gi I 1 3))]) [1, 0] rfl ?_
  exact h
set_option maxRecDepth 20000 in
set_option maxHeartbeats 4000000 in
theorem B_X10_endOfWord_5 {k : Nat} {P : Option Nat} {I : Nat → Nat → Int32} {J : Nat → Nat → Int64} {x1 : Int} {Q : Option AV → Mem → Prop} (hk : 1 ≤ k) (h : inR x1 ∧ (((gi I 1 1) ≤ x1 → (Q (some (vI x1)) (mem (P, some 5, some 22) I J))) ∧ (¬ (gi I 1 1) ≤ x1 → ((0 ≤ x1 ∧ x1 < 1600) ∧ ((¬ (97 ≤ (gi I 2 (x1).toNat) ∧ (gi I 2 (x1).toNat) ≤ 122) → (Q (some (vI x1)) (mem (P, some 5, some 22) I J))) ∧ ((97 ≤ (gi I 2 (x1).toNat) ∧ (gi I 2 (x1).toNat) ≤ 122) → (WP k LAY m_X10_endOfWord 5 [(0, vR (some 1)), (1, vI (x1 + 1))] [] (mem (P, some 5, some 22) I J) Q))))))) : WP k LAY m_X10_endOfWord 5 [(0, vR (some 1)), (1, vI x1)] [] (mem (P, some 5, some 22) I J) Q := by
  refine st_iload_n (pc' := 6) dX10_endOfWord_5 rfl rfl (j := 1) rfl ?_
  refine st_aload_n (pc' := 7) dX10_endOfWord_6 rfl rfl (j := 0) rfl ?_
  refine G_X10_15_1 dX10_endOfWord_7 (pc' := 10) rfl rfl ?_
  obtain ⟨e1, h⟩ := h
  refine st_icmp_ge (tg := 31) (pc' := 13) dX10_endOfWord_10 (by decide) rfl e1 (gi_in _ _ _) (fun c => ?_) (fun c => ?_)
  · replace h := h.1 c
    refine st_iload_n (pc' := 32) dX10_endOfWord_31 rfl rfl (j := 1) rfl ?_
    exact st_iret (ty := .int) dX10_endOfWord_32 rfl rfl rfl h
  · replace h := h.2 c
    refine st_aload_n (pc' := 14) dX10_endOfWord_13 rfl rfl (j := 0) rfl ?_
    refine G_X10_9_1 dX10_endOfWord_14 (pc' := 17) rfl rfl ?_
    refine st_iload_n (pc' := 18) dX10_endOfWord_17 rfl rfl (j := 1) rfl ?_
    obtain ⟨e2, h⟩ := h
    refine st_iaload (pc' := 19) (v := (gi I 2 (x1).toNat)) dX10_endOfWord_18 rfl L_2 (by decide) e2 (show gi I 2 (x1).toNat = (gi I 2 (x1).toNat) from rfl) ?_
    refine st_callS (pc' := 22) (kc := k - 1) (E' := LAY) (cal := m_X10_isLetter) (n := 1) (as := [vI (gi I 2 (x1).toNat)]) (S := []) dX10_endOfWord_19 rfl l_X10_38 k_X10_isLetter rfl rfl (Nat.le_of_ble_eq_true rfl) (by omega) ⟨Nat.le_refl _, Nat.le_refl _, Nat.le_refl _, Nat.le_refl _⟩ (Q1 := fun r M' => WP k LAY m_X10_endOfWord 22 [(0, vR (some 1)), (1, vI x1)] (r.toList ++ []) M' Q) (S_X10_isLetter (by omega) (gi_in _ _ _) ?_) (fun r M' q => q)
    change WP _ LAY m_X10_endOfWord 22 [(0, vR (some 1)), (1, vI x1)] [vI (b2i (97 ≤ (gi I 2 (x1).toNat) ∧ (gi I 2 (x1).toNat) ≤ 122))] (mem (P, some 5, some 22) I J) Q
    refine st_if_eq (tg := 31) (pc' := 25) dX10_endOfWord_22 (by decide) rfl (b2i_in _) (fun c => ?_) (fun c => ?_)
    · replace h := h.1 (b2i_f.mp c)
      refine st_iload_n (pc' := 32) dX10_endOfWord_31 rfl rfl (j := 1) rfl ?_
      exact st_iret (ty := .int) dX10_endOfWord_32 rfl rfl rfl h
    · replace h := h.2 (b2i_t.mp c)
      refine st_iinc (pc' := 28) (L' := [(1, vI (x1 + 1)), (0, vR (some 1))]) (j := 1) dX10_endOfWord_25 rfl (by decide) rfl rfl ?_
      refine st_goto (pc' := 5) dX10_endOfWord_28 (by decide) ?_
      refine WP_sub (L' := [(0, vR (some 1)), (1, vI (x1 + 1))]) [1, 0] rfl ?_
      exact h
set_option maxRecDepth 20000 in
set_option maxHeartbeats 4000000 in
theorem B_X10_number_0 {k : Nat} {P : Option Nat} {I : Nat → Nat → Int32} {J : Nat → Nat → Int64}  {Q : Option AV → Mem → Prop} (hk : 0 ≤ k) (h : WP k LAY m_X10_number 7 [(0, vR (some 1)), (1, vI 0), (2, vI (gi I 1 3))] [] (mem (P, some 5, some 22) I J) Q) : WP k LAY m_X10_number 0 [(0, vR (some 1))] [] (mem (P, some 5, some 22) I J) Q := by
  refine st_iconst (pc' := 1) dX10_number_0 rfl ?_
  refine st_istore_n (pc' := 2) (L' := [(1, vI 0), (0, vR (some 1))]) dX10_number_1 rfl rfl (by decide) rfl ?_
  refine st_aload_n (pc' := 3) dX10_number_2 rfl rfl (j := 1) rfl ?_
  refine G_X10_28_1 dX10_number_3 (pc' := 6) rfl rfl ?_
  refine st_istore_n (pc' := 7) (L' := [(2, vI (gi I 1 3)), (1, vI 0), (0, vR (some 1))]) dX10_number_6 rfl rfl (by decide) rfl ?_
  refine WP_sub (L' := [(0, vR (some 1)), (1, vI 0), (2, vI (gi I 1 3))]) [2, 1, 0] rfl ?_
  exact h
set_option maxRecDepth 20000 in
set_option maxHeartbeats 4000000 in
theorem B_X10_number_7 {k : Nat} {P : Option Nat} {I : Nat → Nat → Int32} {J : Nat → Nat → Int64} {x1 : Int} {x2 : Int} {Q : Option AV → Mem → Prop} (hk : 0 ≤ k) (h : inR x2 ∧ (((gi I 1 4) ≤ x2 → (Q (some (vI x1)) (mem (P, some 5, some 22) I J))) ∧ (¬ (gi I 1 4) ≤ x2 → (inR ((gi I 1 3) + 4) ∧ ((((gi I 1 3) + 4) ≤ x2 → (Q (some (vI x1)) (mem (P, some 5, some 22) I J))) ∧ (¬ ((gi I 1 3) + 4) ≤ x2 → ((0 ≤ x2 ∧ x2 < 1600) ∧ (WP k LAY m_X10_number 7 [(0, vR (some 1)), (1, vI (((x1 * 10) + (gi I 2 (x2).toNat)) - 48)), (2, vI (x2 + 1))] [] (mem (P, some 5, some 22) I J) Q)))))))) : WP k LAY m_X10_number 7 [(0, vR (some 1)), (1, vI x1), (2, vI x2)] [] (mem (P, some 5, some 22) I J) Q := by
  refine st_iload_n (pc' := 8) dX10_number_7 rfl rfl (j := 2) rfl ?_
  refine st_aload_n (pc' := 9) dX10_number_8 rfl rfl (j := 0) rfl ?_
  refine G_X10_19_1 dX10_number_9 (pc' := 12) rfl rfl ?_
  obtain ⟨e1, h⟩ := h
  refine st_icmp_ge (tg := 46) (pc' := 15) dX10_number_12 (by decide) rfl e1 (gi_in _ _ _) (fun c => ?_) (fun c => ?_)
  · replace h := h.1 c
    refine st_iload_n (pc' := 47) dX10_number_46 rfl rfl (j := 1) rfl ?_
    exact st_iret (ty := .int) dX10_number_47 rfl rfl rfl h
  · replace h := h.2 c
    refine st_iload_n (pc' := 16) dX10_number_15 rfl rfl (j := 2) rfl ?_
    refine st_aload_n (pc' := 17) dX10_number_16 rfl rfl (j := 0) rfl ?_
    refine G_X10_28_1 dX10_number_17 (pc' := 20) rfl rfl ?_
    refine st_iconst (pc' := 21) dX10_number_20 rfl ?_
    refine st_iadd (pc' := 22) dX10_number_21 rfl ?_
    obtain ⟨e2, h⟩ := h
    refine st_icmp_ge (tg := 46) (pc' := 25) dX10_number_22 (by decide) rfl e1 e2 (fun c => ?_) (fun c => ?_)
    · replace h := h.1 c
      refine st_iload_n (pc' := 47) dX10_number_46 rfl rfl (j := 1) rfl ?_
      exact st_iret (ty := .int) dX10_number_47 rfl rfl rfl h
    · replace h := h.2 c
      refine st_iload_n (pc' := 26) dX10_number_25 rfl rfl (j := 1) rfl ?_
      refine st_bipush (pc' := 28) dX10_number_26 rfl (by decide) ?_
      refine st_imul (pc' := 29) dX10_number_28 rfl ?_
      refine st_aload_n (pc' := 30) dX10_number_29 rfl rfl (j := 0) rfl ?_
      refine G_X10_9_1 dX10_number_30 (pc' := 33) rfl rfl ?_
      refine st_iload_n (pc' := 34) dX10_number_33 rfl rfl (j := 2) rfl ?_
      obtain ⟨e3, h⟩ := h
      refine st_iaload (pc' := 35) (v := (gi I 2 (x2).toNat)) dX10_number_34 rfl L_2 (by decide) e3 (show gi I 2 (x2).toNat = (gi I 2 (x2).toNat) from rfl) ?_
      refine st_iadd (pc' := 36) dX10_number_35 rfl ?_
      refine st_bipush (pc' := 38) dX10_number_36 rfl (by decide) ?_
      refine st_isub (pc' := 39) dX10_number_38 rfl ?_
      refine st_istore_n (pc' := 40) (L' := [(1, vI (((x1 * 10) + (gi I 2 (x2).toNat)) - 48)), (0, vR (some 1)), (2, vI x2)]) dX10_number_39 rfl rfl (by decide) rfl ?_
      refine st_iinc (pc' := 43) (L' := [(2, vI (x2 + 1)), (1, vI (((x1 * 10) + (gi I 2 (x2).toNat)) - 48)), (0, vR (some 1))]) (j := 2) dX10_number_40 rfl (by decide) rfl rfl ?_
      refine st_goto (pc' := 7) dX10_number_43 (by decide) ?_
      refine WP_sub (L' := [(0, vR (some 1)), (1, vI (((x1 * 10) + (gi I 2 (x2).toNat)) - 48)), (2, vI (x2 + 1))]) [2, 1, 0] rfl ?_
      exact h
set_option maxRecDepth 20000 in
set_option maxHeartbeats 4000000 in
theorem B_X10_put_0 {k : Nat} {P : Option Nat} {I : Nat → Nat → Int32} {J : Nat → Nat → Int64} {x1 : Int} {Q : Option AV → Mem → Prop} (hk : 0 ≤ k) (h : WP k LAY m_X10_put 3 [(0, vR (some 1)), (1, vI x1), (2, vI 24)] [] (mem (P, some 5, some 22) I J) Q) : WP k LAY m_X10_put 0 [(0, vR (some 1)), (1, vI x1)] [] (mem (P, some 5, some 22) I J) Q := by
  refine st_bipush (pc' := 2) dX10_put_0 rfl (by decide) ?_
  refine st_istore_n (pc' := 3) (L' := [(2, vI 24), (0, vR (some 1)), (1, vI x1)]) dX10_put_2 rfl rfl (by decide) rfl ?_
  refine WP_sub (L' := [(0, vR (some 1)), (1, vI x1), (2, vI 24)]) [1, 2, 0] rfl ?_
  exact h
set_option maxRecDepth 20000 in
set_option maxHeartbeats 4000000 in
theorem B_X10_put_3 {k : Nat} {P : Option Nat} {I : Nat → Nat → Int32} {J : Nat → Nat → Int64} {x1 : Int} {x2 : Int} {Q : Option AV → Mem → Prop} (hk : 0 ≤ k) (h : inR x2 ∧ ((x2 < 0 → (Q none (mem (P, some 5, some 22) I J))) ∧ (¬ x2 < 0 → ((1600 ≤ (gi I 1 1) → (Q none (mem (P, some 5, some 22) I J))) ∧ (¬ 1600 ≤ (gi I 1 1) → ((0 ≤ (gi I 1 1) ∧ (gi I 1 1) < 1600) ∧ (WP k LAY m_X10_put 3 [(0, vR (some 1)), (1, vI x1), (2, vI (x2 + (-8)))] [] (mem (P, some 5, some 22) (si (si I 2 (gi I 1 1).toNat (and32 (ushr32 x1 x2) 255)) 1 1 ((gi I 1 1) + 1)) J) Q))))))) : WP k LAY m_X10_put 3 [(0, vR (some 1)), (1, vI x1), (2, vI x2)] [] (mem (P, some 5, some 22) I J) Q := by
  refine st_iload_n (pc' := 4) dX10_put_3 rfl rfl (j := 2) rfl ?_
  obtain ⟨e1, h⟩ := h
  refine st_if_lt (tg := 49) (pc' := 7) dX10_put_4 (by decide) rfl e1 (fun c => ?_) (fun c => ?_)
  · replace h := h.1 c
    exact st_vret dX10_put_49 rfl rfl h
  · replace h := h.2 c
    refine st_aload_n (pc' := 8) dX10_put_7 rfl rfl (j := 0) rfl ?_
    refine G_X10_15_1 dX10_put_8 (pc' := 11) rfl rfl ?_
    refine st_sipush (pc' := 14) dX10_put_11 rfl (by decide) ?_
    refine st_icmp_ge (tg := 49) (pc' := 17) dX10_put_14 (by decide) rfl (gi_in _ _ _) (by decide) (fun c => ?_) (fun c => ?_)
    · replace h := h.1 c
      exact st_vret dX10_put_49 rfl rfl h
    · replace h := h.2 c
      refine st_aload_n (pc' := 18) dX10_put_17 rfl rfl (j := 0) rfl ?_
      refine G_X10_9_1 dX10_put_18 (pc' := 21) rfl rfl ?_
      refine st_aload_n (pc' := 22) dX10_put_21 rfl rfl (j := 0) rfl ?_
      refine G_X10_15_1 dX10_put_22 (pc' := 25) rfl rfl ?_
      refine st_iload_n (pc' := 26) dX10_put_25 rfl rfl (j := 1) rfl ?_
      refine st_iload_n (pc' := 27) dX10_put_26 rfl rfl (j := 2) rfl ?_
      refine st_iushr (pc' := 28) (z := (ushr32 x1 x2)) dX10_put_27 rfl rfl ?_
      refine st_sipush (pc' := 31) dX10_put_28 rfl (by decide) ?_
      refine st_iand (pc' := 32) (z := (and32 (ushr32 x1 x2) 255)) dX10_put_31 rfl rfl ?_
      obtain ⟨e2, h⟩ := h
      refine st_iastore (pc' := 33) (M' := (mem (P, some 5, some 22) (si I 2 (gi I 1 1).toNat (and32 (ushr32 x1 x2) 255)) J)) dX10_put_32 rfl L_2 (by decide) e2 rfl ?_
      refine st_aload_n (pc' := 34) dX10_put_33 rfl rfl (j := 0) rfl ?_
      refine st_dup (pc' := 35) dX10_put_34 rfl rfl ?_
      refine G_X10_15_1 dX10_put_35 (pc' := 38) rfl rfl ?_
      rw [show gi (si I 2 (gi I 1 1).toNat (and32 (ushr32 x1 x2) 255)) 1 1 = (gi I 1 1) from (gi_cell _ _ _ _ (by decide))]
      refine st_iconst (pc' := 39) dX10_put_38 rfl ?_
      refine st_iadd (pc' := 40) dX10_put_39 rfl ?_
      refine P_X10_15_1 dX10_put_40 (pc' := 43) rfl rfl ?_
      refine st_iinc (pc' := 46) (L' := [(2, vI (x2 + (-8))), (0, vR (some 1)), (1, vI x1)]) (j := 2) dX10_put_43 rfl (by decide) rfl rfl ?_
      refine st_goto (pc' := 3) dX10_put_46 (by decide) ?_
      refine WP_sub (L' := [(0, vR (some 1)), (1, vI x1), (2, vI (x2 + (-8)))]) [1, 2, 0] rfl ?_
      exact h
set_option maxRecDepth 20000 in
set_option maxHeartbeats 4000000 in
theorem B_X10_step_0 {k : Nat} {P : Option Nat} {I : Nat → Nat → Int32} {J : Nat → Nat → Int64}  {Q : Option AV → Mem → Prop} (hk : 0 ≤ k) (h : ((gi I 1 2) = 1 → (WP k LAY m_X10_step 29 [(0, vR (some 1))] [vI 1] (mem (P, some 5, some 22) I J) Q)) ∧ (¬ (gi I 1 2) = 1 → (((gi I 1 2) = 2 → (WP k LAY m_X10_step 29 [(0, vR (some 1))] [vI 1] (mem (P, some 5, some 22) I J) Q)) ∧ (¬ (gi I 1 2) = 2 → ((¬ (gi I 1 2) = 3 → (WP k LAY m_X10_step 29 [(0, vR (some 1))] [vI 0] (mem (P, some 5, some 22) I J) Q)) ∧ ((gi I 1 2) = 3 → (WP k LAY m_X10_step 29 [(0, vR (some 1))] [vI 1] (mem (P, some 5, some 22) I J) Q))))))) : WP k LAY m_X10_step 0 [(0, vR (some 1))] [] (mem (P, some 5, some 22) I J) Q := by
  refine st_aload_n (pc' := 1) dX10_step_0 rfl rfl (j := 0) rfl ?_
  refine G_X10_22_1 dX10_step_1 (pc' := 4) rfl rfl ?_
  refine st_iconst (pc' := 5) dX10_step_4 rfl ?_
  refine st_icmp_eq (tg := 24) (pc' := 8) dX10_step_5 (by decide) rfl (gi_in _ _ _) (by decide) (fun c => ?_) (fun c => ?_)
  · replace h := h.1 c
    refine st_iconst (pc' := 25) dX10_step_24 rfl ?_
    refine st_goto (pc' := 29) dX10_step_25 (by decide) ?_
    exact h
  · replace h := h.2 c
    refine st_aload_n (pc' := 9) dX10_step_8 rfl rfl (j := 0) rfl ?_
    refine G_X10_22_1 dX10_step_9 (pc' := 12) rfl rfl ?_
    refine st_iconst (pc' := 13) dX10_step_12 rfl ?_
    refine st_icmp_eq (tg := 24) (pc' := 16) dX10_step_13 (by decide) rfl (gi_in _ _ _) (by decide) (fun c => ?_) (fun c => ?_)
    · replace h := h.1 c
      refine st_iconst (pc' := 25) dX10_step_24 rfl ?_
      refine st_goto (pc' := 29) dX10_step_25 (by decide) ?_
      exact h
    · replace h := h.2 c
      refine st_aload_n (pc' := 17) dX10_step_16 rfl rfl (j := 0) rfl ?_
      refine G_X10_22_1 dX10_step_17 (pc' := 20) rfl rfl ?_
      refine st_iconst (pc' := 21) dX10_step_20 rfl ?_
      refine st_icmp_ne (tg := 28) (pc' := 24) dX10_step_21 (by decide) rfl (gi_in _ _ _) (by decide) (fun c => ?_) (fun c => ?_)
      · replace h := h.1 c
        refine st_iconst (pc' := 29) dX10_step_28 rfl ?_
        exact h
      · replace h := h.2 c
        refine st_iconst (pc' := 25) dX10_step_24 rfl ?_
        refine st_goto (pc' := 29) dX10_step_25 (by decide) ?_
        exact h
set_option maxRecDepth 20000 in
set_option maxHeartbeats 4000000 in
theorem B_X10_step_29 {k : Nat} {P : Option Nat} {I : Nat → Nat → Int32} {J : Nat → Nat → Int64} {s0 : Int} {Q : Option AV → Mem → Prop} (hk : 0 ≤ k) (h : WP k LAY m_X10_step 38 [(0, vR (some 1)), (1, vI s0)] [] (mem (P, some 5, some 22) (si I 1 3 (gi I 1 4)) J) Q) : WP k LAY m_X10_step 29 [(0, vR (some 1))] [vI s0] (mem (P, some 5, some 22) I J) Q := by
  refine st_istore_n (pc' := 30) (L' := [(1, vI s0), (0, vR (some 1))]) dX10_step_29 rfl rfl (by decide) rfl ?_
  refine st_aload_n (pc' := 31) dX10_step_30 rfl rfl (j := 1) rfl ?_
  refine st_aload_n (pc' := 32) dX10_step_31 rfl rfl (j := 1) rfl ?_
  refine G_X10_19_1 dX10_step_32 (pc' := 35) rfl rfl ?_
  refine P_X10_28_1 dX10_step_35 (pc' := 38) rfl rfl ?_
  refine WP_sub (L' := [(0, vR (some 1)), (1, vI s0)]) [1, 0] rfl ?_
  exact h
set_option maxRecDepth 20000 in
set_option maxHeartbeats 4000000 in
theorem B_X10_step_38 {k : Nat} {P : Option Nat} {I : Nat → Nat → Int32} {J : Nat → Nat → Int64} {x1 : Int} {Q : Option AV → Mem → Prop} (hk : 0 ≤ k) (h : ((gi I 1 1) ≤ (gi I 1 3) → (WP k LAY m_X10_step 90 [(0, vR (some 1)), (1, vI x1)] [] (mem (P, some 5, some 22) I J) Q)) ∧ (¬ (gi I 1 1) ≤ (gi I 1 3) → ((0 ≤ (gi I 1 3) ∧ (gi I 1 3) < 1600) ∧ (((gi I 2 (gi I 1 3).toNat) = 10 → (WP k LAY m_X10_step 38 [(0, vR (some 1)), (1, vI x1)] [] (mem (P, some 5, some 22) (si I 1 3 ((gi I 1 3) + 1)) J) Q)) ∧ (¬ (gi I 2 (gi I 1 3).toNat) = 10 → ((¬ (gi I 2 (gi I 1 3).toNat) = 32 → (WP k LAY m_X10_step 90 [(0, vR (some 1)), (1, vI x1)] [] (mem (P, some 5, some 22) I J) Q)) ∧ ((gi I 2 (gi I 1 3).toNat) = 32 → (WP k LAY m_X10_step 38 [(0, vR (some 1)), (1, vI x1)] [] (mem (P, some 5, some 22) (si I 1 3 ((gi I 1 3) + 1)) J) Q)))))))) : WP k LAY m_X10_step 38 [(0, vR (some 1)), (1, vI x1)] [] (mem (P, some 5, some 22) I J) Q := by
  refine st_aload_n (pc' := 39) dX10_step_38 rfl rfl (j := 0) rfl ?_
  refine G_X10_28_1 dX10_step_39 (pc' := 42) rfl rfl ?_
  refine st_aload_n (pc' := 43) dX10_step_42 rfl rfl (j := 0) rfl ?_
  refine G_X10_15_1 dX10_step_43 (pc' := 46) rfl rfl ?_
  refine st_icmp_ge (tg := 90) (pc' := 49) dX10_step_46 (by decide) rfl (gi_in _ _ _) (gi_in _ _ _) (fun c => ?_) (fun c => ?_)
  · replace h := h.1 c
    exact h
  · replace h := h.2 c
    refine st_aload_n (pc' := 50) dX10_step_49 rfl rfl (j := 0) rfl ?_
    refine G_X10_9_1 dX10_step_50 (pc' := 53) rfl rfl ?_
    refine st_aload_n (pc' := 54) dX10_step_53 rfl rfl (j := 0) rfl ?_
    refine G_X10_28_1 dX10_step_54 (pc' := 57) rfl rfl ?_
    obtain ⟨e1, h⟩ := h
    refine st_iaload (pc' := 58) (v := (gi I 2 (gi I 1 3).toNat)) dX10_step_57 rfl L_2 (by decide) e1 (show gi I 2 (gi I 1 3).toNat = (gi I 2 (gi I 1 3).toNat) from rfl) ?_
    refine st_bipush (pc' := 60) dX10_step_58 rfl (by decide) ?_
    refine st_icmp_eq (tg := 77) (pc' := 63) dX10_step_60 (by decide) rfl (gi_in _ _ _) (by decide) (fun c => ?_) (fun c => ?_)
    · replace h := h.1 c
      refine st_aload_n (pc' := 78) dX10_step_77 rfl rfl (j := 0) rfl ?_
      refine st_dup (pc' := 79) dX10_step_78 rfl rfl ?_
      refine G_X10_28_1 dX10_step_79 (pc' := 82) rfl rfl ?_
      refine st_iconst (pc' := 83) dX10_step_82 rfl ?_
      refine st_iadd (pc' := 84) dX10_step_83 rfl ?_
      refine P_X10_28_1 dX10_step_84 (pc' := 87) rfl rfl ?_
      refine st_goto (pc' := 38) dX10_step_87 (by decide) ?_
      exact h
    · replace h := h.2 c
      refine st_aload_n (pc' := 64) dX10_step_63 rfl rfl (j := 0) rfl ?_
      refine G_X10_9_1 dX10_step_64 (pc' := 67) rfl rfl ?_
      refine st_aload_n (pc' := 68) dX10_step_67 rfl rfl (j := 0) rfl ?_
      refine G_X10_28_1 dX10_step_68 (pc' := 71) rfl rfl ?_
      refine st_iaload (pc' := 72) (v := (gi I 2 (gi I 1 3).toNat)) dX10_step_71 rfl L_2 (by decide) e1 (show gi I 2 (gi I 1 3).toNat = (gi I 2 (gi I 1 3).toNat) from rfl) ?_
      refine st_bipush (pc' := 74) dX10_step_72 rfl (by decide) ?_
      refine st_icmp_ne (tg := 90) (pc' := 77) dX10_step_74 (by decide) rfl (gi_in _ _ _) (by decide) (fun c => ?_) (fun c => ?_)
      · replace h := h.1 c
        exact h
      · replace h := h.2 c
        refine st_aload_n (pc' := 78) dX10_step_77 rfl rfl (j := 0) rfl ?_
        refine st_dup (pc' := 79) dX10_step_78 rfl rfl ?_
        refine G_X10_28_1 dX10_step_79 (pc' := 82) rfl rfl ?_
        refine st_iconst (pc' := 83) dX10_step_82 rfl ?_
        refine st_iadd (pc' := 84) dX10_step_83 rfl ?_
        refine P_X10_28_1 dX10_step_84 (pc' := 87) rfl rfl ?_
        refine st_goto (pc' := 38) dX10_step_87 (by decide) ?_
        exact h
set_option maxRecDepth 20000 in
set_option maxHeartbeats 4000000 in
theorem B_X10_step_90 {k : Nat} {P : Option Nat} {I : Nat → Nat → Int32} {J : Nat → Nat → Int64} {x1 : Int} {Q : Option AV → Mem → Prop} (hk : 0 ≤ k) (h : inR x1 ∧ ((x1 = 0 → (WP k LAY m_X10_step 111 [(0, vR (some 1)), (2, vI 0)] [] (mem (P, some 5, some 22) I J) Q)) ∧ (¬ x1 = 0 → ((¬ (gi I 1 3) = (gi I 1 4) → (WP k LAY m_X10_step 111 [(0, vR (some 1)), (2, vI 0)] [] (mem (P, some 5, some 22) I J) Q)) ∧ ((gi I 1 3) = (gi I 1 4) → (WP k LAY m_X10_step 111 [(0, vR (some 1)), (2, vI 1)] [] (mem (P, some 5, some 22) I J) Q)))))) : WP k LAY m_X10_step 90 [(0, vR (some 1)), (1, vI x1)] [] (mem (P, some 5, some 22) I J) Q := by
  refine st_iload_n (pc' := 91) dX10_step_90 rfl rfl (j := 1) rfl ?_
  obtain ⟨e1, h⟩ := h
  refine st_if_eq (tg := 109) (pc' := 94) dX10_step_91 (by decide) rfl e1 (fun c => ?_) (fun c => ?_)
  · replace h := h.1 c
    refine st_iconst (pc' := 110) dX10_step_109 rfl ?_
    refine st_istore_n (pc' := 111) (L' := [(2, vI 0), (0, vR (some 1)), (1, vI x1)]) dX10_step_110 rfl rfl (by decide) rfl ?_
    refine WP_sub (L' := [(0, vR (some 1)), (2, vI 0)]) [1, 0] rfl ?_
    exact h
  · replace h := h.2 c
    refine st_aload_n (pc' := 95) dX10_step_94 rfl rfl (j := 0) rfl ?_
    refine G_X10_28_1 dX10_step_95 (pc' := 98) rfl rfl ?_
    refine st_aload_n (pc' := 99) dX10_step_98 rfl rfl (j := 0) rfl ?_
    refine G_X10_19_1 dX10_step_99 (pc' := 102) rfl rfl ?_
    refine st_icmp_ne (tg := 109) (pc' := 105) dX10_step_102 (by decide) rfl (gi_in _ _ _) (gi_in _ _ _) (fun c => ?_) (fun c => ?_)
    · replace h := h.1 c
      refine st_iconst (pc' := 110) dX10_step_109 rfl ?_
      refine st_istore_n (pc' := 111) (L' := [(2, vI 0), (0, vR (some 1)), (1, vI x1)]) dX10_step_110 rfl rfl (by decide) rfl ?_
      refine WP_sub (L' := [(0, vR (some 1)), (2, vI 0)]) [1, 0] rfl ?_
      exact h
    · replace h := h.2 c
      refine st_iconst (pc' := 106) dX10_step_105 rfl ?_
      refine st_goto (pc' := 110) dX10_step_106 (by decide) ?_
      refine st_istore_n (pc' := 111) (L' := [(2, vI 1), (0, vR (some 1)), (1, vI x1)]) dX10_step_110 rfl rfl (by decide) rfl ?_
      refine WP_sub (L' := [(0, vR (some 1)), (2, vI 1)]) [1, 0] rfl ?_
      exact h
set_option maxRecDepth 20000 in
set_option maxHeartbeats 4000000 in
theorem B_X10_step_111 {k : Nat} {P : Option Nat} {I : Nat → Nat → Int32} {J : Nat → Nat → Int64} {x2 : Int} {Q : Option AV → Mem → Prop} (hk : 1 ≤ k) (h : gi I 1 1 ≤ 1600 ∧ ((¬ (byt I (gi I 1 3)) = (-1) → ((¬ (byt I (gi I 1 3)) = (-1) → (WP k LAY m_X10_step 164 [(0, vR (some 1)), (2, vI x2), (3, vI (byt I (gi I 1 3))), (4, vI 1)] [] (mem (P, some 5, some 22) (si (si (si I 1 2 4) 1 5 (byt I (gi I 1 3))) 1 4 ((gi I 1 3) + 1)) J) Q)) ∧ ((byt I (gi I 1 3)) = (-1) → (WP k LAY m_X10_step 164 [(0, vR (some 1)), (2, vI x2), (3, vI (byt I (gi I 1 3))), (4, vI 1)] [] (mem (P, some 5, some 22) (si (si (si I 1 2 4) 1 5 (byt I (gi I 1 3))) 1 4 (gi I 1 3)) J) Q)))) ∧ ((byt I (gi I 1 3)) = (-1) → ((¬ (byt I (gi I 1 3)) = (-1) → (WP k LAY m_X10_step 164 [(0, vR (some 1)), (2, vI x2), (3, vI (byt I (gi I 1 3))), (4, vI 1)] [] (mem (P, some 5, some 22) (si (si (si I 1 2 0) 1 5 (byt I (gi I 1 3))) 1 4 ((gi I 1 3) + 1)) J) Q)) ∧ ((byt I (gi I 1 3)) = (-1) → (WP k LAY m_X10_step 164 [(0, vR (some 1)), (2, vI x2), (3, vI (byt I (gi I 1 3))), (4, vI 1)] [] (mem (P, some 5, some 22) (si (si (si I 1 2 0) 1 5 (byt I (gi I 1 3))) 1 4 (gi I 1 3)) J) Q)))))) : WP k LAY m_X10_step 111 [(0, vR (some 1)), (2, vI x2)] [] (mem (P, some 5, some 22) I J) Q := by
  refine st_aload_n (pc' := 112) dX10_step_111 rfl rfl (j := 0) rfl ?_
  refine st_aload_n (pc' := 113) dX10_step_112 rfl rfl (j := 0) rfl ?_
  refine G_X10_28_1 dX10_step_113 (pc' := 116) rfl rfl ?_
  obtain ⟨e1, h⟩ := h
  refine st_callV (pc' := 119) (kc := k - 1) (E' := LAY) (cal := m_X10_byteAt) (n := 1) (as := [vI (gi I 1 3)]) (S := []) dX10_step_116 rfl l_X10_31 k_X10_byteAt rfl L_1 c_X10 rfl rfl (Nat.le_of_ble_eq_true rfl) (by omega) ⟨Nat.le_refl _, Nat.le_refl _, Nat.le_refl _, Nat.le_refl _⟩ (Q1 := fun r M' => WP k LAY m_X10_step 119 [(0, vR (some 1)), (2, vI x2)] (r.toList ++ []) M' Q) (S_X10_byteAt (by omega) (gi_in _ _ _) e1 ?_) (fun r M' q => q)
  change WP _ LAY m_X10_step 119 [(0, vR (some 1)), (2, vI x2)] [vI (byt I (gi I 1 3))] (mem (P, some 5, some 22) I J) Q
  refine st_istore_n (pc' := 120) (L' := [(3, vI (byt I (gi I 1 3))), (0, vR (some 1)), (2, vI x2)]) dX10_step_119 rfl rfl (by decide) rfl ?_
  refine st_iconst (pc' := 121) dX10_step_120 rfl ?_
  refine st_istore (pc' := 123) (L' := [(4, vI 1), (3, vI (byt I (gi I 1 3))), (0, vR (some 1)), (2, vI x2)]) dX10_step_121 rfl (by decide) rfl ?_
  refine st_aload_n (pc' := 124) dX10_step_123 rfl rfl (j := 2) rfl ?_
  refine st_iload_n (pc' := 125) dX10_step_124 rfl rfl (j := 1) rfl ?_
  refine st_iconst (pc' := 126) dX10_step_125 rfl ?_
  refine st_icmp_ne (tg := 133) (pc' := 129) dX10_step_126 (by decide) rfl (byt_in _ _) (by decide) (fun c => ?_) (fun c => ?_)
  · replace h := h.1 c
    refine st_iconst (pc' := 134) dX10_step_133 rfl ?_
    refine P_X10_22_1 dX10_step_134 (pc' := 137) rfl rfl ?_
    refine st_aload_n (pc' := 138) dX10_step_137 rfl rfl (j := 2) rfl ?_
    refine st_iload_n (pc' := 139) dX10_step_138 rfl rfl (j := 1) rfl ?_
    refine P_X10_35_1 dX10_step_139 (pc' := 142) rfl rfl ?_
    refine st_aload_n (pc' := 143) dX10_step_142 rfl rfl (j := 2) rfl ?_
    refine st_iload_n (pc' := 144) dX10_step_143 rfl rfl (j := 1) rfl ?_
    refine st_iconst (pc' := 145) dX10_step_144 rfl ?_
    refine st_icmp_ne (tg := 155) (pc' := 148) dX10_step_145 (by decide) rfl (byt_in _ _) (by decide) (fun c => ?_) (fun c => ?_)
    · replace h := h.1 c
      refine st_aload_n (pc' := 156) dX10_step_155 rfl rfl (j := 2) rfl ?_
      refine G_X10_28_1 dX10_step_156 (pc' := 159) rfl rfl ?_
      rw [show gi (si (si I 1 2 4) 1 5 (byt I (gi I 1 3))) 1 3 = (gi I 1 3) from ((gi_idx _ _ _ (by decide)).trans (gi_idx _ _ _ (by decide)))]
      refine st_iconst (pc' := 160) dX10_step_159 rfl ?_
      refine st_iadd (pc' := 161) dX10_step_160 rfl ?_
      refine P_X10_19_1 dX10_step_161 (pc' := 164) rfl rfl ?_
      refine WP_sub (L' := [(0, vR (some 1)), (2, vI x2), (3, vI (byt I (gi I 1 3))), (4, vI 1)]) [2, 3, 1, 0] rfl ?_
      exact h
    · replace h := h.2 c
      refine st_aload_n (pc' := 149) dX10_step_148 rfl rfl (j := 2) rfl ?_
      refine G_X10_28_1 dX10_step_149 (pc' := 152) rfl rfl ?_
      rw [show gi (si (si I 1 2 4) 1 5 (byt I (gi I 1 3))) 1 3 = (gi I 1 3) from ((gi_idx _ _ _ (by decide)).trans (gi_idx _ _ _ (by decide)))]
      refine st_goto (pc' := 161) dX10_step_152 (by decide) ?_
      refine P_X10_19_1 dX10_step_161 (pc' := 164) rfl rfl ?_
      refine WP_sub (L' := [(0, vR (some 1)), (2, vI x2), (3, vI (byt I (gi I 1 3))), (4, vI 1)]) [2, 3, 1, 0] rfl ?_
      exact h
  · replace h := h.2 c
    refine st_iconst (pc' := 130) dX10_step_129 rfl ?_
    refine st_goto (pc' := 134) dX10_step_130 (by decide) ?_
    refine P_X10_22_1 dX10_step_134 (pc' := 137) rfl rfl ?_
    refine st_aload_n (pc' := 138) dX10_step_137 rfl rfl (j := 2) rfl ?_
    refine st_iload_n (pc' := 139) dX10_step_138 rfl rfl (j := 1) rfl ?_
    refine P_X10_35_1 dX10_step_139 (pc' := 142) rfl rfl ?_
    refine st_aload_n (pc' := 143) dX10_step_142 rfl rfl (j := 2) rfl ?_
    refine st_iload_n (pc' := 144) dX10_step_143 rfl rfl (j := 1) rfl ?_
    refine st_iconst (pc' := 145) dX10_step_144 rfl ?_
    refine st_icmp_ne (tg := 155) (pc' := 148) dX10_step_145 (by decide) rfl (byt_in _ _) (by decide) (fun c => ?_) (fun c => ?_)
    · replace h := h.1 c
      refine st_aload_n (pc' := 156) dX10_step_155 rfl rfl (j := 2) rfl ?_
      refine G_X10_28_1 dX10_step_156 (pc' := 159) rfl rfl ?_
      rw [show gi (si (si I 1 2 0) 1 5 (byt I (gi I 1 3))) 1 3 = (gi I 1 3) from ((gi_idx _ _ _ (by decide)).trans (gi_idx _ _ _ (by decide)))]
      refine st_iconst (pc' := 160) dX10_step_159 rfl ?_
      refine st_iadd (pc' := 161) dX10_step_160 rfl ?_
      refine P_X10_19_1 dX10_step_161 (pc' := 164) rfl rfl ?_
      refine WP_sub (L' := [(0, vR (some 1)), (2, vI x2), (3, vI (byt I (gi I 1 3))), (4, vI 1)]) [2, 3, 1, 0] rfl ?_
      exact h
    · replace h := h.2 c
      refine st_aload_n (pc' := 149) dX10_step_148 rfl rfl (j := 2) rfl ?_
      refine G_X10_28_1 dX10_step_149 (pc' := 152) rfl rfl ?_
      rw [show gi (si (si I 1 2 0) 1 5 (byt I (gi I 1 3))) 1 3 = (gi I 1 3) from ((gi_idx _ _ _ (by decide)).trans (gi_idx _ _ _ (by decide)))]
      refine st_goto (pc' := 161) dX10_step_152 (by decide) ?_
      refine P_X10_19_1 dX10_step_161 (pc' := 164) rfl rfl ?_
      refine WP_sub (L' := [(0, vR (some 1)), (2, vI x2), (3, vI (byt I (gi I 1 3))), (4, vI 1)]) [2, 3, 1, 0] rfl ?_
      exact h
set_option maxRecDepth 20000 in
set_option maxHeartbeats 4000000 in
theorem B_X10_step_164 {k : Nat} {P : Option Nat} {I : Nat → Nat → Int32} {J : Nat → Nat → Int64} {x2 : Int} {x3 : Int} {x4 : Int} {Q : Option AV → Mem → Prop} (hk : 1 ≤ k) (h : inR x3 ∧ ((¬ (97 ≤ x3 ∧ x3 ≤ 122) → ((¬ (48 ≤ x3 ∧ x3 ≤ 57) → (WP k LAY m_X10_step 255 [(0, vR (some 1)), (2, vI x2), (4, vI x4)] [] (mem (P, some 5, some 22) I J) Q)) ∧ ((48 ≤ x3 ∧ x3 ≤ 57) → (WPm (k - 1) LAY m_X10_endOfNumber [vR (some 1)] (mem (P, some 5, some 22) I J) (retI (fun v2 I3 J4 => WPm (k - 1) LAY m_X10_number [vR (some 1)] (mem (P, some 5, some 22) (si I3 1 4 v2) J4) (retI (fun v5 I6 J7 => WP k LAY m_X10_step 255 [(0, vR (some 1)), (2, vI x2), (4, vI 4)] [] (mem (P, some 5, some 22) (si (si I6 1 5 v5) 1 2 3) J7) Q) (P, some 5, some 22))) (P, some 5, some 22)))))) ∧ ((97 ≤ x3 ∧ x3 ≤ 122) → (WPm (k - 1) LAY m_X10_endOfWord [vR (some 1)] (mem (P, some 5, some 22) I J) (retI (fun v8 I9 J10 => WPm (k - 1) LAY m_X10_ownWord [vR (some 1)] (mem (P, some 5, some 22) (si I9 1 4 v8) J10) (retI (fun v11 I12 J13 => (¬ (gi (si I12 1 5 v11) 1 5) = (-1) → ((¬ (gi (si I12 1 5 v11) 1 5) = (-1) → (WP k LAY m_X10_step 255 [(0, vR (some 1)), (2, vI x2), (4, vI 7)] [] (mem (P, some 5, some 22) (si (si I12 1 5 v11) 1 2 2) J13) Q)) ∧ ((gi (si I12 1 5 v11) 1 5) = (-1) → (WP k LAY m_X10_step 255 [(0, vR (some 1)), (2, vI x2), (4, vI 6)] [] (mem (P, some 5, some 22) (si (si I12 1 5 v11) 1 2 2) J13) Q)))) ∧ ((gi (si I12 1 5 v11) 1 5) = (-1) → ((¬ (gi (si I12 1 5 v11) 1 5) = (-1) → (WP k LAY m_X10_step 255 [(0, vR (some 1)), (2, vI x2), (4, vI 7)] [] (mem (P, some 5, some 22) (si (si I12 1 5 v11) 1 2 1) J13) Q)) ∧ ((gi (si I12 1 5 v11) 1 5) = (-1) → (WP k LAY m_X10_step 255 [(0, vR (some 1)), (2, vI x2), (4, vI 6)] [] (mem (P, some 5, some 22) (si (si I12 1 5 v11) 1 2 1) J13) Q))))) (P, some 5, some 22))) (P, some 5, some 22)))))) : WP k LAY m_X10_step 164 [(0, vR (some 1)), (2, vI x2), (3, vI x3), (4, vI x4)] [] (mem (P, some 5, some 22) I J) Q := by
  refine st_iload_n (pc' := 165) dX10_step_164 rfl rfl (j := 2) rfl ?_
  obtain ⟨e1, h⟩ := h
  refine st_callS (pc' := 168) (kc := k - 1) (E' := LAY) (cal := m_X10_isLetter) (n := 1) (as := [vI x3]) (S := []) dX10_step_165 rfl l_X10_38 k_X10_isLetter rfl rfl (Nat.le_of_ble_eq_true rfl) (by omega) ⟨Nat.le_refl _, Nat.le_refl _, Nat.le_refl _, Nat.le_refl _⟩ (Q1 := fun r M' => WP k LAY m_X10_step 168 [(0, vR (some 1)), (2, vI x2), (3, vI x3), (4, vI x4)] (r.toList ++ []) M' Q) (S_X10_isLetter (by omega) e1 ?_) (fun r M' q => q)
  change WP _ LAY m_X10_step 168 [(0, vR (some 1)), (2, vI x2), (3, vI x3), (4, vI x4)] [vI (b2i (97 ≤ x3 ∧ x3 ≤ 122))] (mem (P, some 5, some 22) I J) Q
  refine st_if_eq (tg := 224) (pc' := 171) dX10_step_168 (by decide) rfl (b2i_in _) (fun c => ?_) (fun c => ?_)
  · replace h := h.1 (b2i_f.mp c)
    refine st_iload_n (pc' := 225) dX10_step_224 rfl rfl (j := 2) rfl ?_
    refine st_callS (pc' := 228) (kc := k - 1) (E' := LAY) (cal := m_X10_isDigit) (n := 1) (as := [vI x3]) (S := []) dX10_step_225 rfl l_X10_49 k_X10_isDigit rfl rfl (Nat.le_of_ble_eq_true rfl) (by omega) ⟨Nat.le_refl _, Nat.le_refl _, Nat.le_refl _, Nat.le_refl _⟩ (Q1 := fun r M' => WP k LAY m_X10_step 228 [(0, vR (some 1)), (2, vI x2), (3, vI x3), (4, vI x4)] (r.toList ++ []) M' Q) (S_X10_isDigit (by omega) e1 ?_) (fun r M' q => q)
    change WP _ LAY m_X10_step 228 [(0, vR (some 1)), (2, vI x2), (3, vI x3), (4, vI x4)] [vI (b2i (48 ≤ x3 ∧ x3 ≤ 57))] (mem (P, some 5, some 22) I J) Q
    refine st_if_eq (tg := 255) (pc' := 231) dX10_step_228 (by decide) rfl (b2i_in _) (fun c => ?_) (fun c => ?_)
    · replace h := h.1 (b2i_f.mp c)
      refine WP_sub (L' := [(0, vR (some 1)), (2, vI x2), (4, vI x4)]) [0, 1, 3] rfl ?_
      exact h
    · replace h := h.2 (b2i_t.mp c)
      refine st_aload_n (pc' := 232) dX10_step_231 rfl rfl (j := 0) rfl ?_
      refine st_aload_n (pc' := 233) dX10_step_232 rfl rfl (j := 0) rfl ?_
      refine st_callV (pc' := 236) (kc := k - 1) (E' := LAY) (cal := m_X10_endOfNumber) (n := 0) (as := []) (S := [vR (some 1)]) dX10_step_233 rfl l_X10_52 k_X10_endOfNumber rfl L_1 c_X10 rfl rfl (Nat.le_of_ble_eq_true rfl) (by omega) ⟨Nat.le_refl _, Nat.le_refl _, Nat.le_refl _, Nat.le_refl _⟩ h (fun r M' q => ?_)
      obtain ⟨v2, I3, J4, rfl, rfl, h⟩ := q
      change WP _ LAY m_X10_step 236 [(0, vR (some 1)), (2, vI x2), (3, vI x3), (4, vI x4)] [vI v2, vR (some 1)] (mem (P, some 5, some 22) I3 J4) Q
      refine P_X10_19_1 dX10_step_236 (pc' := 239) rfl rfl ?_
      refine st_aload_n (pc' := 240) dX10_step_239 rfl rfl (j := 0) rfl ?_
      refine st_aload_n (pc' := 241) dX10_step_240 rfl rfl (j := 0) rfl ?_
      refine st_callV (pc' := 244) (kc := k - 1) (E' := LAY) (cal := m_X10_number) (n := 0) (as := []) (S := [vR (some 1)]) dX10_step_241 rfl l_X10_55 k_X10_number rfl L_1 c_X10 rfl rfl (Nat.le_of_ble_eq_true rfl) (by omega) ⟨Nat.le_refl _, Nat.le_refl _, Nat.le_refl _, Nat.le_refl _⟩ h (fun r M' q => ?_)
      obtain ⟨v5, I6, J7, rfl, rfl, h⟩ := q
      change WP _ LAY m_X10_step 244 [(0, vR (some 1)), (2, vI x2), (3, vI x3), (4, vI x4)] [vI v5, vR (some 1)] (mem (P, some 5, some 22) I6 J7) Q
      refine P_X10_35_1 dX10_step_244 (pc' := 247) rfl rfl ?_
      refine st_aload_n (pc' := 248) dX10_step_247 rfl rfl (j := 0) rfl ?_
      refine st_iconst (pc' := 249) dX10_step_248 rfl ?_
      refine P_X10_22_1 dX10_step_249 (pc' := 252) rfl rfl ?_
      refine st_iconst (pc' := 253) dX10_step_252 rfl ?_
      refine st_istore (pc' := 255) (L' := [(4, vI 4), (0, vR (some 1)), (2, vI x2), (3, vI x3)]) dX10_step_253 rfl (by decide) rfl ?_
      refine WP_sub (L' := [(0, vR (some 1)), (2, vI x2), (4, vI 4)]) [1, 2, 0] rfl ?_
      exact h
  · replace h := h.2 (b2i_t.mp c)
    refine st_aload_n (pc' := 172) dX10_step_171 rfl rfl (j := 0) rfl ?_
    refine st_aload_n (pc' := 173) dX10_step_172 rfl rfl (j := 0) rfl ?_
    refine st_callV (pc' := 176) (kc := k - 1) (E' := LAY) (cal := m_X10_endOfWord) (n := 0) (as := []) (S := [vR (some 1)]) dX10_step_173 rfl l_X10_42 k_X10_endOfWord rfl L_1 c_X10 rfl rfl (Nat.le_of_ble_eq_true rfl) (by omega) ⟨Nat.le_refl _, Nat.le_refl _, Nat.le_refl _, Nat.le_refl _⟩ h (fun r M' q => ?_)
    obtain ⟨v8, I9, J10, rfl, rfl, h⟩ := q
    change WP _ LAY m_X10_step 176 [(0, vR (some 1)), (2, vI x2), (3, vI x3), (4, vI x4)] [vI v8, vR (some 1)] (mem (P, some 5, some 22) I9 J10) Q
    refine P_X10_19_1 dX10_step_176 (pc' := 179) rfl rfl ?_
    refine st_aload_n (pc' := 180) dX10_step_179 rfl rfl (j := 0) rfl ?_
    refine st_aload_n (pc' := 181) dX10_step_180 rfl rfl (j := 0) rfl ?_
    refine st_callV (pc' := 184) (kc := k - 1) (E' := LAY) (cal := m_X10_ownWord) (n := 0) (as := []) (S := [vR (some 1)]) dX10_step_181 rfl l_X10_46 k_X10_ownWord rfl L_1 c_X10 rfl rfl (Nat.le_of_ble_eq_true rfl) (by omega) ⟨Nat.le_refl _, Nat.le_refl _, Nat.le_refl _, Nat.le_refl _⟩ h (fun r M' q => ?_)
    obtain ⟨v11, I12, J13, rfl, rfl, h⟩ := q
    change WP _ LAY m_X10_step 184 [(0, vR (some 1)), (2, vI x2), (3, vI x3), (4, vI x4)] [vI v11, vR (some 1)] (mem (P, some 5, some 22) I12 J13) Q
    refine P_X10_35_1 dX10_step_184 (pc' := 187) rfl rfl ?_
    refine st_aload_n (pc' := 188) dX10_step_187 rfl rfl (j := 0) rfl ?_
    refine st_aload_n (pc' := 189) dX10_step_188 rfl rfl (j := 0) rfl ?_
    refine G_X10_35_1 dX10_step_189 (pc' := 192) rfl rfl ?_
    refine st_iconst (pc' := 193) dX10_step_192 rfl ?_
    refine st_icmp_ne (tg := 200) (pc' := 196) dX10_step_193 (by decide) rfl (gi_in _ _ _) (by decide) (fun c => ?_) (fun c => ?_)
    · replace h := h.1 c
      refine st_iconst (pc' := 201) dX10_step_200 rfl ?_
      refine P_X10_22_1 dX10_step_201 (pc' := 204) rfl rfl ?_
      refine st_aload_n (pc' := 205) dX10_step_204 rfl rfl (j := 0) rfl ?_
      refine G_X10_35_1 dX10_step_205 (pc' := 208) rfl rfl ?_
      rw [show gi (si (si I12 1 5 v11) 1 2 2) 1 5 = (gi (si I12 1 5 v11) 1 5) from (gi_idx _ _ _ (by decide))]
      refine st_iconst (pc' := 209) dX10_step_208 rfl ?_
      refine st_icmp_ne (tg := 217) (pc' := 212) dX10_step_209 (by decide) rfl (gi_in _ _ _) (by decide) (fun c => ?_) (fun c => ?_)
      · replace h := h.1 c
        refine st_bipush (pc' := 219) dX10_step_217 rfl (by decide) ?_
        refine st_istore (pc' := 221) (L' := [(4, vI 7), (0, vR (some 1)), (2, vI x2), (3, vI x3)]) dX10_step_219 rfl (by decide) rfl ?_
        refine st_goto (pc' := 255) dX10_step_221 (by decide) ?_
        refine WP_sub (L' := [(0, vR (some 1)), (2, vI x2), (4, vI 7)]) [1, 2, 0] rfl ?_
        exact h
      · replace h := h.2 c
        refine st_bipush (pc' := 214) dX10_step_212 rfl (by decide) ?_
        refine st_goto (pc' := 219) dX10_step_214 (by decide) ?_
        refine st_istore (pc' := 221) (L' := [(4, vI 6), (0, vR (some 1)), (2, vI x2), (3, vI x3)]) dX10_step_219 rfl (by decide) rfl ?_
        refine st_goto (pc' := 255) dX10_step_221 (by decide) ?_
        refine WP_sub (L' := [(0, vR (some 1)), (2, vI x2), (4, vI 6)]) [1, 2, 0] rfl ?_
        exact h
    · replace h := h.2 c
      refine st_iconst (pc' := 197) dX10_step_196 rfl ?_
      refine st_goto (pc' := 201) dX10_step_197 (by decide) ?_
      refine P_X10_22_1 dX10_step_201 (pc' := 204) rfl rfl ?_
      refine st_aload_n (pc' := 205) dX10_step_204 rfl rfl (j := 0) rfl ?_
      refine G_X10_35_1 dX10_step_205 (pc' := 208) rfl rfl ?_
      rw [show gi (si (si I12 1 5 v11) 1 2 1) 1 5 = (gi (si I12 1 5 v11) 1 5) from (gi_idx _ _ _ (by decide))]
      refine st_iconst (pc' := 209) dX10_step_208 rfl ?_
      refine st_icmp_ne (tg := 217) (pc' := 212) dX10_step_209 (by decide) rfl (gi_in _ _ _) (by decide) (fun c => ?_) (fun c => ?_)
      · replace h := h.1 c
        refine st_bipush (pc' := 219) dX10_step_217 rfl (by decide) ?_
        refine st_istore (pc' := 221) (L' := [(4, vI 7), (0, vR (some 1)), (2, vI x2), (3, vI x3)]) dX10_step_219 rfl (by decide) rfl ?_
        refine st_goto (pc' := 255) dX10_step_221 (by decide) ?_
        refine WP_sub (L' := [(0, vR (some 1)), (2, vI x2), (4, vI 7)]) [1, 2, 0] rfl ?_
        exact h
      · replace h := h.2 c
        refine st_bipush (pc' := 214) dX10_step_212 rfl (by decide) ?_
        refine st_goto (pc' := 219) dX10_step_214 (by decide) ?_
        refine st_istore (pc' := 221) (L' := [(4, vI 6), (0, vR (some 1)), (2, vI x2), (3, vI x3)]) dX10_step_219 rfl (by decide) rfl ?_
        refine st_goto (pc' := 255) dX10_step_221 (by decide) ?_
        refine WP_sub (L' := [(0, vR (some 1)), (2, vI x2), (4, vI 6)]) [1, 2, 0] rfl ?_
        exact h
set_option maxRecDepth 20000 in
set_option maxHeartbeats 4000000 in
theorem B_X10_step_255 {k : Nat} {P : Option Nat} {I : Nat → Nat → Int32} {J : Nat → Nat → Int64} {x2 : Int} {x4 : Int} {Q : Option AV → Mem → Prop} (hk : 0 ≤ k) (h : inR x2 ∧ ((x2 = 0 → (inR ((gi I 1 4) - (gi I 1 3)) ∧ (inR x4 ∧ ((((gi I 1 4) - (gi I 1 3)) ≤ x4 → (Q none (mem (P, some 5, some 22) (si I 1 6 (gi I 1 3)) J))) ∧ (¬ ((gi I 1 4) - (gi I 1 3)) ≤ x4 → (Q none (mem (P, some 5, some 22) (si (si (si I 1 6 (gi I 1 3)) 1 2 5) 1 6 ((gi I 1 3) + x4)) J))))))) ∧ (¬ x2 = 0 → (((gi I 1 2) = 4 → (inR ((gi I 1 4) - (gi I 1 3)) ∧ (inR x4 ∧ ((((gi I 1 4) - (gi I 1 3)) ≤ x4 → (Q none (mem (P, some 5, some 22) (si I 1 6 (gi I 1 3)) J))) ∧ (¬ ((gi I 1 4) - (gi I 1 3)) ≤ x4 → (Q none (mem (P, some 5, some 22) (si (si (si I 1 6 (gi I 1 3)) 1 2 5) 1 6 ((gi I 1 3) + x4)) J))))))) ∧ (¬ (gi I 1 2) = 4 → (((gi I 1 2) = 0 → (inR ((gi I 1 4) - (gi I 1 3)) ∧ (inR x4 ∧ ((((gi I 1 4) - (gi I 1 3)) ≤ x4 → (Q none (mem (P, some 5, some 22) (si I 1 6 (gi I 1 3)) J))) ∧ (¬ ((gi I 1 4) - (gi I 1 3)) ≤ x4 → (Q none (mem (P, some 5, some 22) (si (si (si I 1 6 (gi I 1 3)) 1 2 5) 1 6 ((gi I 1 3) + x4)) J))))))) ∧ (¬ (gi I 1 2) = 0 → (Q none (mem (P, some 5, some 22) (si (si I 1 6 (gi I 1 3)) 1 2 5) J))))))))) : WP k LAY m_X10_step 255 [(0, vR (some 1)), (2, vI x2), (4, vI x4)] [] (mem (P, some 5, some 22) I J) Q := by
  refine st_aload_n (pc' := 256) dX10_step_255 rfl rfl (j := 0) rfl ?_
  refine st_aload_n (pc' := 257) dX10_step_256 rfl rfl (j := 0) rfl ?_
  refine G_X10_28_1 dX10_step_257 (pc' := 260) rfl rfl ?_
  refine P_X10_58_1 dX10_step_260 (pc' := 263) rfl rfl ?_
  refine st_iload_n (pc' := 264) dX10_step_263 rfl rfl (j := 1) rfl ?_
  obtain ⟨e1, h⟩ := h
  refine st_if_eq (tg := 290) (pc' := 267) dX10_step_264 (by decide) rfl e1 (fun c => ?_) (fun c => ?_)
  · replace h := h.1 c
    refine st_aload_n (pc' := 291) dX10_step_290 rfl rfl (j := 0) rfl ?_
    refine G_X10_19_1 dX10_step_291 (pc' := 294) rfl rfl ?_
    rw [show gi (si I 1 6 (gi I 1 3)) 1 4 = (gi I 1 4) from (gi_idx _ _ _ (by decide))]
    refine st_aload_n (pc' := 295) dX10_step_294 rfl rfl (j := 0) rfl ?_
    refine G_X10_28_1 dX10_step_295 (pc' := 298) rfl rfl ?_
    rw [show gi (si I 1 6 (gi I 1 3)) 1 3 = (gi I 1 3) from (gi_idx _ _ _ (by decide))]
    refine st_isub (pc' := 299) dX10_step_298 rfl ?_
    refine st_iload (pc' := 301) dX10_step_299 rfl (j := 2) rfl ?_
    obtain ⟨e2, h⟩ := h
    obtain ⟨e3, h⟩ := h
    refine st_icmp_le (tg := 320) (pc' := 304) dX10_step_301 (by decide) rfl e2 e3 (fun c => ?_) (fun c => ?_)
    · replace h := h.1 c
      exact st_vret dX10_step_320 rfl rfl h
    · replace h := h.2 c
      refine st_aload_n (pc' := 305) dX10_step_304 rfl rfl (j := 0) rfl ?_
      refine st_iconst (pc' := 306) dX10_step_305 rfl ?_
      refine P_X10_22_1 dX10_step_306 (pc' := 309) rfl rfl ?_
      refine st_aload_n (pc' := 310) dX10_step_309 rfl rfl (j := 0) rfl ?_
      refine st_aload_n (pc' := 311) dX10_step_310 rfl rfl (j := 0) rfl ?_
      refine G_X10_28_1 dX10_step_311 (pc' := 314) rfl rfl ?_
      rw [show gi (si (si I 1 6 (gi I 1 3)) 1 2 5) 1 3 = (gi I 1 3) from ((gi_idx _ _ _ (by decide)).trans (gi_idx _ _ _ (by decide)))]
      refine st_iload (pc' := 316) dX10_step_314 rfl (j := 2) rfl ?_
      refine st_iadd (pc' := 317) dX10_step_316 rfl ?_
      refine P_X10_58_1 dX10_step_317 (pc' := 320) rfl rfl ?_
      exact st_vret dX10_step_320 rfl rfl h
  · replace h := h.2 c
    refine st_aload_n (pc' := 268) dX10_step_267 rfl rfl (j := 0) rfl ?_
    refine G_X10_22_1 dX10_step_268 (pc' := 271) rfl rfl ?_
    rw [show gi (si I 1 6 (gi I 1 3)) 1 2 = (gi I 1 2) from (gi_idx _ _ _ (by decide))]
    refine st_iconst (pc' := 272) dX10_step_271 rfl ?_
    refine st_icmp_eq (tg := 290) (pc' := 275) dX10_step_272 (by decide) rfl (gi_in _ _ _) (by decide) (fun c => ?_) (fun c => ?_)
    · replace h := h.1 c
      refine st_aload_n (pc' := 291) dX10_step_290 rfl rfl (j := 0) rfl ?_
      refine G_X10_19_1 dX10_step_291 (pc' := 294) rfl rfl ?_
      rw [show gi (si I 1 6 (gi I 1 3)) 1 4 = (gi I 1 4) from (gi_idx _ _ _ (by decide))]
      refine st_aload_n (pc' := 295) dX10_step_294 rfl rfl (j := 0) rfl ?_
      refine G_X10_28_1 dX10_step_295 (pc' := 298) rfl rfl ?_
      rw [show gi (si I 1 6 (gi I 1 3)) 1 3 = (gi I 1 3) from (gi_idx _ _ _ (by decide))]
      refine st_isub (pc' := 299) dX10_step_298 rfl ?_
      refine st_iload (pc' := 301) dX10_step_299 rfl (j := 2) rfl ?_
      obtain ⟨e4, h⟩ := h
      obtain ⟨e5, h⟩ := h
      refine st_icmp_le (tg := 320) (pc' := 304) dX10_step_301 (by decide) rfl e4 e5 (fun c => ?_) (fun c => ?_)
      · replace h := h.1 c
        exact st_vret dX10_step_320 rfl rfl h
      · replace h := h.2 c
        refine st_aload_n (pc' := 305) dX10_step_304 rfl rfl (j := 0) rfl ?_
        refine st_iconst (pc' := 306) dX10_step_305 rfl ?_
        refine P_X10_22_1 dX10_step_306 (pc' := 309) rfl rfl ?_
        refine st_aload_n (pc' := 310) dX10_step_309 rfl rfl (j := 0) rfl ?_
        refine st_aload_n (pc' := 311) dX10_step_310 rfl rfl (j := 0) rfl ?_
        refine G_X10_28_1 dX10_step_311 (pc' := 314) rfl rfl ?_
        rw [show gi (si (si I 1 6 (gi I 1 3)) 1 2 5) 1 3 = (gi I 1 3) from ((gi_idx _ _ _ (by decide)).trans (gi_idx _ _ _ (by decide)))]
        refine st_iload (pc' := 316) dX10_step_314 rfl (j := 2) rfl ?_
        refine st_iadd (pc' := 317) dX10_step_316 rfl ?_
        refine P_X10_58_1 dX10_step_317 (pc' := 320) rfl rfl ?_
        exact st_vret dX10_step_320 rfl rfl h
    · replace h := h.2 c
      refine st_aload_n (pc' := 276) dX10_step_275 rfl rfl (j := 0) rfl ?_
      refine G_X10_22_1 dX10_step_276 (pc' := 279) rfl rfl ?_
      rw [show gi (si I 1 6 (gi I 1 3)) 1 2 = (gi I 1 2) from (gi_idx _ _ _ (by decide))]
      refine st_if_eq (tg := 290) (pc' := 282) dX10_step_279 (by decide) rfl (gi_in _ _ _) (fun c => ?_) (fun c => ?_)
      · replace h := h.1 c
        refine st_aload_n (pc' := 291) dX10_step_290 rfl rfl (j := 0) rfl ?_
        refine G_X10_19_1 dX10_step_291 (pc' := 294) rfl rfl ?_
        rw [show gi (si I 1 6 (gi I 1 3)) 1 4 = (gi I 1 4) from (gi_idx _ _ _ (by decide))]
        refine st_aload_n (pc' := 295) dX10_step_294 rfl rfl (j := 0) rfl ?_
        refine G_X10_28_1 dX10_step_295 (pc' := 298) rfl rfl ?_
        rw [show gi (si I 1 6 (gi I 1 3)) 1 3 = (gi I 1 3) from (gi_idx _ _ _ (by decide))]
        refine st_isub (pc' := 299) dX10_step_298 rfl ?_
        refine st_iload (pc' := 301) dX10_step_299 rfl (j := 2) rfl ?_
        obtain ⟨e6, h⟩ := h
        obtain ⟨e7, h⟩ := h
        refine st_icmp_le (tg := 320) (pc' := 304) dX10_step_301 (by decide) rfl e6 e7 (fun c => ?_) (fun c => ?_)
        · replace h := h.1 c
          exact st_vret dX10_step_320 rfl rfl h
        · replace h := h.2 c
          refine st_aload_n (pc' := 305) dX10_step_304 rfl rfl (j := 0) rfl ?_
          refine st_iconst (pc' := 306) dX10_step_305 rfl ?_
          refine P_X10_22_1 dX10_step_306 (pc' := 309) rfl rfl ?_
          refine st_aload_n (pc' := 310) dX10_step_309 rfl rfl (j := 0) rfl ?_
          refine st_aload_n (pc' := 311) dX10_step_310 rfl rfl (j := 0) rfl ?_
          refine G_X10_28_1 dX10_step_311 (pc' := 314) rfl rfl ?_
          rw [show gi (si (si I 1 6 (gi I 1 3)) 1 2 5) 1 3 = (gi I 1 3) from ((gi_idx _ _ _ (by decide)).trans (gi_idx _ _ _ (by decide)))]
          refine st_iload (pc' := 316) dX10_step_314 rfl (j := 2) rfl ?_
          refine st_iadd (pc' := 317) dX10_step_316 rfl ?_
          refine P_X10_58_1 dX10_step_317 (pc' := 320) rfl rfl ?_
          exact st_vret dX10_step_320 rfl rfl h
      · replace h := h.2 c
        refine st_aload_n (pc' := 283) dX10_step_282 rfl rfl (j := 0) rfl ?_
        refine st_iconst (pc' := 284) dX10_step_283 rfl ?_
        refine P_X10_22_1 dX10_step_284 (pc' := 287) rfl rfl ?_
        refine st_goto (pc' := 320) dX10_step_287 (by decide) ?_
        exact st_vret dX10_step_320 rfl rfl h
set_option maxRecDepth 20000 in
set_option maxHeartbeats 4000000 in
theorem B_X10_rewind_0 {k : Nat} {P : Option Nat} {I : Nat → Nat → Int32} {J : Nat → Nat → Int64}  {Q : Option AV → Mem → Prop} (hk : 1 ≤ k) (h : WPm (k - 1) LAY m_X10_step [vR (some 1)] (mem (P, some 5, some 22) (si (si I 1 4 0) 1 2 0) J) (retV (fun I2 J3 => Q none (mem (P, some 5, some 22) I2 J3)) (P, some 5, some 22))) : WP k LAY m_X10_rewind 0 [(0, vR (some 1))] [] (mem (P, some 5, some 22) I J) Q := by
  refine st_aload_n (pc' := 1) dX10_rewind_0 rfl rfl (j := 0) rfl ?_
  refine st_iconst (pc' := 2) dX10_rewind_1 rfl ?_
  refine P_X10_19_1 dX10_rewind_2 (pc' := 5) rfl rfl ?_
  refine st_aload_n (pc' := 6) dX10_rewind_5 rfl rfl (j := 0) rfl ?_
  refine st_iconst (pc' := 7) dX10_rewind_6 rfl ?_
  refine P_X10_22_1 dX10_rewind_7 (pc' := 10) rfl rfl ?_
  refine st_aload_n (pc' := 11) dX10_rewind_10 rfl rfl (j := 0) rfl ?_
  refine st_callV (pc' := 14) (kc := k - 1) (E' := LAY) (cal := m_X10_step) (n := 0) (as := []) (S := []) dX10_rewind_11 rfl l_X10_25 k_X10_step rfl L_1 c_X10 rfl rfl (Nat.le_of_ble_eq_true rfl) (by omega) ⟨Nat.le_refl _, Nat.le_refl _, Nat.le_refl _, Nat.le_refl _⟩ h (fun r M' q => ?_)
  obtain ⟨I2, J3, rfl, rfl, h⟩ := q
  change WP _ LAY m_X10_rewind 14 [(0, vR (some 1))] [] (mem (P, some 5, some 22) I2 J3) Q
  exact st_vret dX10_rewind_14 rfl rfl h
end WX10

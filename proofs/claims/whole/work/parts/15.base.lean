section BASEM
set_option maxRecDepth 20000 in
set_option maxHeartbeats 4000000 in
theorem B_X12_is_0 {k : Nat} {P : Option Nat} {I : Nat → Nat → Int32} {J : Nat → Nat → Int64} {x0 : Int} {x1 : Int} {x2 : Int} {Q : Option AV → Mem → Prop} (hk : 0 ≤ k) (h : inR x0 ∧ (inR x1 ∧ ((x0 < x1 → (Q (some (vI 0)) (mem (P, some 5, some 22) I J))) ∧ (¬ x0 < x1 → (inR x2 ∧ ((x2 < x0 → (Q (some (vI 0)) (mem (P, some 5, some 22) I J))) ∧ (¬ x2 < x0 → (Q (some (vI 1)) (mem (P, some 5, some 22) I J))))))))) : WP k LAY m_X12_is 0 [(0, vI x0), (1, vI x1), (2, vI x2)] [] (mem (P, some 5, some 22) I J) Q := by
  refine st_iload_n (pc' := 1) dX12_is_0 rfl rfl (j := 0) rfl ?_
  refine st_iload_n (pc' := 2) dX12_is_1 rfl rfl (j := 1) rfl ?_
  obtain ⟨e1, h⟩ := h
  obtain ⟨e2, h⟩ := h
  refine st_icmp_lt (tg := 14) (pc' := 5) dX12_is_2 (by decide) rfl e1 e2 (fun c => ?_) (fun c => ?_)
  · replace h := h.1 c
    refine st_iconst (pc' := 15) dX12_is_14 rfl ?_
    exact st_iret (ty := .boolean) dX12_is_15 rfl (by decide) rfl h
  · replace h := h.2 c
    refine st_iload_n (pc' := 6) dX12_is_5 rfl rfl (j := 0) rfl ?_
    refine st_iload_n (pc' := 7) dX12_is_6 rfl rfl (j := 2) rfl ?_
    obtain ⟨e3, h⟩ := h
    refine st_icmp_gt (tg := 14) (pc' := 10) dX12_is_7 (by decide) rfl e1 e3 (fun c => ?_) (fun c => ?_)
    · replace h := h.1 c
      refine st_iconst (pc' := 15) dX12_is_14 rfl ?_
      exact st_iret (ty := .boolean) dX12_is_15 rfl (by decide) rfl h
    · replace h := h.2 c
      refine st_iconst (pc' := 11) dX12_is_10 rfl ?_
      refine st_goto (pc' := 15) dX12_is_11 (by decide) ?_
      exact st_iret (ty := .boolean) dX12_is_15 rfl (by decide) rfl h
theorem S_X12_is {k : Nat} {P : Option Nat} {I : Nat → Nat → Int32} {J : Nat → Nat → Int64} {v l u : Int} {Q : Option AV → Mem → Prop} (hk : 0 ≤ k) (hv : inR v) (hl : inR l) (hu : inR u) (h : Q (some (vI (b2i (l ≤ v ∧ v ≤ u)))) (mem (P, some 5, some 22) I J)) : WPm k LAY m_X12_is [vI v, vI l, vI u] (mem (P, some 5, some 22) I J) Q := by
  refine WPm.of k_X12_is.1 (Nat.le_of_ble_eq_true rfl) (B_X12_is_0 (by omega) ?_)
  refine ⟨hv, hl, fun c1 => ?_, fun c1 => ⟨hu, fun c2 => ?_, fun c2 => ?_⟩⟩ <;> exact WPm.eqI (by first | rfl | exact (b2i_0 (by omega)).symm | exact (b2i_1 (by omega)).symm) h
set_option maxRecDepth 20000 in
set_option maxHeartbeats 4000000 in
theorem B_X12_isLetter_0 {k : Nat} {P : Option Nat} {I : Nat → Nat → Int32} {J : Nat → Nat → Int64} {x0 : Int} {Q : Option AV → Mem → Prop} (hk : 0 ≤ k) (h : inR x0 ∧ ((x0 < 97 → (Q (some (vI 0)) (mem (P, some 5, some 22) I J))) ∧ (¬ x0 < 97 → ((122 < x0 → (Q (some (vI 0)) (mem (P, some 5, some 22) I J))) ∧ (¬ 122 < x0 → (Q (some (vI 1)) (mem (P, some 5, some 22) I J))))))) : WP k LAY m_X12_isLetter 0 [(0, vI x0)] [] (mem (P, some 5, some 22) I J) Q := by
  refine st_iload_n (pc' := 1) dX12_isLetter_0 rfl rfl (j := 0) rfl ?_
  refine st_bipush (pc' := 3) dX12_isLetter_1 rfl (by decide) ?_
  obtain ⟨e1, h⟩ := h
  refine st_icmp_lt (tg := 16) (pc' := 6) dX12_isLetter_3 (by decide) rfl e1 (by decide) (fun c => ?_) (fun c => ?_)
  · replace h := h.1 c
    refine st_iconst (pc' := 17) dX12_isLetter_16 rfl ?_
    exact st_iret (ty := .boolean) dX12_isLetter_17 rfl (by decide) rfl h
  · replace h := h.2 c
    refine st_iload_n (pc' := 7) dX12_isLetter_6 rfl rfl (j := 0) rfl ?_
    refine st_bipush (pc' := 9) dX12_isLetter_7 rfl (by decide) ?_
    refine st_icmp_gt (tg := 16) (pc' := 12) dX12_isLetter_9 (by decide) rfl e1 (by decide) (fun c => ?_) (fun c => ?_)
    · replace h := h.1 c
      refine st_iconst (pc' := 17) dX12_isLetter_16 rfl ?_
      exact st_iret (ty := .boolean) dX12_isLetter_17 rfl (by decide) rfl h
    · replace h := h.2 c
      refine st_iconst (pc' := 13) dX12_isLetter_12 rfl ?_
      refine st_goto (pc' := 17) dX12_isLetter_13 (by decide) ?_
      exact st_iret (ty := .boolean) dX12_isLetter_17 rfl (by decide) rfl h
theorem S_X12_isLetter {k : Nat} {P : Option Nat} {I : Nat → Nat → Int32} {J : Nat → Nat → Int64} {c : Int} {Q : Option AV → Mem → Prop} (hk : 0 ≤ k) (hc : inR c) (h : Q (some (vI (b2i (97 ≤ c ∧ c ≤ 122)))) (mem (P, some 5, some 22) I J)) : WPm k LAY m_X12_isLetter [vI c] (mem (P, some 5, some 22) I J) Q := by
  refine WPm.of k_X12_isLetter.1 (Nat.le_of_ble_eq_true rfl) (B_X12_isLetter_0 (by omega) ?_)
  refine ⟨hc, fun c1 => ?_, fun c1 => ⟨fun c2 => ?_, fun c2 => ?_⟩⟩ <;> exact WPm.eqI (by first | rfl | exact (b2i_0 (by omega)).symm | exact (b2i_1 (by omega)).symm) h
set_option maxRecDepth 20000 in
set_option maxHeartbeats 4000000 in
theorem B_X12_isDigit_0 {k : Nat} {P : Option Nat} {I : Nat → Nat → Int32} {J : Nat → Nat → Int64} {x0 : Int} {Q : Option AV → Mem → Prop} (hk : 0 ≤ k) (h : inR x0 ∧ ((x0 < 48 → (Q (some (vI 0)) (mem (P, some 5, some 22) I J))) ∧ (¬ x0 < 48 → ((57 < x0 → (Q (some (vI 0)) (mem (P, some 5, some 22) I J))) ∧ (¬ 57 < x0 → (Q (some (vI 1)) (mem (P, some 5, some 22) I J))))))) : WP k LAY m_X12_isDigit 0 [(0, vI x0)] [] (mem (P, some 5, some 22) I J) Q := by
  refine st_iload_n (pc' := 1) dX12_isDigit_0 rfl rfl (j := 0) rfl ?_
  refine st_bipush (pc' := 3) dX12_isDigit_1 rfl (by decide) ?_
  obtain ⟨e1, h⟩ := h
  refine st_icmp_lt (tg := 16) (pc' := 6) dX12_isDigit_3 (by decide) rfl e1 (by decide) (fun c => ?_) (fun c => ?_)
  · replace h := h.1 c
    refine st_iconst (pc' := 17) dX12_isDigit_16 rfl ?_
    exact st_iret (ty := .boolean) dX12_isDigit_17 rfl (by decide) rfl h
  · replace h := h.2 c
    refine st_iload_n (pc' := 7) dX12_isDigit_6 rfl rfl (j := 0) rfl ?_
    refine st_bipush (pc' := 9) dX12_isDigit_7 rfl (by decide) ?_
    refine st_icmp_gt (tg := 16) (pc' := 12) dX12_isDigit_9 (by decide) rfl e1 (by decide) (fun c => ?_) (fun c => ?_)
    · replace h := h.1 c
      refine st_iconst (pc' := 17) dX12_isDigit_16 rfl ?_
      exact st_iret (ty := .boolean) dX12_isDigit_17 rfl (by decide) rfl h
    · replace h := h.2 c
      refine st_iconst (pc' := 13) dX12_isDigit_12 rfl ?_
      refine st_goto (pc' := 17) dX12_isDigit_13 (by decide) ?_
      exact st_iret (ty := .boolean) dX12_isDigit_17 rfl (by decide) rfl h
theorem S_X12_isDigit {k : Nat} {P : Option Nat} {I : Nat → Nat → Int32} {J : Nat → Nat → Int64} {c : Int} {Q : Option AV → Mem → Prop} (hk : 0 ≤ k) (hc : inR c) (h : Q (some (vI (b2i (48 ≤ c ∧ c ≤ 57)))) (mem (P, some 5, some 22) I J)) : WPm k LAY m_X12_isDigit [vI c] (mem (P, some 5, some 22) I J) Q := by
  refine WPm.of k_X12_isDigit.1 (Nat.le_of_ble_eq_true rfl) (B_X12_isDigit_0 (by omega) ?_)
  refine ⟨hc, fun c1 => ?_, fun c1 => ⟨fun c2 => ?_, fun c2 => ?_⟩⟩ <;> exact WPm.eqI (by first | rfl | exact (b2i_0 (by omega)).symm | exact (b2i_1 (by omega)).symm) h
set_option maxRecDepth 20000 in
set_option maxHeartbeats 4000000 in
theorem B_X12_isSign_0 {k : Nat} {P : Option Nat} {I : Nat → Nat → Int32} {J : Nat → Nat → Int64} {x1 : Int} {Q : Option AV → Mem → Prop} (hk : 0 ≤ k) (h : (¬ (gi I 74 3) = 3 → (Q (some (vI 0)) (mem (P, some 5, some 22) I J))) ∧ ((gi I 74 3) = 3 → (inR x1 ∧ ((¬ (gi I 74 6) = x1 → (Q (some (vI 0)) (mem (P, some 5, some 22) I J))) ∧ ((gi I 74 6) = x1 → (Q (some (vI 1)) (mem (P, some 5, some 22) I J))))))) : WP k LAY m_X12_isSign 0 [(0, vR (some 74)), (1, vI x1)] [] (mem (P, some 5, some 22) I J) Q := by
  refine st_aload_n (pc' := 1) dX12_isSign_0 rfl rfl (j := 0) rfl ?_
  refine G_X12_20_74 dX12_isSign_1 (pc' := 4) rfl rfl ?_
  refine st_iconst (pc' := 5) dX12_isSign_4 rfl ?_
  refine st_icmp_ne (tg := 20) (pc' := 8) dX12_isSign_5 (by decide) rfl (gi_in _ _ _) (by decide) (fun c => ?_) (fun c => ?_)
  · replace h := h.1 c
    refine st_iconst (pc' := 21) dX12_isSign_20 rfl ?_
    exact st_iret (ty := .boolean) dX12_isSign_21 rfl (by decide) rfl h
  · replace h := h.2 c
    refine st_aload_n (pc' := 9) dX12_isSign_8 rfl rfl (j := 0) rfl ?_
    refine G_X12_29_74 dX12_isSign_9 (pc' := 12) rfl rfl ?_
    refine st_iload_n (pc' := 13) dX12_isSign_12 rfl rfl (j := 1) rfl ?_
    obtain ⟨e1, h⟩ := h
    refine st_icmp_ne (tg := 20) (pc' := 16) dX12_isSign_13 (by decide) rfl (gi_in _ _ _) e1 (fun c => ?_) (fun c => ?_)
    · replace h := h.1 c
      refine st_iconst (pc' := 21) dX12_isSign_20 rfl ?_
      exact st_iret (ty := .boolean) dX12_isSign_21 rfl (by decide) rfl h
    · replace h := h.2 c
      refine st_iconst (pc' := 17) dX12_isSign_16 rfl ?_
      refine st_goto (pc' := 21) dX12_isSign_17 (by decide) ?_
      exact st_iret (ty := .boolean) dX12_isSign_21 rfl (by decide) rfl h
theorem S_X12_isSign {k : Nat} {P : Option Nat} {I : Nat → Nat → Int32} {J : Nat → Nat → Int64} {w : Int} {Q : Option AV → Mem → Prop} (hk : 0 ≤ k) (hw : inR w) (h : Q (some (vI (b2i (gi I 74 3 = 3 ∧ gi I 74 6 = w)))) (mem (P, some 5, some 22) I J)) : WPm k LAY m_X12_isSign [vR (some 74), vI w] (mem (P, some 5, some 22) I J) Q := by
  refine WPm.of k_X12_isSign.1 (Nat.le_of_ble_eq_true rfl) (B_X12_isSign_0 (by omega) ?_)
  refine ⟨fun c1 => ?_, fun c1 => ⟨hw, fun c2 => ?_, fun c2 => ?_⟩⟩ <;> exact WPm.eqI (by first | rfl | exact (b2i_0 (by omega)).symm | exact (b2i_1 (by omega)).symm) h
set_option maxRecDepth 20000 in
set_option maxHeartbeats 4000000 in
theorem B_X12_isWord_0 {k : Nat} {P : Option Nat} {I : Nat → Nat → Int32} {J : Nat → Nat → Int64} {x1 : Int} {Q : Option AV → Mem → Prop} (hk : 0 ≤ k) (h : (¬ (gi I 74 3) = 1 → (Q (some (vI 0)) (mem (P, some 5, some 22) I J))) ∧ ((gi I 74 3) = 1 → (inL x1 ∧ ((¬ (gl J 74 7) = x1 → (Q (some (vI 0)) (mem (P, some 5, some 22) I J))) ∧ ((gl J 74 7) = x1 → (Q (some (vI 1)) (mem (P, some 5, some 22) I J))))))) : WP k LAY m_X12_isWord 0 [(0, vR (some 74)), (1, vL x1)] [] (mem (P, some 5, some 22) I J) Q := by
  refine st_aload_n (pc' := 1) dX12_isWord_0 rfl rfl (j := 0) rfl ?_
  refine G_X12_20_74 dX12_isWord_1 (pc' := 4) rfl rfl ?_
  refine st_iconst (pc' := 5) dX12_isWord_4 rfl ?_
  refine st_icmp_ne (tg := 21) (pc' := 8) dX12_isWord_5 (by decide) rfl (gi_in _ _ _) (by decide) (fun c => ?_) (fun c => ?_)
  · replace h := h.1 c
    refine st_iconst (pc' := 22) dX12_isWord_21 rfl ?_
    exact st_iret (ty := .boolean) dX12_isWord_22 rfl (by decide) rfl h
  · replace h := h.2 c
    refine st_aload_n (pc' := 9) dX12_isWord_8 rfl rfl (j := 0) rfl ?_
    refine G_X12_32_74 dX12_isWord_9 (pc' := 12) rfl rfl ?_
    refine st_lload_n (pc' := 13) dX12_isWord_12 rfl rfl (j := 1) rfl ?_
    obtain ⟨e1, h⟩ := h
    refine st_lif_ne (tg := 21) (pc' := 17) (pc1 := 14) dX12_isWord_13 rfl dX12_isWord_14 (by decide) rfl (gl_in _ _ _) e1 (fun c => ?_) (fun c => ?_)
    · replace h := h.1 c
      refine st_iconst (pc' := 22) dX12_isWord_21 rfl ?_
      exact st_iret (ty := .boolean) dX12_isWord_22 rfl (by decide) rfl h
    · replace h := h.2 c
      refine st_iconst (pc' := 18) dX12_isWord_17 rfl ?_
      refine st_goto (pc' := 22) dX12_isWord_18 (by decide) ?_
      exact st_iret (ty := .boolean) dX12_isWord_22 rfl (by decide) rfl h
theorem S_X12_isWord {k : Nat} {P : Option Nat} {I : Nat → Nat → Int32} {J : Nat → Nat → Int64} {w : Int} {Q : Option AV → Mem → Prop} (hk : 0 ≤ k) (hw : inL w) (h : Q (some (vI (b2i (gi I 74 3 = 1 ∧ gl J 74 7 = w)))) (mem (P, some 5, some 22) I J)) : WPm k LAY m_X12_isWord [vR (some 74), vL w] (mem (P, some 5, some 22) I J) Q := by
  refine WPm.of k_X12_isWord.1 (Nat.le_of_ble_eq_true rfl) (B_X12_isWord_0 (by omega) ?_)
  refine ⟨fun c1 => ?_, fun c1 => ⟨hw, fun c2 => ?_, fun c2 => ?_⟩⟩ <;> exact WPm.eqI (by first | rfl | exact (b2i_0 (by omega)).symm | exact (b2i_1 (by omega)).symm) h
set_option maxRecDepth 20000 in
set_option maxHeartbeats 4000000 in
theorem B_X12_isTest_0 {k : Nat} {P : Option Nat} {I : Nat → Nat → Int32} {J : Nat → Nat → Int64} {x0 : Int} {Q : Option AV → Mem → Prop} (hk : 0 ≤ k) (h : inR x0 ∧ ((x0 = 1 → (Q (some (vI 1)) (mem (P, some 5, some 22) I J))) ∧ (¬ x0 = 1 → ((¬ x0 = 5 → (Q (some (vI 0)) (mem (P, some 5, some 22) I J))) ∧ (x0 = 5 → (Q (some (vI 1)) (mem (P, some 5, some 22) I J))))))) : WP k LAY m_X12_isTest 0 [(0, vI x0)] [] (mem (P, some 5, some 22) I J) Q := by
  refine st_iload_n (pc' := 1) dX12_isTest_0 rfl rfl (j := 0) rfl ?_
  refine st_iconst (pc' := 2) dX12_isTest_1 rfl ?_
  obtain ⟨e1, h⟩ := h
  refine st_icmp_eq (tg := 10) (pc' := 5) dX12_isTest_2 (by decide) rfl e1 (by decide) (fun c => ?_) (fun c => ?_)
  · replace h := h.1 c
    refine st_iconst (pc' := 11) dX12_isTest_10 rfl ?_
    refine st_goto (pc' := 15) dX12_isTest_11 (by decide) ?_
    exact st_iret (ty := .boolean) dX12_isTest_15 rfl (by decide) rfl h
  · replace h := h.2 c
    refine st_iload_n (pc' := 6) dX12_isTest_5 rfl rfl (j := 0) rfl ?_
    refine st_iconst (pc' := 7) dX12_isTest_6 rfl ?_
    refine st_icmp_ne (tg := 14) (pc' := 10) dX12_isTest_7 (by decide) rfl e1 (by decide) (fun c => ?_) (fun c => ?_)
    · replace h := h.1 c
      refine st_iconst (pc' := 15) dX12_isTest_14 rfl ?_
      exact st_iret (ty := .boolean) dX12_isTest_15 rfl (by decide) rfl h
    · replace h := h.2 c
      refine st_iconst (pc' := 11) dX12_isTest_10 rfl ?_
      refine st_goto (pc' := 15) dX12_isTest_11 (by decide) ?_
      exact st_iret (ty := .boolean) dX12_isTest_15 rfl (by decide) rfl h
theorem S_X12_isTest {k : Nat} {P : Option Nat} {I : Nat → Nat → Int32} {J : Nat → Nat → Int64} {w : Int} {Q : Option AV → Mem → Prop} (hk : 0 ≤ k) (hw : inR w) (h : Q (some (vI (b2i (w = 1 ∨ w = 5)))) (mem (P, some 5, some 22) I J)) : WPm k LAY m_X12_isTest [vI w] (mem (P, some 5, some 22) I J) Q := by
  refine WPm.of k_X12_isTest.1 (Nat.le_of_ble_eq_true rfl) (B_X12_isTest_0 (by omega) ?_)
  refine ⟨hw, fun c1 => ?_, fun c1 => ⟨fun c2 => ?_, fun c2 => ?_⟩⟩ <;> exact WPm.eqI (by first | rfl | exact (b2i_0 (by omega)).symm | exact (b2i_1 (by omega)).symm) h
set_option maxRecDepth 20000 in
set_option maxHeartbeats 4000000 in
theorem B_X12_isPage_0 {k : Nat} {P : Option Nat} {I : Nat → Nat → Int32} {J : Nat → Nat → Int64} {x1 : Int} {Q : Option AV → Mem → Prop} (hk : 0 ≤ k) (h : inR x1 ∧ ((x1 < 0 → (Q (some (vI 0)) (mem (P, some 5, some 22) I J))) ∧ (¬ x1 < 0 → ((0 ≤ (gi I 74 13) ∧ (gi I 74 13) < 2) ∧ (((gi I 77 (gi I 74 13).toNat) ≤ x1 → (Q (some (vI 0)) (mem (P, some 5, some 22) I J))) ∧ (¬ (gi I 77 (gi I 74 13).toNat) ≤ x1 → (Q (some (vI 1)) (mem (P, some 5, some 22) I J)))))))) : WP k LAY m_X12_isPage 0 [(0, vR (some 74)), (1, vI x1)] [] (mem (P, some 5, some 22) I J) Q := by
  refine st_iload_n (pc' := 1) dX12_isPage_0 rfl rfl (j := 1) rfl ?_
  obtain ⟨e1, h⟩ := h
  refine st_if_lt (tg := 21) (pc' := 4) dX12_isPage_1 (by decide) rfl e1 (fun c => ?_) (fun c => ?_)
  · replace h := h.1 c
    refine st_iconst (pc' := 22) dX12_isPage_21 rfl ?_
    exact st_iret (ty := .boolean) dX12_isPage_22 rfl (by decide) rfl h
  · replace h := h.2 c
    refine st_iload_n (pc' := 5) dX12_isPage_4 rfl rfl (j := 1) rfl ?_
    refine st_aload_n (pc' := 6) dX12_isPage_5 rfl rfl (j := 0) rfl ?_
    refine G_X12_57_74 dX12_isPage_6 (pc' := 9) rfl rfl ?_
    refine st_aload_n (pc' := 10) dX12_isPage_9 rfl rfl (j := 0) rfl ?_
    refine G_X12_51_74 dX12_isPage_10 (pc' := 13) rfl rfl ?_
    obtain ⟨e2, h⟩ := h
    refine st_iaload (pc' := 14) (v := (gi I 77 (gi I 74 13).toNat)) dX12_isPage_13 rfl L_77 (by decide) e2 (show gi I 77 (gi I 74 13).toNat = (gi I 77 (gi I 74 13).toNat) from rfl) ?_
    refine st_icmp_ge (tg := 21) (pc' := 17) dX12_isPage_14 (by decide) rfl e1 (gi_in _ _ _) (fun c => ?_) (fun c => ?_)
    · replace h := h.1 c
      refine st_iconst (pc' := 22) dX12_isPage_21 rfl ?_
      exact st_iret (ty := .boolean) dX12_isPage_22 rfl (by decide) rfl h
    · replace h := h.2 c
      refine st_iconst (pc' := 18) dX12_isPage_17 rfl ?_
      refine st_goto (pc' := 22) dX12_isPage_18 (by decide) ?_
      exact st_iret (ty := .boolean) dX12_isPage_22 rfl (by decide) rfl h
theorem S_X12_isPage {k : Nat} {P : Option Nat} {I : Nat → Nat → Int32} {J : Nat → Nat → Int64} {w : Int} {Q : Option AV → Mem → Prop} (hk : 0 ≤ k) (hb : 0 ≤ gi I 74 13 ∧ gi I 74 13 < 2) (hw : inR w) (h : Q (some (vI (b2i (0 ≤ w ∧ w < gi I 77 (gi I 74 13).toNat)))) (mem (P, some 5, some 22) I J)) : WPm k LAY m_X12_isPage [vR (some 74), vI w] (mem (P, some 5, some 22) I J) Q := by
  refine WPm.of k_X12_isPage.1 (Nat.le_of_ble_eq_true rfl) (B_X12_isPage_0 (by omega) ?_)
  refine ⟨hw, fun c1 => ?_, fun c1 => ⟨hb, fun c2 => ?_, fun c2 => ?_⟩⟩ <;> exact WPm.eqI (by first | rfl | exact (b2i_0 (by omega)).symm | exact (b2i_1 (by omega)).symm) h
set_option maxRecDepth 20000 in
set_option maxHeartbeats 4000000 in
theorem B_X12_isReader_0 {k : Nat} {P : Option Nat} {I : Nat → Nat → Int32} {J : Nat → Nat → Int64} {x1 : Int} {Q : Option AV → Mem → Prop} (hk : 0 ≤ k) (h : inR x1 ∧ ((x1 < 0 → (Q (some (vI 0)) (mem (P, some 5, some 22) I J))) ∧ (¬ x1 < 0 → ((0 ≤ (gi I 74 13) ∧ (gi I 74 13) < 2) ∧ (((gi I 83 (gi I 74 13).toNat) ≤ x1 → (Q (some (vI 0)) (mem (P, some 5, some 22) I J))) ∧ (¬ (gi I 83 (gi I 74 13).toNat) ≤ x1 → (Q (some (vI 1)) (mem (P, some 5, some 22) I J)))))))) : WP k LAY m_X12_isReader 0 [(0, vR (some 74)), (1, vI x1)] [] (mem (P, some 5, some 22) I J) Q := by
  refine st_iload_n (pc' := 1) dX12_isReader_0 rfl rfl (j := 1) rfl ?_
  obtain ⟨e1, h⟩ := h
  refine st_if_lt (tg := 21) (pc' := 4) dX12_isReader_1 (by decide) rfl e1 (fun c => ?_) (fun c => ?_)
  · replace h := h.1 c
    refine st_iconst (pc' := 22) dX12_isReader_21 rfl ?_
    exact st_iret (ty := .boolean) dX12_isReader_22 rfl (by decide) rfl h
  · replace h := h.2 c
    refine st_iload_n (pc' := 5) dX12_isReader_4 rfl rfl (j := 1) rfl ?_
    refine st_aload_n (pc' := 6) dX12_isReader_5 rfl rfl (j := 0) rfl ?_
    refine G_X12_75_74 dX12_isReader_6 (pc' := 9) rfl rfl ?_
    refine st_aload_n (pc' := 10) dX12_isReader_9 rfl rfl (j := 0) rfl ?_
    refine G_X12_51_74 dX12_isReader_10 (pc' := 13) rfl rfl ?_
    obtain ⟨e2, h⟩ := h
    refine st_iaload (pc' := 14) (v := (gi I 83 (gi I 74 13).toNat)) dX12_isReader_13 rfl L_83 (by decide) e2 (show gi I 83 (gi I 74 13).toNat = (gi I 83 (gi I 74 13).toNat) from rfl) ?_
    refine st_icmp_ge (tg := 21) (pc' := 17) dX12_isReader_14 (by decide) rfl e1 (gi_in _ _ _) (fun c => ?_) (fun c => ?_)
    · replace h := h.1 c
      refine st_iconst (pc' := 22) dX12_isReader_21 rfl ?_
      exact st_iret (ty := .boolean) dX12_isReader_22 rfl (by decide) rfl h
    · replace h := h.2 c
      refine st_iconst (pc' := 18) dX12_isReader_17 rfl ?_
      refine st_goto (pc' := 22) dX12_isReader_18 (by decide) ?_
      exact st_iret (ty := .boolean) dX12_isReader_22 rfl (by decide) rfl h
theorem S_X12_isReader {k : Nat} {P : Option Nat} {I : Nat → Nat → Int32} {J : Nat → Nat → Int64} {w : Int} {Q : Option AV → Mem → Prop} (hk : 0 ≤ k) (hb : 0 ≤ gi I 74 13 ∧ gi I 74 13 < 2) (hw : inR w) (h : Q (some (vI (b2i (0 ≤ w ∧ w < gi I 83 (gi I 74 13).toNat)))) (mem (P, some 5, some 22) I J)) : WPm k LAY m_X12_isReader [vR (some 74), vI w] (mem (P, some 5, some 22) I J) Q := by
  refine WPm.of k_X12_isReader.1 (Nat.le_of_ble_eq_true rfl) (B_X12_isReader_0 (by omega) ?_)
  refine ⟨hw, fun c1 => ?_, fun c1 => ⟨hb, fun c2 => ?_, fun c2 => ?_⟩⟩ <;> exact WPm.eqI (by first | rfl | exact (b2i_0 (by omega)).symm | exact (b2i_1 (by omega)).symm) h
set_option maxRecDepth 20000 in
set_option maxHeartbeats 4000000 in
theorem B_X12_isTable_0 {k : Nat} {P : Option Nat} {I : Nat → Nat → Int32} {J : Nat → Nat → Int64} {x1 : Int} {Q : Option AV → Mem → Prop} (hk : 0 ≤ k) (h : inR x1 ∧ ((x1 < 0 → (Q (some (vI 0)) (mem (P, some 5, some 22) I J))) ∧ (¬ x1 < 0 → ((0 ≤ (gi I 74 13) ∧ (gi I 74 13) < 2) ∧ (((gi I 86 (gi I 74 13).toNat) ≤ x1 → (Q (some (vI 0)) (mem (P, some 5, some 22) I J))) ∧ (¬ (gi I 86 (gi I 74 13).toNat) ≤ x1 → (Q (some (vI 1)) (mem (P, some 5, some 22) I J)))))))) : WP k LAY m_X12_isTable 0 [(0, vR (some 74)), (1, vI x1)] [] (mem (P, some 5, some 22) I J) Q := by
  refine st_iload_n (pc' := 1) dX12_isTable_0 rfl rfl (j := 1) rfl ?_
  obtain ⟨e1, h⟩ := h
  refine st_if_lt (tg := 21) (pc' := 4) dX12_isTable_1 (by decide) rfl e1 (fun c => ?_) (fun c => ?_)
  · replace h := h.1 c
    refine st_iconst (pc' := 22) dX12_isTable_21 rfl ?_
    exact st_iret (ty := .boolean) dX12_isTable_22 rfl (by decide) rfl h
  · replace h := h.2 c
    refine st_iload_n (pc' := 5) dX12_isTable_4 rfl rfl (j := 1) rfl ?_
    refine st_aload_n (pc' := 6) dX12_isTable_5 rfl rfl (j := 0) rfl ?_
    refine G_X12_84_74 dX12_isTable_6 (pc' := 9) rfl rfl ?_
    refine st_aload_n (pc' := 10) dX12_isTable_9 rfl rfl (j := 0) rfl ?_
    refine G_X12_51_74 dX12_isTable_10 (pc' := 13) rfl rfl ?_
    obtain ⟨e2, h⟩ := h
    refine st_iaload (pc' := 14) (v := (gi I 86 (gi I 74 13).toNat)) dX12_isTable_13 rfl L_86 (by decide) e2 (show gi I 86 (gi I 74 13).toNat = (gi I 86 (gi I 74 13).toNat) from rfl) ?_
    refine st_icmp_ge (tg := 21) (pc' := 17) dX12_isTable_14 (by decide) rfl e1 (gi_in _ _ _) (fun c => ?_) (fun c => ?_)
    · replace h := h.1 c
      refine st_iconst (pc' := 22) dX12_isTable_21 rfl ?_
      exact st_iret (ty := .boolean) dX12_isTable_22 rfl (by decide) rfl h
    · replace h := h.2 c
      refine st_iconst (pc' := 18) dX12_isTable_17 rfl ?_
      refine st_goto (pc' := 22) dX12_isTable_18 (by decide) ?_
      exact st_iret (ty := .boolean) dX12_isTable_22 rfl (by decide) rfl h
theorem S_X12_isTable {k : Nat} {P : Option Nat} {I : Nat → Nat → Int32} {J : Nat → Nat → Int64} {w : Int} {Q : Option AV → Mem → Prop} (hk : 0 ≤ k) (hb : 0 ≤ gi I 74 13 ∧ gi I 74 13 < 2) (hw : inR w) (h : Q (some (vI (b2i (0 ≤ w ∧ w < gi I 86 (gi I 74 13).toNat)))) (mem (P, some 5, some 22) I J)) : WPm k LAY m_X12_isTable [vR (some 74), vI w] (mem (P, some 5, some 22) I J) Q := by
  refine WPm.of k_X12_isTable.1 (Nat.le_of_ble_eq_true rfl) (B_X12_isTable_0 (by omega) ?_)
  refine ⟨hw, fun c1 => ?_, fun c1 => ⟨hb, fun c2 => ?_, fun c2 => ?_⟩⟩ <;> exact WPm.eqI (by first | rfl | exact (b2i_0 (by omega)).symm | exact (b2i_1 (by omega)).symm) h
set_option maxRecDepth 20000 in
set_option maxHeartbeats 4000000 in
theorem B_X12_has_0 {k : Nat} {P : Option Nat} {I : Nat → Nat → Int32} {J : Nat → Nat → Int64} {x0 : Int} {x1 : Int} {Q : Option AV → Mem → Prop} (hk : 0 ≤ k) (h : (¬ (and32 (shr32 x0 x1) 1) = 1 → (Q (some (vI 0)) (mem (P, some 5, some 22) I J))) ∧ ((and32 (shr32 x0 x1) 1) = 1 → (Q (some (vI 1)) (mem (P, some 5, some 22) I J)))) : WP k LAY m_X12_has 0 [(0, vI x0), (1, vI x1)] [] (mem (P, some 5, some 22) I J) Q := by
  refine st_iload_n (pc' := 1) dX12_has_0 rfl rfl (j := 0) rfl ?_
  refine st_iload_n (pc' := 2) dX12_has_1 rfl rfl (j := 1) rfl ?_
  refine st_ishr (pc' := 3) (z := (shr32 x0 x1)) dX12_has_2 rfl rfl ?_
  refine st_iconst (pc' := 4) dX12_has_3 rfl ?_
  refine st_iand (pc' := 5) (z := (and32 (shr32 x0 x1) 1)) dX12_has_4 rfl rfl ?_
  refine st_iconst (pc' := 6) dX12_has_5 rfl ?_
  refine st_icmp_ne (tg := 13) (pc' := 9) dX12_has_6 (by decide) rfl (and32_in _ _) (by decide) (fun c => ?_) (fun c => ?_)
  · replace h := h.1 c
    refine st_iconst (pc' := 14) dX12_has_13 rfl ?_
    exact st_iret (ty := .boolean) dX12_has_14 rfl (by decide) rfl h
  · replace h := h.2 c
    refine st_iconst (pc' := 10) dX12_has_9 rfl ?_
    refine st_goto (pc' := 14) dX12_has_10 (by decide) ?_
    exact st_iret (ty := .boolean) dX12_has_14 rfl (by decide) rfl h
theorem S_X12_has {k : Nat} {P : Option Nat} {I : Nat → Nat → Int32} {J : Nat → Nat → Int64} {s w : Int} {Q : Option AV → Mem → Prop} (hk : 0 ≤ k)  (h : Q (some (vI (b2i (and32 (shr32 s w) 1 = 1)))) (mem (P, some 5, some 22) I J)) : WPm k LAY m_X12_has [vI s, vI w] (mem (P, some 5, some 22) I J) Q := by
  refine WPm.of k_X12_has.1 (Nat.le_of_ble_eq_true rfl) (B_X12_has_0 (by omega) ?_)
  refine ⟨fun c1 => ?_, fun c1 => ?_⟩ <;> exact WPm.eqI (by first | exact (b2i_0 c1).symm | exact (b2i_1 (by omega)).symm) h
set_option maxRecDepth 20000 in
set_option maxHeartbeats 4000000 in
theorem B_X12_isPart_0 {k : Nat} {P : Option Nat} {I : Nat → Nat → Int32} {J : Nat → Nat → Int64} {x0 : Int} {Q : Option AV → Mem → Prop} (hk : 0 ≤ k) (h : inR x0 ∧ ((x0 < 10 → (Q (some (vI 1)) (mem (P, some 5, some 22) I J))) ∧ (¬ x0 < 10 → ((¬ x0 = 30 → (Q (some (vI 0)) (mem (P, some 5, some 22) I J))) ∧ (x0 = 30 → (Q (some (vI 1)) (mem (P, some 5, some 22) I J))))))) : WP k LAY m_X12_isPart 0 [(0, vI x0)] [] (mem (P, some 5, some 22) I J) Q := by
  refine st_iload_n (pc' := 1) dX12_isPart_0 rfl rfl (j := 0) rfl ?_
  refine st_bipush (pc' := 3) dX12_isPart_1 rfl (by decide) ?_
  obtain ⟨e1, h⟩ := h
  refine st_icmp_lt (tg := 12) (pc' := 6) dX12_isPart_3 (by decide) rfl e1 (by decide) (fun c => ?_) (fun c => ?_)
  · replace h := h.1 c
    refine st_iconst (pc' := 13) dX12_isPart_12 rfl ?_
    refine st_goto (pc' := 17) dX12_isPart_13 (by decide) ?_
    exact st_iret (ty := .boolean) dX12_isPart_17 rfl (by decide) rfl h
  · replace h := h.2 c
    refine st_iload_n (pc' := 7) dX12_isPart_6 rfl rfl (j := 0) rfl ?_
    refine st_bipush (pc' := 9) dX12_isPart_7 rfl (by decide) ?_
    refine st_icmp_ne (tg := 16) (pc' := 12) dX12_isPart_9 (by decide) rfl e1 (by decide) (fun c => ?_) (fun c => ?_)
    · replace h := h.1 c
      refine st_iconst (pc' := 17) dX12_isPart_16 rfl ?_
      exact st_iret (ty := .boolean) dX12_isPart_17 rfl (by decide) rfl h
    · replace h := h.2 c
      refine st_iconst (pc' := 13) dX12_isPart_12 rfl ?_
      refine st_goto (pc' := 17) dX12_isPart_13 (by decide) ?_
      exact st_iret (ty := .boolean) dX12_isPart_17 rfl (by decide) rfl h
theorem S_X12_isPart {k : Nat} {P : Option Nat} {I : Nat → Nat → Int32} {J : Nat → Nat → Int64} {w : Int} {Q : Option AV → Mem → Prop} (hk : 0 ≤ k) (hw : inR w) (h : Q (some (vI (b2i (w < 10 ∨ w = 30)))) (mem (P, some 5, some 22) I J)) : WPm k LAY m_X12_isPart [vI w] (mem (P, some 5, some 22) I J) Q := by
  refine WPm.of k_X12_isPart.1 (Nat.le_of_ble_eq_true rfl) (B_X12_isPart_0 (by omega) ?_)
  refine ⟨hw, fun c1 => ?_, fun c1 => ⟨fun c2 => ?_, fun c2 => ?_⟩⟩ <;> exact WPm.eqI (by first | rfl | exact (b2i_0 (by omega)).symm | exact (b2i_1 (by omega)).symm) h
end BASEM

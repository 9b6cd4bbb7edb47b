section BASE
theorem osw_ne {a o d x : Int} {r : List (Int × Int)} (h : ¬ x = a) : Op.lookupswitch.offset ((a, o) :: r) d x = Op.lookupswitch.offset r d x := by rw [Op.lookupswitch.offset_cons, if_neg (fun q => h q.symm)]
set_option maxRecDepth 20000 in
set_option maxHeartbeats 4000000 in
theorem B_X10_isLetter_0 {k : Nat} {P : Option Nat} {I : Nat → Nat → Int32} {J : Nat → Nat → Int64} {x0 : Int} {Q : Option AV → Mem → Prop} (hk : 0 ≤ k) (h : inR x0 ∧ ((x0 < 97 → (Q (some (vI 0)) (mem (P, some 5, some 22) I J))) ∧ (¬ x0 < 97 → ((122 < x0 → (Q (some (vI 0)) (mem (P, some 5, some 22) I J))) ∧ (¬ 122 < x0 → (Q (some (vI 1)) (mem (P, some 5, some 22) I J))))))) : WP k LAY m_X10_isLetter 0 [(0, vI x0)] [] (mem (P, some 5, some 22) I J) Q := by
  refine st_iload_n (pc' := 1) dX10_isLetter_0 rfl rfl (j := 0) rfl ?_
  refine st_bipush (pc' := 3) dX10_isLetter_1 rfl (by decide) ?_
  obtain ⟨e1, h⟩ := h
  refine st_icmp_lt (tg := 16) (pc' := 6) dX10_isLetter_3 (by decide) rfl e1 (by decide) (fun c => ?_) (fun c => ?_)
  · replace h := h.1 c
    refine st_iconst (pc' := 17) dX10_isLetter_16 rfl ?_
    exact st_iret (ty := .boolean) dX10_isLetter_17 rfl (by decide) rfl h
  · replace h := h.2 c
    refine st_iload_n (pc' := 7) dX10_isLetter_6 rfl rfl (j := 0) rfl ?_
    refine st_bipush (pc' := 9) dX10_isLetter_7 rfl (by decide) ?_
    refine st_icmp_gt (tg := 16) (pc' := 12) dX10_isLetter_9 (by decide) rfl e1 (by decide) (fun c => ?_) (fun c => ?_)
    · replace h := h.1 c
      refine st_iconst (pc' := 17) dX10_isLetter_16 rfl ?_
      exact st_iret (ty := .boolean) dX10_isLetter_17 rfl (by decide) rfl h
    · replace h := h.2 c
      refine st_iconst (pc' := 13) dX10_isLetter_12 rfl ?_
      refine st_goto (pc' := 17) dX10_isLetter_13 (by decide) ?_
      exact st_iret (ty := .boolean) dX10_isLetter_17 rfl (by decide) rfl h
theorem S_X10_isLetter {k : Nat} {P : Option Nat} {I : Nat → Nat → Int32} {J : Nat → Nat → Int64} {c : Int} {Q : Option AV → Mem → Prop} (hk : 0 ≤ k) (hc : inR c) (h : Q (some (vI (b2i (97 ≤ c ∧ c ≤ 122)))) (mem (P, some 5, some 22) I J)) : WPm k LAY m_X10_isLetter [vI c] (mem (P, some 5, some 22) I J) Q := by
  refine WPm.of k_X10_isLetter.1 (Nat.le_of_ble_eq_true rfl) (B_X10_isLetter_0 (by omega) ?_)
  refine ⟨hc, fun c1 => ?_, fun c1 => ⟨fun c2 => ?_, fun c2 => ?_⟩⟩ <;> exact WPm.eqI (by first | rfl | exact (b2i_0 (by omega)).symm | exact (b2i_1 (by omega)).symm) h
set_option maxRecDepth 20000 in
set_option maxHeartbeats 4000000 in
theorem B_X10_isDigit_0 {k : Nat} {P : Option Nat} {I : Nat → Nat → Int32} {J : Nat → Nat → Int64} {x0 : Int} {Q : Option AV → Mem → Prop} (hk : 0 ≤ k) (h : inR x0 ∧ ((x0 < 48 → (Q (some (vI 0)) (mem (P, some 5, some 22) I J))) ∧ (¬ x0 < 48 → ((57 < x0 → (Q (some (vI 0)) (mem (P, some 5, some 22) I J))) ∧ (¬ 57 < x0 → (Q (some (vI 1)) (mem (P, some 5, some 22) I J))))))) : WP k LAY m_X10_isDigit 0 [(0, vI x0)] [] (mem (P, some 5, some 22) I J) Q := by
  refine st_iload_n (pc' := 1) dX10_isDigit_0 rfl rfl (j := 0) rfl ?_
  refine st_bipush (pc' := 3) dX10_isDigit_1 rfl (by decide) ?_
  obtain ⟨e1, h⟩ := h
  refine st_icmp_lt (tg := 16) (pc' := 6) dX10_isDigit_3 (by decide) rfl e1 (by decide) (fun c => ?_) (fun c => ?_)
  · replace h := h.1 c
    refine st_iconst (pc' := 17) dX10_isDigit_16 rfl ?_
    exact st_iret (ty := .boolean) dX10_isDigit_17 rfl (by decide) rfl h
  · replace h := h.2 c
    refine st_iload_n (pc' := 7) dX10_isDigit_6 rfl rfl (j := 0) rfl ?_
    refine st_bipush (pc' := 9) dX10_isDigit_7 rfl (by decide) ?_
    refine st_icmp_gt (tg := 16) (pc' := 12) dX10_isDigit_9 (by decide) rfl e1 (by decide) (fun c => ?_) (fun c => ?_)
    · replace h := h.1 c
      refine st_iconst (pc' := 17) dX10_isDigit_16 rfl ?_
      exact st_iret (ty := .boolean) dX10_isDigit_17 rfl (by decide) rfl h
    · replace h := h.2 c
      refine st_iconst (pc' := 13) dX10_isDigit_12 rfl ?_
      refine st_goto (pc' := 17) dX10_isDigit_13 (by decide) ?_
      exact st_iret (ty := .boolean) dX10_isDigit_17 rfl (by decide) rfl h
theorem S_X10_isDigit {k : Nat} {P : Option Nat} {I : Nat → Nat → Int32} {J : Nat → Nat → Int64} {c : Int} {Q : Option AV → Mem → Prop} (hk : 0 ≤ k) (hc : inR c) (h : Q (some (vI (b2i (48 ≤ c ∧ c ≤ 57)))) (mem (P, some 5, some 22) I J)) : WPm k LAY m_X10_isDigit [vI c] (mem (P, some 5, some 22) I J) Q := by
  refine WPm.of k_X10_isDigit.1 (Nat.le_of_ble_eq_true rfl) (B_X10_isDigit_0 (by omega) ?_)
  refine ⟨hc, fun c1 => ?_, fun c1 => ⟨fun c2 => ?_, fun c2 => ?_⟩⟩ <;> exact WPm.eqI (by first | rfl | exact (b2i_0 (by omega)).symm | exact (b2i_1 (by omega)).symm) h
/-- the byte at a place of the tape; -1 beyond -/
def byt (I : Nat → Nat → Int32) (k : Int) : Int := if 0 ≤ k ∧ k < gi I 1 1 then gi I 2 k.toNat else -1
theorem byt_in (I : Nat → Nat → Int32) (k : Int) : inR (byt I k) := by unfold byt; split <;> first | exact gi_in _ _ _ | decide
set_option maxRecDepth 20000 in
set_option maxHeartbeats 4000000 in
theorem B_X10_byteAt_0 {k : Nat} {P : Option Nat} {I : Nat → Nat → Int32} {J : Nat → Nat → Int64} {x1 : Int} {Q : Option AV → Mem → Prop} (hk : 0 ≤ k) (h : inR x1 ∧ ((x1 < 0 → (Q (some (vI (-1))) (mem (P, some 5, some 22) I J))) ∧ (¬ x1 < 0 → (((gi I 1 1) ≤ x1 → (Q (some (vI (-1))) (mem (P, some 5, some 22) I J))) ∧ (¬ (gi I 1 1) ≤ x1 → ((0 ≤ x1 ∧ x1 < 1600) ∧ (Q (some (vI (gi I 2 (x1).toNat))) (mem (P, some 5, some 22) I J)))))))) : WP k LAY m_X10_byteAt 0 [(0, vR (some 1)), (1, vI x1)] [] (mem (P, some 5, some 22) I J) Q := by
  refine st_iload_n (pc' := 1) dX10_byteAt_0 rfl rfl (j := 1) rfl ?_
  obtain ⟨e1, h⟩ := h
  refine st_if_lt (tg := 21) (pc' := 4) dX10_byteAt_1 (by decide) rfl e1 (fun c => ?_) (fun c => ?_)
  · replace h := h.1 c
    refine st_iconst (pc' := 22) dX10_byteAt_21 rfl ?_
    exact st_iret (ty := .int) dX10_byteAt_22 rfl rfl rfl h
  · replace h := h.2 c
    refine st_iload_n (pc' := 5) dX10_byteAt_4 rfl rfl (j := 1) rfl ?_
    refine st_aload_n (pc' := 6) dX10_byteAt_5 rfl rfl (j := 0) rfl ?_
    refine G_X10_15_1 dX10_byteAt_6 (pc' := 9) rfl rfl ?_
    refine st_icmp_ge (tg := 21) (pc' := 12) dX10_byteAt_9 (by decide) rfl e1 (gi_in _ _ _) (fun c => ?_) (fun c => ?_)
    · replace h := h.1 c
      refine st_iconst (pc' := 22) dX10_byteAt_21 rfl ?_
      exact st_iret (ty := .int) dX10_byteAt_22 rfl rfl rfl h
    · replace h := h.2 c
      refine st_aload_n (pc' := 13) dX10_byteAt_12 rfl rfl (j := 0) rfl ?_
      refine G_X10_9_1 dX10_byteAt_13 (pc' := 16) rfl rfl ?_
      refine st_iload_n (pc' := 17) dX10_byteAt_16 rfl rfl (j := 1) rfl ?_
      obtain ⟨e2, h⟩ := h
      refine st_iaload (pc' := 18) (v := (gi I 2 (x1).toNat)) dX10_byteAt_17 rfl L_2 (by decide) e2 (show gi I 2 (x1).toNat = (gi I 2 (x1).toNat) from rfl) ?_
      refine st_goto (pc' := 22) dX10_byteAt_18 (by decide) ?_
      exact st_iret (ty := .int) dX10_byteAt_22 rfl rfl rfl h
theorem S_X10_byteAt {k : Nat} {P : Option Nat} {I : Nat → Nat → Int32} {J : Nat → Nat → Int64} {x : Int} {Q : Option AV → Mem → Prop} (hk : 0 ≤ k) (hx : inR x) (hl : gi I 1 1 ≤ 1600) (h : Q (some (vI (byt I x))) (mem (P, some 5, some 22) I J)) : WPm k LAY m_X10_byteAt [vR (some 1), vI x] (mem (P, some 5, some 22) I J) Q := by
  refine WPm.of k_X10_byteAt.1 (Nat.le_of_ble_eq_true rfl) (B_X10_byteAt_0 (by omega) ?_)
  refine ⟨hx, fun c1 => ?_, fun c1 => ⟨fun c2 => ?_, fun c2 => ⟨⟨by omega, by omega⟩, ?_⟩⟩⟩
  · exact WPm.eqI (by unfold byt; rw [if_neg (by omega)]) h
  · exact WPm.eqI (by unfold byt; rw [if_neg (by omega)]) h
  · exact WPm.eqI (by unfold byt; rw [if_pos (by omega)]) h
set_option maxRecDepth 20000 in
set_option maxHeartbeats 4000000 in
theorem B_X10_isOwn_0 {k : Nat} {P : Option Nat} {I : Nat → Nat → Int32} {J : Nat → Nat → Int64} {x1 : Int} {Q : Option AV → Mem → Prop} (hk : 0 ≤ k) (h : (¬ (gi I 1 2) = 2 → (Q (some (vI 0)) (mem (P, some 5, some 22) I J))) ∧ ((gi I 1 2) = 2 → (inR x1 ∧ ((¬ (gi I 1 5) = x1 → (Q (some (vI 0)) (mem (P, some 5, some 22) I J))) ∧ ((gi I 1 5) = x1 → (Q (some (vI 1)) (mem (P, some 5, some 22) I J))))))) : WP k LAY m_X10_isOwn 0 [(0, vR (some 1)), (1, vI x1)] [] (mem (P, some 5, some 22) I J) Q := by
  refine st_aload_n (pc' := 1) dX10_isOwn_0 rfl rfl (j := 0) rfl ?_
  refine G_X10_22_1 dX10_isOwn_1 (pc' := 4) rfl rfl ?_
  refine st_iconst (pc' := 5) dX10_isOwn_4 rfl ?_
  refine st_icmp_ne (tg := 20) (pc' := 8) dX10_isOwn_5 (by decide) rfl (gi_in _ _ _) (by decide) (fun c => ?_) (fun c => ?_)
  · replace h := h.1 c
    refine st_iconst (pc' := 21) dX10_isOwn_20 rfl ?_
    exact st_iret (ty := .boolean) dX10_isOwn_21 rfl (by decide) rfl h
  · replace h := h.2 c
    refine st_aload_n (pc' := 9) dX10_isOwn_8 rfl rfl (j := 0) rfl ?_
    refine G_X10_35_1 dX10_isOwn_9 (pc' := 12) rfl rfl ?_
    refine st_iload_n (pc' := 13) dX10_isOwn_12 rfl rfl (j := 1) rfl ?_
    obtain ⟨e1, h⟩ := h
    refine st_icmp_ne (tg := 20) (pc' := 16) dX10_isOwn_13 (by decide) rfl (gi_in _ _ _) e1 (fun c => ?_) (fun c => ?_)
    · replace h := h.1 c
      refine st_iconst (pc' := 21) dX10_isOwn_20 rfl ?_
      exact st_iret (ty := .boolean) dX10_isOwn_21 rfl (by decide) rfl h
    · replace h := h.2 c
      refine st_iconst (pc' := 17) dX10_isOwn_16 rfl ?_
      refine st_goto (pc' := 21) dX10_isOwn_17 (by decide) ?_
      exact st_iret (ty := .boolean) dX10_isOwn_21 rfl (by decide) rfl h
theorem S_X10_isOwn {k : Nat} {P : Option Nat} {I : Nat → Nat → Int32} {J : Nat → Nat → Int64} {w : Int} {Q : Option AV → Mem → Prop} (hk : 0 ≤ k) (hw : inR w) (h : Q (some (vI (b2i (gi I 1 2 = 2 ∧ gi I 1 5 = w)))) (mem (P, some 5, some 22) I J)) : WPm k LAY m_X10_isOwn [vR (some 1), vI w] (mem (P, some 5, some 22) I J) Q := by
  refine WPm.of k_X10_isOwn.1 (Nat.le_of_ble_eq_true rfl) (B_X10_isOwn_0 (by omega) ?_)
  refine ⟨fun c1 => ?_, fun c1 => ⟨hw, fun c2 => ?_, fun c2 => ?_⟩⟩ <;> exact WPm.eqI (by first | rfl | exact (b2i_0 (by omega)).symm | exact (b2i_1 (by omega)).symm) h
set_option maxRecDepth 20000 in
set_option maxHeartbeats 4000000 in
theorem B_X10_isSign_0 {k : Nat} {P : Option Nat} {I : Nat → Nat → Int32} {J : Nat → Nat → Int64} {x1 : Int} {Q : Option AV → Mem → Prop} (hk : 0 ≤ k) (h : (¬ (gi I 1 2) = 4 → (Q (some (vI 0)) (mem (P, some 5, some 22) I J))) ∧ ((gi I 1 2) = 4 → (inR x1 ∧ ((¬ (gi I 1 5) = x1 → (Q (some (vI 0)) (mem (P, some 5, some 22) I J))) ∧ ((gi I 1 5) = x1 → (Q (some (vI 1)) (mem (P, some 5, some 22) I J))))))) : WP k LAY m_X10_isSign 0 [(0, vR (some 1)), (1, vI x1)] [] (mem (P, some 5, some 22) I J) Q := by
  refine st_aload_n (pc' := 1) dX10_isSign_0 rfl rfl (j := 0) rfl ?_
  refine G_X10_22_1 dX10_isSign_1 (pc' := 4) rfl rfl ?_
  refine st_iconst (pc' := 5) dX10_isSign_4 rfl ?_
  refine st_icmp_ne (tg := 20) (pc' := 8) dX10_isSign_5 (by decide) rfl (gi_in _ _ _) (by decide) (fun c => ?_) (fun c => ?_)
  · replace h := h.1 c
    refine st_iconst (pc' := 21) dX10_isSign_20 rfl ?_
    exact st_iret (ty := .boolean) dX10_isSign_21 rfl (by decide) rfl h
  · replace h := h.2 c
    refine st_aload_n (pc' := 9) dX10_isSign_8 rfl rfl (j := 0) rfl ?_
    refine G_X10_35_1 dX10_isSign_9 (pc' := 12) rfl rfl ?_
    refine st_iload_n (pc' := 13) dX10_isSign_12 rfl rfl (j := 1) rfl ?_
    obtain ⟨e1, h⟩ := h
    refine st_icmp_ne (tg := 20) (pc' := 16) dX10_isSign_13 (by decide) rfl (gi_in _ _ _) e1 (fun c => ?_) (fun c => ?_)
    · replace h := h.1 c
      refine st_iconst (pc' := 21) dX10_isSign_20 rfl ?_
      exact st_iret (ty := .boolean) dX10_isSign_21 rfl (by decide) rfl h
    · replace h := h.2 c
      refine st_iconst (pc' := 17) dX10_isSign_16 rfl ?_
      refine st_goto (pc' := 21) dX10_isSign_17 (by decide) ?_
      exact st_iret (ty := .boolean) dX10_isSign_21 rfl (by decide) rfl h
theorem S_X10_isSign {k : Nat} {P : Option Nat} {I : Nat → Nat → Int32} {J : Nat → Nat → Int64} {w : Int} {Q : Option AV → Mem → Prop} (hk : 0 ≤ k) (hw : inR w) (h : Q (some (vI (b2i (gi I 1 2 = 4 ∧ gi I 1 5 = w)))) (mem (P, some 5, some 22) I J)) : WPm k LAY m_X10_isSign [vR (some 1), vI w] (mem (P, some 5, some 22) I J) Q := by
  refine WPm.of k_X10_isSign.1 (Nat.le_of_ble_eq_true rfl) (B_X10_isSign_0 (by omega) ?_)
  refine ⟨fun c1 => ?_, fun c1 => ⟨hw, fun c2 => ?_, fun c2 => ?_⟩⟩ <;> exact WPm.eqI (by first | rfl | exact (b2i_0 (by omega)).symm | exact (b2i_1 (by omega)).symm) h
set_option maxRecDepth 20000 in
set_option maxHeartbeats 4000000 in
theorem B_X7_holds_5_0 {k : Nat} {P : Option Nat} {I : Nat → Nat → Int32} {J : Nat → Nat → Int64} {x1 : Int} {x2 : Int} {Q : Option AV → Mem → Prop} (hk : 0 ≤ k) (h : inR x2 ∧ ((x2 < 0 → (Q (some (vI 0)) (mem (P, some 5, some 22) I J))) ∧ (¬ x2 < 0 → ((0 ≤ x1 ∧ x1 < 4) ∧ (((gi I 6 (x1).toNat) ≤ x2 → (Q (some (vI 0)) (mem (P, some 5, some 22) I J))) ∧ (¬ (gi I 6 (x1).toNat) ≤ x2 → (Q (some (vI 1)) (mem (P, some 5, some 22) I J)))))))) : WP k LAY m_X7_holds 0 [(0, vR (some 5)), (1, vI x1), (2, vI x2)] [] (mem (P, some 5, some 22) I J) Q := by
  refine st_iload_n (pc' := 1) dX7_holds_0 rfl rfl (j := 2) rfl ?_
  obtain ⟨e1, h⟩ := h
  refine st_if_lt (tg := 18) (pc' := 4) dX7_holds_1 (by decide) rfl e1 (fun c => ?_) (fun c => ?_)
  · replace h := h.1 c
    refine st_iconst (pc' := 19) dX7_holds_18 rfl ?_
    exact st_iret (ty := .boolean) dX7_holds_19 rfl (by decide) rfl h
  · replace h := h.2 c
    refine st_iload_n (pc' := 5) dX7_holds_4 rfl rfl (j := 2) rfl ?_
    refine st_aload_n (pc' := 6) dX7_holds_5 rfl rfl (j := 0) rfl ?_
    refine G_X7_9_5 dX7_holds_6 (pc' := 9) rfl rfl ?_
    refine st_iload_n (pc' := 10) dX7_holds_9 rfl rfl (j := 1) rfl ?_
    obtain ⟨e2, h⟩ := h
    refine st_iaload (pc' := 11) (v := (gi I 6 (x1).toNat)) dX7_holds_10 rfl L_6 (by decide) e2 (show gi I 6 (x1).toNat = (gi I 6 (x1).toNat) from rfl) ?_
    refine st_icmp_ge (tg := 18) (pc' := 14) dX7_holds_11 (by decide) rfl e1 (gi_in _ _ _) (fun c => ?_) (fun c => ?_)
    · replace h := h.1 c
      refine st_iconst (pc' := 19) dX7_holds_18 rfl ?_
      exact st_iret (ty := .boolean) dX7_holds_19 rfl (by decide) rfl h
    · replace h := h.2 c
      refine st_iconst (pc' := 15) dX7_holds_14 rfl ?_
      refine st_goto (pc' := 19) dX7_holds_15 (by decide) ?_
      exact st_iret (ty := .boolean) dX7_holds_19 rfl (by decide) rfl h
set_option maxRecDepth 20000 in
set_option maxHeartbeats 4000000 in
theorem B_X7_holds_22_0 {k : Nat} {P : Option Nat} {I : Nat → Nat → Int32} {J : Nat → Nat → Int64} {x1 : Int} {x2 : Int} {Q : Option AV → Mem → Prop} (hk : 0 ≤ k) (h : inR x2 ∧ ((x2 < 0 → (Q (some (vI 0)) (mem (P, some 5, some 22) I J))) ∧ (¬ x2 < 0 → ((0 ≤ x1 ∧ x1 < 4) ∧ (((gi I 23 (x1).toNat) ≤ x2 → (Q (some (vI 0)) (mem (P, some 5, some 22) I J))) ∧ (¬ (gi I 23 (x1).toNat) ≤ x2 → (Q (some (vI 1)) (mem (P, some 5, some 22) I J)))))))) : WP k LAY m_X7_holds 0 [(0, vR (some 22)), (1, vI x1), (2, vI x2)] [] (mem (P, some 5, some 22) I J) Q := by
  refine st_iload_n (pc' := 1) dX7_holds_0 rfl rfl (j := 2) rfl ?_
  obtain ⟨e1, h⟩ := h
  refine st_if_lt (tg := 18) (pc' := 4) dX7_holds_1 (by decide) rfl e1 (fun c => ?_) (fun c => ?_)
  · replace h := h.1 c
    refine st_iconst (pc' := 19) dX7_holds_18 rfl ?_
    exact st_iret (ty := .boolean) dX7_holds_19 rfl (by decide) rfl h
  · replace h := h.2 c
    refine st_iload_n (pc' := 5) dX7_holds_4 rfl rfl (j := 2) rfl ?_
    refine st_aload_n (pc' := 6) dX7_holds_5 rfl rfl (j := 0) rfl ?_
    refine G_X7_9_22 dX7_holds_6 (pc' := 9) rfl rfl ?_
    refine st_iload_n (pc' := 10) dX7_holds_9 rfl rfl (j := 1) rfl ?_
    obtain ⟨e2, h⟩ := h
    refine st_iaload (pc' := 11) (v := (gi I 23 (x1).toNat)) dX7_holds_10 rfl L_23 (by decide) e2 (show gi I 23 (x1).toNat = (gi I 23 (x1).toNat) from rfl) ?_
    refine st_icmp_ge (tg := 18) (pc' := 14) dX7_holds_11 (by decide) rfl e1 (gi_in _ _ _) (fun c => ?_) (fun c => ?_)
    · replace h := h.1 c
      refine st_iconst (pc' := 19) dX7_holds_18 rfl ?_
      exact st_iret (ty := .boolean) dX7_holds_19 rfl (by decide) rfl h
    · replace h := h.2 c
      refine st_iconst (pc' := 15) dX7_holds_14 rfl ?_
      refine st_goto (pc' := 19) dX7_holds_15 (by decide) ?_
      exact st_iret (ty := .boolean) dX7_holds_19 rfl (by decide) rfl h
set_option maxRecDepth 20000 in
set_option maxHeartbeats 4000000 in
theorem B_X7_mayRead_5_0 {k : Nat} {P : Option Nat} {I : Nat → Nat → Int32} {J : Nat → Nat → Int64} {x1 : Int} {x2 : Int} {Q : Option AV → Mem → Prop} (hk : 0 ≤ k) (h : (0 ≤ x2 ∧ x2 < 14) ∧ ((¬ (and32 (gi I 11 (x2).toNat) (xor32 x1 (-1))) = 0 → (Q (some (vI 0)) (mem (P, some 5, some 22) I J))) ∧ ((and32 (gi I 11 (x2).toNat) (xor32 x1 (-1))) = 0 → (Q (some (vI 1)) (mem (P, some 5, some 22) I J))))) : WP k LAY m_X7_mayRead 0 [(0, vR (some 5)), (1, vI x1), (2, vI x2)] [] (mem (P, some 5, some 22) I J) Q := by
  refine st_aload_n (pc' := 1) dX7_mayRead_0 rfl rfl (j := 0) rfl ?_
  refine G_X7_27_5 dX7_mayRead_1 (pc' := 4) rfl rfl ?_
  refine st_iload_n (pc' := 5) dX7_mayRead_4 rfl rfl (j := 2) rfl ?_
  obtain ⟨e1, h⟩ := h
  refine st_iaload (pc' := 6) (v := (gi I 11 (x2).toNat)) dX7_mayRead_5 rfl L_11 (by decide) e1 (show gi I 11 (x2).toNat = (gi I 11 (x2).toNat) from rfl) ?_
  refine st_iload_n (pc' := 7) dX7_mayRead_6 rfl rfl (j := 1) rfl ?_
  refine st_iconst (pc' := 8) dX7_mayRead_7 rfl ?_
  refine st_ixor (pc' := 9) (z := (xor32 x1 (-1))) dX7_mayRead_8 rfl rfl ?_
  refine st_iand (pc' := 10) (z := (and32 (gi I 11 (x2).toNat) (xor32 x1 (-1)))) dX7_mayRead_9 rfl rfl ?_
  refine st_if_ne (tg := 17) (pc' := 13) dX7_mayRead_10 (by decide) rfl (and32_in _ _) (fun c => ?_) (fun c => ?_)
  · replace h := h.1 c
    refine st_iconst (pc' := 18) dX7_mayRead_17 rfl ?_
    exact st_iret (ty := .boolean) dX7_mayRead_18 rfl (by decide) rfl h
  · replace h := h.2 c
    refine st_iconst (pc' := 14) dX7_mayRead_13 rfl ?_
    refine st_goto (pc' := 18) dX7_mayRead_14 (by decide) ?_
    exact st_iret (ty := .boolean) dX7_mayRead_18 rfl (by decide) rfl h
set_option maxRecDepth 20000 in
set_option maxHeartbeats 4000000 in
theorem B_X7_mayRead_22_0 {k : Nat} {P : Option Nat} {I : Nat → Nat → Int32} {J : Nat → Nat → Int64} {x1 : Int} {x2 : Int} {Q : Option AV → Mem → Prop} (hk : 0 ≤ k) (h : (0 ≤ x2 ∧ x2 < 14) ∧ ((¬ (and32 (gi I 28 (x2).toNat) (xor32 x1 (-1))) = 0 → (Q (some (vI 0)) (mem (P, some 5, some 22) I J))) ∧ ((and32 (gi I 28 (x2).toNat) (xor32 x1 (-1))) = 0 → (Q (some (vI 1)) (mem (P, some 5, some 22) I J))))) : WP k LAY m_X7_mayRead 0 [(0, vR (some 22)), (1, vI x1), (2, vI x2)] [] (mem (P, some 5, some 22) I J) Q := by
  refine st_aload_n (pc' := 1) dX7_mayRead_0 rfl rfl (j := 0) rfl ?_
  refine G_X7_27_22 dX7_mayRead_1 (pc' := 4) rfl rfl ?_
  refine st_iload_n (pc' := 5) dX7_mayRead_4 rfl rfl (j := 2) rfl ?_
  obtain ⟨e1, h⟩ := h
  refine st_iaload (pc' := 6) (v := (gi I 28 (x2).toNat)) dX7_mayRead_5 rfl L_28 (by decide) e1 (show gi I 28 (x2).toNat = (gi I 28 (x2).toNat) from rfl) ?_
  refine st_iload_n (pc' := 7) dX7_mayRead_6 rfl rfl (j := 1) rfl ?_
  refine st_iconst (pc' := 8) dX7_mayRead_7 rfl ?_
  refine st_ixor (pc' := 9) (z := (xor32 x1 (-1))) dX7_mayRead_8 rfl rfl ?_
  refine st_iand (pc' := 10) (z := (and32 (gi I 28 (x2).toNat) (xor32 x1 (-1)))) dX7_mayRead_9 rfl rfl ?_
  refine st_if_ne (tg := 17) (pc' := 13) dX7_mayRead_10 (by decide) rfl (and32_in _ _) (fun c => ?_) (fun c => ?_)
  · replace h := h.1 c
    refine st_iconst (pc' := 18) dX7_mayRead_17 rfl ?_
    exact st_iret (ty := .boolean) dX7_mayRead_18 rfl (by decide) rfl h
  · replace h := h.2 c
    refine st_iconst (pc' := 14) dX7_mayRead_13 rfl ?_
    refine st_goto (pc' := 18) dX7_mayRead_14 (by decide) ?_
    exact st_iret (ty := .boolean) dX7_mayRead_18 rfl (by decide) rfl h
set_option maxRecDepth 20000 in
set_option maxHeartbeats 4000000 in
theorem B_X7_hasRule_5_0 {k : Nat} {P : Option Nat} {I : Nat → Nat → Int32} {J : Nat → Nat → Int64} {x1 : Int} {Q : Option AV → Mem → Prop} (hk : 0 ≤ k) (h : (0 ≤ x1 ∧ x1 < 3) ∧ (((gi I 18 (x1).toNat) ≤ 0 → (Q (some (vI 0)) (mem (P, some 5, some 22) I J))) ∧ (¬ (gi I 18 (x1).toNat) ≤ 0 → (Q (some (vI 1)) (mem (P, some 5, some 22) I J))))) : WP k LAY m_X7_hasRule 0 [(0, vR (some 5)), (1, vI x1)] [] (mem (P, some 5, some 22) I J) Q := by
  refine st_aload_n (pc' := 1) dX7_hasRule_0 rfl rfl (j := 0) rfl ?_
  refine G_X7_48_5 dX7_hasRule_1 (pc' := 4) rfl rfl ?_
  refine st_iload_n (pc' := 5) dX7_hasRule_4 rfl rfl (j := 1) rfl ?_
  obtain ⟨e1, h⟩ := h
  refine st_iaload (pc' := 6) (v := (gi I 18 (x1).toNat)) dX7_hasRule_5 rfl L_18 (by decide) e1 (show gi I 18 (x1).toNat = (gi I 18 (x1).toNat) from rfl) ?_
  refine st_if_le (tg := 13) (pc' := 9) dX7_hasRule_6 (by decide) rfl (gi_in _ _ _) (fun c => ?_) (fun c => ?_)
  · replace h := h.1 c
    refine st_iconst (pc' := 14) dX7_hasRule_13 rfl ?_
    exact st_iret (ty := .boolean) dX7_hasRule_14 rfl (by decide) rfl h
  · replace h := h.2 c
    refine st_iconst (pc' := 10) dX7_hasRule_9 rfl ?_
    refine st_goto (pc' := 14) dX7_hasRule_10 (by decide) ?_
    exact st_iret (ty := .boolean) dX7_hasRule_14 rfl (by decide) rfl h
set_option maxRecDepth 20000 in
set_option maxHeartbeats 4000000 in
theorem B_X7_hasRule_22_0 {k : Nat} {P : Option Nat} {I : Nat → Nat → Int32} {J : Nat → Nat → Int64} {x1 : Int} {Q : Option AV → Mem → Prop} (hk : 0 ≤ k) (h : (0 ≤ x1 ∧ x1 < 3) ∧ (((gi I 35 (x1).toNat) ≤ 0 → (Q (some (vI 0)) (mem (P, some 5, some 22) I J))) ∧ (¬ (gi I 35 (x1).toNat) ≤ 0 → (Q (some (vI 1)) (mem (P, some 5, some 22) I J))))) : WP k LAY m_X7_hasRule 0 [(0, vR (some 22)), (1, vI x1)] [] (mem (P, some 5, some 22) I J) Q := by
  refine st_aload_n (pc' := 1) dX7_hasRule_0 rfl rfl (j := 0) rfl ?_
  refine G_X7_48_22 dX7_hasRule_1 (pc' := 4) rfl rfl ?_
  refine st_iload_n (pc' := 5) dX7_hasRule_4 rfl rfl (j := 1) rfl ?_
  obtain ⟨e1, h⟩ := h
  refine st_iaload (pc' := 6) (v := (gi I 35 (x1).toNat)) dX7_hasRule_5 rfl L_35 (by decide) e1 (show gi I 35 (x1).toNat = (gi I 35 (x1).toNat) from rfl) ?_
  refine st_if_le (tg := 13) (pc' := 9) dX7_hasRule_6 (by decide) rfl (gi_in _ _ _) (fun c => ?_) (fun c => ?_)
  · replace h := h.1 c
    refine st_iconst (pc' := 14) dX7_hasRule_13 rfl ?_
    exact st_iret (ty := .boolean) dX7_hasRule_14 rfl (by decide) rfl h
  · replace h := h.2 c
    refine st_iconst (pc' := 10) dX7_hasRule_9 rfl ?_
    refine st_goto (pc' := 14) dX7_hasRule_10 (by decide) ?_
    exact st_iret (ty := .boolean) dX7_hasRule_14 rfl (by decide) rfl h
set_option maxRecDepth 20000 in
set_option maxHeartbeats 4000000 in
theorem B_X7_isQuestion_5_0 {k : Nat} {P : Option Nat} {I : Nat → Nat → Int32} {J : Nat → Nat → Int64} {x1 : Int} {Q : Option AV → Mem → Prop} (hk : 0 ≤ k) (h : inR x1 ∧ ((x1 < 0 → (Q (some (vI 0)) (mem (P, some 5, some 22) I J))) ∧ (¬ x1 < 0 → (((shl32 1 (gi I 6 1)) ≤ x1 → (Q (some (vI 0)) (mem (P, some 5, some 22) I J))) ∧ (¬ (shl32 1 (gi I 6 1)) ≤ x1 → (Q (some (vI 1)) (mem (P, some 5, some 22) I J))))))) : WP k LAY m_X7_isQuestion 0 [(0, vR (some 5)), (1, vI x1)] [] (mem (P, some 5, some 22) I J) Q := by
  refine st_iload_n (pc' := 1) dX7_isQuestion_0 rfl rfl (j := 1) rfl ?_
  obtain ⟨e1, h⟩ := h
  refine st_if_lt (tg := 20) (pc' := 4) dX7_isQuestion_1 (by decide) rfl e1 (fun c => ?_) (fun c => ?_)
  · replace h := h.1 c
    refine st_iconst (pc' := 21) dX7_isQuestion_20 rfl ?_
    exact st_iret (ty := .boolean) dX7_isQuestion_21 rfl (by decide) rfl h
  · replace h := h.2 c
    refine st_iload_n (pc' := 5) dX7_isQuestion_4 rfl rfl (j := 1) rfl ?_
    refine st_iconst (pc' := 6) dX7_isQuestion_5 rfl ?_
    refine st_aload_n (pc' := 7) dX7_isQuestion_6 rfl rfl (j := 0) rfl ?_
    refine G_X7_9_5 dX7_isQuestion_7 (pc' := 10) rfl rfl ?_
    refine st_iconst (pc' := 11) dX7_isQuestion_10 rfl ?_
    refine st_iaload (pc' := 12) (v := (gi I 6 1)) dX7_isQuestion_11 rfl L_6 (by decide) (by decide) (show gi I 6 1 = (gi I 6 1) from rfl) ?_
    refine st_ishl (pc' := 13) (z := (shl32 1 (gi I 6 1))) dX7_isQuestion_12 rfl rfl ?_
    refine st_icmp_ge (tg := 20) (pc' := 16) dX7_isQuestion_13 (by decide) rfl e1 (shl32_in _ _) (fun c => ?_) (fun c => ?_)
    · replace h := h.1 c
      refine st_iconst (pc' := 21) dX7_isQuestion_20 rfl ?_
      exact st_iret (ty := .boolean) dX7_isQuestion_21 rfl (by decide) rfl h
    · replace h := h.2 c
      refine st_iconst (pc' := 17) dX7_isQuestion_16 rfl ?_
      refine st_goto (pc' := 21) dX7_isQuestion_17 (by decide) ?_
      exact st_iret (ty := .boolean) dX7_isQuestion_21 rfl (by decide) rfl h
set_option maxRecDepth 20000 in
set_option maxHeartbeats 4000000 in
theorem B_X7_isQuestion_22_0 {k : Nat} {P : Option Nat} {I : Nat → Nat → Int32} {J : Nat → Nat → Int64} {x1 : Int} {Q : Option AV → Mem → Prop} (hk : 0 ≤ k) (h : inR x1 ∧ ((x1 < 0 → (Q (some (vI 0)) (mem (P, some 5, some 22) I J))) ∧ (¬ x1 < 0 → (((shl32 1 (gi I 23 1)) ≤ x1 → (Q (some (vI 0)) (mem (P, some 5, some 22) I J))) ∧ (¬ (shl32 1 (gi I 23 1)) ≤ x1 → (Q (some (vI 1)) (mem (P, some 5, some 22) I J))))))) : WP k LAY m_X7_isQuestion 0 [(0, vR (some 22)), (1, vI x1)] [] (mem (P, some 5, some 22) I J) Q := by
  refine st_iload_n (pc' := 1) dX7_isQuestion_0 rfl rfl (j := 1) rfl ?_
  obtain ⟨e1, h⟩ := h
  refine st_if_lt (tg := 20) (pc' := 4) dX7_isQuestion_1 (by decide) rfl e1 (fun c => ?_) (fun c => ?_)
  · replace h := h.1 c
    refine st_iconst (pc' := 21) dX7_isQuestion_20 rfl ?_
    exact st_iret (ty := .boolean) dX7_isQuestion_21 rfl (by decide) rfl h
  · replace h := h.2 c
    refine st_iload_n (pc' := 5) dX7_isQuestion_4 rfl rfl (j := 1) rfl ?_
    refine st_iconst (pc' := 6) dX7_isQuestion_5 rfl ?_
    refine st_aload_n (pc' := 7) dX7_isQuestion_6 rfl rfl (j := 0) rfl ?_
    refine G_X7_9_22 dX7_isQuestion_7 (pc' := 10) rfl rfl ?_
    refine st_iconst (pc' := 11) dX7_isQuestion_10 rfl ?_
    refine st_iaload (pc' := 12) (v := (gi I 23 1)) dX7_isQuestion_11 rfl L_23 (by decide) (by decide) (show gi I 23 1 = (gi I 23 1) from rfl) ?_
    refine st_ishl (pc' := 13) (z := (shl32 1 (gi I 23 1))) dX7_isQuestion_12 rfl rfl ?_
    refine st_icmp_ge (tg := 20) (pc' := 16) dX7_isQuestion_13 (by decide) rfl e1 (shl32_in _ _) (fun c => ?_) (fun c => ?_)
    · replace h := h.1 c
      refine st_iconst (pc' := 21) dX7_isQuestion_20 rfl ?_
      exact st_iret (ty := .boolean) dX7_isQuestion_21 rfl (by decide) rfl h
    · replace h := h.2 c
      refine st_iconst (pc' := 17) dX7_isQuestion_16 rfl ?_
      refine st_goto (pc' := 21) dX7_isQuestion_17 (by decide) ?_
      exact st_iret (ty := .boolean) dX7_isQuestion_21 rfl (by decide) rfl h
theorem S_X7_holds_5 {k : Nat} {P : Option Nat} {I : Nat → Nat → Int32} {J : Nat → Nat → Int64} {s w : Int} {Q : Option AV → Mem → Prop} (hk : 0 ≤ k) (hs : 0 ≤ s ∧ s < 4) (hw : inR w) (h : Q (some (vI (b2i (0 ≤ w ∧ w < gi I 6 s.toNat)))) (mem (P, some 5, some 22) I J)) : WPm k LAY m_X7_holds [vR (some 5), vI s, vI w] (mem (P, some 5, some 22) I J) Q := by
  refine WPm.of k_X7_holds.1 (Nat.le_of_ble_eq_true rfl) (B_X7_holds_5_0 (by omega) ?_)
  refine ⟨hw, fun c1 => ?_, fun c1 => ⟨hs, fun c2 => ?_, fun c2 => ?_⟩⟩ <;> exact WPm.eqI (by first | rfl | exact (b2i_0 (by omega)).symm | exact (b2i_1 (by omega)).symm) h
theorem S_X7_mayRead_5 {k : Nat} {P : Option Nat} {I : Nat → Nat → Int32} {J : Nat → Nat → Int64} {kn p : Int} {Q : Option AV → Mem → Prop} (hk : 0 ≤ k) (hp : 0 ≤ p ∧ p < 14) (h : Q (some (vI (b2i (and32 (gi I 11 p.toNat) (xor32 kn (-1)) = 0)))) (mem (P, some 5, some 22) I J)) : WPm k LAY m_X7_mayRead [vR (some 5), vI kn, vI p] (mem (P, some 5, some 22) I J) Q := by
  refine WPm.of k_X7_mayRead.1 (Nat.le_of_ble_eq_true rfl) (B_X7_mayRead_5_0 (by omega) ?_)
  refine ⟨hp, fun c1 => ?_, fun c1 => ?_⟩ <;> exact WPm.eqI (by first | exact (b2i_0 c1).symm | exact (b2i_1 (by omega)).symm) h
theorem S_X7_hasRule_5 {k : Nat} {P : Option Nat} {I : Nat → Nat → Int32} {J : Nat → Nat → Int64} {r : Int} {Q : Option AV → Mem → Prop} (hk : 0 ≤ k) (hr : 0 ≤ r ∧ r < 3) (h : Q (some (vI (b2i (0 < gi I 18 r.toNat)))) (mem (P, some 5, some 22) I J)) : WPm k LAY m_X7_hasRule [vR (some 5), vI r] (mem (P, some 5, some 22) I J) Q := by
  refine WPm.of k_X7_hasRule.1 (Nat.le_of_ble_eq_true rfl) (B_X7_hasRule_5_0 (by omega) ?_)
  refine ⟨hr, fun c1 => ?_, fun c1 => ?_⟩ <;> exact WPm.eqI (by first | rfl | exact (b2i_0 (by omega)).symm | exact (b2i_1 (by omega)).symm) h
theorem S_X7_isQuestion_5 {k : Nat} {P : Option Nat} {I : Nat → Nat → Int32} {J : Nat → Nat → Int64} {q : Int} {Q : Option AV → Mem → Prop} (hk : 0 ≤ k) (hq : inR q) (h : Q (some (vI (b2i (0 ≤ q ∧ q < shl32 1 (gi I 6 1))))) (mem (P, some 5, some 22) I J)) : WPm k LAY m_X7_isQuestion [vR (some 5), vI q] (mem (P, some 5, some 22) I J) Q := by
  refine WPm.of k_X7_isQuestion.1 (Nat.le_of_ble_eq_true rfl) (B_X7_isQuestion_5_0 (by omega) ?_)
  refine ⟨hq, fun c1 => ?_, fun c1 => ⟨fun c2 => ?_, fun c2 => ?_⟩⟩ <;> exact WPm.eqI (by first | rfl | exact (b2i_0 (by omega)).symm | exact (b2i_1 (by omega)).symm) h
theorem S_X7_holds_22 {k : Nat} {P : Option Nat} {I : Nat → Nat → Int32} {J : Nat → Nat → Int64} {s w : Int} {Q : Option AV → Mem → Prop} (hk : 0 ≤ k) (hs : 0 ≤ s ∧ s < 4) (hw : inR w) (h : Q (some (vI (b2i (0 ≤ w ∧ w < gi I 23 s.toNat)))) (mem (P, some 5, some 22) I J)) : WPm k LAY m_X7_holds [vR (some 22), vI s, vI w] (mem (P, some 5, some 22) I J) Q := by
  refine WPm.of k_X7_holds.1 (Nat.le_of_ble_eq_true rfl) (B_X7_holds_22_0 (by omega) ?_)
  refine ⟨hw, fun c1 => ?_, fun c1 => ⟨hs, fun c2 => ?_, fun c2 => ?_⟩⟩ <;> exact WPm.eqI (by first | rfl | exact (b2i_0 (by omega)).symm | exact (b2i_1 (by omega)).symm) h
theorem S_X7_mayRead_22 {k : Nat} {P : Option Nat} {I : Nat → Nat → Int32} {J : Nat → Nat → Int64} {kn p : Int} {Q : Option AV → Mem → Prop} (hk : 0 ≤ k) (hp : 0 ≤ p ∧ p < 14) (h : Q (some (vI (b2i (and32 (gi I 28 p.toNat) (xor32 kn (-1)) = 0)))) (mem (P, some 5, some 22) I J)) : WPm k LAY m_X7_mayRead [vR (some 22), vI kn, vI p] (mem (P, some 5, some 22) I J) Q := by
  refine WPm.of k_X7_mayRead.1 (Nat.le_of_ble_eq_true rfl) (B_X7_mayRead_22_0 (by omega) ?_)
  refine ⟨hp, fun c1 => ?_, fun c1 => ?_⟩ <;> exact WPm.eqI (by first | exact (b2i_0 c1).symm | exact (b2i_1 (by omega)).symm) h
theorem S_X7_hasRule_22 {k : Nat} {P : Option Nat} {I : Nat → Nat → Int32} {J : Nat → Nat → Int64} {r : Int} {Q : Option AV → Mem → Prop} (hk : 0 ≤ k) (hr : 0 ≤ r ∧ r < 3) (h : Q (some (vI (b2i (0 < gi I 35 r.toNat)))) (mem (P, some 5, some 22) I J)) : WPm k LAY m_X7_hasRule [vR (some 22), vI r] (mem (P, some 5, some 22) I J) Q := by
  refine WPm.of k_X7_hasRule.1 (Nat.le_of_ble_eq_true rfl) (B_X7_hasRule_22_0 (by omega) ?_)
  refine ⟨hr, fun c1 => ?_, fun c1 => ?_⟩ <;> exact WPm.eqI (by first | rfl | exact (b2i_0 (by omega)).symm | exact (b2i_1 (by omega)).symm) h
theorem S_X7_isQuestion_22 {k : Nat} {P : Option Nat} {I : Nat → Nat → Int32} {J : Nat → Nat → Int64} {q : Int} {Q : Option AV → Mem → Prop} (hk : 0 ≤ k) (hq : inR q) (h : Q (some (vI (b2i (0 ≤ q ∧ q < shl32 1 (gi I 23 1))))) (mem (P, some 5, some 22) I J)) : WPm k LAY m_X7_isQuestion [vR (some 22), vI q] (mem (P, some 5, some 22) I J) Q := by
  refine WPm.of k_X7_isQuestion.1 (Nat.le_of_ble_eq_true rfl) (B_X7_isQuestion_22_0 (by omega) ?_)
  refine ⟨hq, fun c1 => ?_, fun c1 => ⟨fun c2 => ?_, fun c2 => ?_⟩⟩ <;> exact WPm.eqI (by first | rfl | exact (b2i_0 (by omega)).symm | exact (b2i_1 (by omega)).symm) h
set_option maxRecDepth 20000 in
set_option maxHeartbeats 4000000 in
theorem B_X4_within_0 {k : Nat} {P : Option Nat} {I : Nat → Nat → Int32} {J : Nat → Nat → Int64} {x0 : Int} {x1 : Int} {Q : Option AV → Mem → Prop} (hk : 0 ≤ k) (h : inR x0 ∧ ((x0 < 0 → (Q (some (vI 0)) (mem (P, some 5, some 22) I J))) ∧ (¬ x0 < 0 → (inR x1 ∧ ((x1 < x0 → (Q (some (vI 0)) (mem (P, some 5, some 22) I J))) ∧ (¬ x1 < x0 → (Q (some (vI 1)) (mem (P, some 5, some 22) I J)))))))) : WP k LAY m_X4_within 0 [(0, vI x0), (1, vI x1)] [] (mem (P, some 5, some 22) I J) Q := by
  refine st_iload_n (pc' := 1) dX4_within_0 rfl rfl (j := 0) rfl ?_
  obtain ⟨e1, h⟩ := h
  refine st_if_lt (tg := 13) (pc' := 4) dX4_within_1 (by decide) rfl e1 (fun c => ?_) (fun c => ?_)
  · replace h := h.1 c
    refine st_iconst (pc' := 14) dX4_within_13 rfl ?_
    exact st_iret (ty := .boolean) dX4_within_14 rfl (by decide) rfl h
  · replace h := h.2 c
    refine st_iload_n (pc' := 5) dX4_within_4 rfl rfl (j := 0) rfl ?_
    refine st_iload_n (pc' := 6) dX4_within_5 rfl rfl (j := 1) rfl ?_
    obtain ⟨e2, h⟩ := h
    refine st_icmp_gt (tg := 13) (pc' := 9) dX4_within_6 (by decide) rfl e1 e2 (fun c => ?_) (fun c => ?_)
    · replace h := h.1 c
      refine st_iconst (pc' := 14) dX4_within_13 rfl ?_
      exact st_iret (ty := .boolean) dX4_within_14 rfl (by decide) rfl h
    · replace h := h.2 c
      refine st_iconst (pc' := 10) dX4_within_9 rfl ?_
      refine st_goto (pc' := 14) dX4_within_10 (by decide) ?_
      exact st_iret (ty := .boolean) dX4_within_14 rfl (by decide) rfl h
theorem S_X4_within {k : Nat} {P : Option Nat} {I : Nat → Nat → Int32} {J : Nat → Nat → Int64} {v m : Int} {Q : Option AV → Mem → Prop} (hk : 0 ≤ k) (hv : inR v) (hm : inR m) (h : Q (some (vI (b2i (0 ≤ v ∧ v ≤ m)))) (mem (P, some 5, some 22) I J)) : WPm k LAY m_X4_within [vI v, vI m] (mem (P, some 5, some 22) I J) Q := by
  refine WPm.of k_X4_within.1 (Nat.le_of_ble_eq_true rfl) (B_X4_within_0 (by omega) ?_)
  refine ⟨hv, fun c1 => ?_, fun c1 => ⟨hm, fun c2 => ?_, fun c2 => ?_⟩⟩ <;> exact WPm.eqI (by first | rfl | exact (b2i_0 (by omega)).symm | exact (b2i_1 (by omega)).symm) h
end BASE

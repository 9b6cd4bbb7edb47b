section JDK
set_option maxRecDepth 20000 in
set_option maxHeartbeats 4000000 in
theorem B_J9_min_7cf53_0 {k : Nat} {rv : RV} {I : Nat → Nat → Int32} {J : Nat → Nat → Int64} {x0 : Int} {x1 : Int} {Q : Option AV → Mem → Prop} (hk : 0 ≤ k) (h : inR x0 ∧ (inR x1 ∧ ((x1 < x0 → (Q (some (vI x1)) (mem rv I J))) ∧ (¬ x1 < x0 → (Q (some (vI x0)) (mem rv I J)))))) : WP k LAY m_J9_min_7cf53 0 [(0, vI x0), (1, vI x1)] [] (mem rv I J) Q := by
  refine st_iload_n (pc' := 1) dJ9_min_7cf53_0 rfl rfl (j := 0) rfl ?_
  refine st_iload_n (pc' := 2) dJ9_min_7cf53_1 rfl rfl (j := 1) rfl ?_
  obtain ⟨e1, h⟩ := h
  obtain ⟨e2, h⟩ := h
  refine st_icmp_gt (tg := 9) (pc' := 5) dJ9_min_7cf53_2 (by decide) rfl e1 e2 (fun c => ?_) (fun c => ?_)
  · replace h := h.1 c
    refine st_iload_n (pc' := 10) dJ9_min_7cf53_9 rfl rfl (j := 1) rfl ?_
    exact st_iret (ty := .int) dJ9_min_7cf53_10 rfl rfl rfl h
  · replace h := h.2 c
    refine st_iload_n (pc' := 6) dJ9_min_7cf53_5 rfl rfl (j := 0) rfl ?_
    refine st_goto (pc' := 10) dJ9_min_7cf53_6 (by decide) ?_
    exact st_iret (ty := .int) dJ9_min_7cf53_10 rfl rfl rfl h
set_option maxRecDepth 20000 in
set_option maxHeartbeats 4000000 in
theorem B_J9_max_7cf53_0 {k : Nat} {rv : RV} {I : Nat → Nat → Int32} {J : Nat → Nat → Int64} {x0 : Int} {x1 : Int} {Q : Option AV → Mem → Prop} (hk : 0 ≤ k) (h : inR x0 ∧ (inR x1 ∧ ((x0 < x1 → (Q (some (vI x1)) (mem rv I J))) ∧ (¬ x0 < x1 → (Q (some (vI x0)) (mem rv I J)))))) : WP k LAY m_J9_max_7cf53 0 [(0, vI x0), (1, vI x1)] [] (mem rv I J) Q := by
  refine st_iload_n (pc' := 1) dJ9_max_7cf53_0 rfl rfl (j := 0) rfl ?_
  refine st_iload_n (pc' := 2) dJ9_max_7cf53_1 rfl rfl (j := 1) rfl ?_
  obtain ⟨e1, h⟩ := h
  obtain ⟨e2, h⟩ := h
  refine st_icmp_lt (tg := 9) (pc' := 5) dJ9_max_7cf53_2 (by decide) rfl e1 e2 (fun c => ?_) (fun c => ?_)
  · replace h := h.1 c
    refine st_iload_n (pc' := 10) dJ9_max_7cf53_9 rfl rfl (j := 1) rfl ?_
    exact st_iret (ty := .int) dJ9_max_7cf53_10 rfl rfl rfl h
  · replace h := h.2 c
    refine st_iload_n (pc' := 6) dJ9_max_7cf53_5 rfl rfl (j := 0) rfl ?_
    refine st_goto (pc' := 10) dJ9_max_7cf53_6 (by decide) ?_
    exact st_iret (ty := .int) dJ9_max_7cf53_10 rfl rfl rfl h
set_option maxRecDepth 20000 in
set_option maxHeartbeats 4000000 in
theorem B_J6_bitCount_0f7a4_0 {k : Nat} {rv : RV} {I : Nat → Nat → Int32} {J : Nat → Nat → Int64} {x0 : Int} {Q : Option AV → Mem → Prop} (hk : 0 ≤ k) (h : ∀ y1 : Int, y1 = ((and32 (x0 - (and32 (ushr32 x0 1) 1431655765)) 858993459) + (and32 (ushr32 (x0 - (and32 (ushr32 x0 1) 1431655765)) 2) 858993459)) → (∀ y2 : Int, y2 = ((and32 (y1 + (ushr32 y1 4)) 252645135) + (ushr32 (and32 (y1 + (ushr32 y1 4)) 252645135) 8)) → (Q (some (vI (and32 (y2 + (ushr32 y2 16)) 63))) (mem rv I J)))) : WP k LAY m_J6_bitCount_0f7a4 0 [(0, vI x0)] [] (mem rv I J) Q := by
  refine st_iload_n (pc' := 1) dJ6_bitCount_0f7a4_0 rfl rfl (j := 0) rfl ?_
  refine st_iload_n (pc' := 2) dJ6_bitCount_0f7a4_1 rfl rfl (j := 0) rfl ?_
  refine st_iconst (pc' := 3) dJ6_bitCount_0f7a4_2 rfl ?_
  refine st_iushr (pc' := 4) (z := (ushr32 x0 1)) dJ6_bitCount_0f7a4_3 rfl rfl ?_
  refine st_ldc_w (pc' := 7) (z := 1431655765) dJ6_bitCount_0f7a4_4 rfl q_J6_265 (by decide) ?_
  refine st_iand (pc' := 8) (z := (and32 (ushr32 x0 1) 1431655765)) dJ6_bitCount_0f7a4_7 rfl rfl ?_
  refine st_isub (pc' := 9) dJ6_bitCount_0f7a4_8 rfl ?_
  refine st_istore_n (pc' := 10) (L' := [(0, vI (x0 - (and32 (ushr32 x0 1) 1431655765)))]) dJ6_bitCount_0f7a4_9 rfl rfl (by decide) rfl ?_
  refine st_iload_n (pc' := 11) dJ6_bitCount_0f7a4_10 rfl rfl (j := 0) rfl ?_
  refine st_ldc_w (pc' := 14) (z := 858993459) dJ6_bitCount_0f7a4_11 rfl q_J6_266 (by decide) ?_
  refine st_iand (pc' := 15) (z := (and32 (x0 - (and32 (ushr32 x0 1) 1431655765)) 858993459)) dJ6_bitCount_0f7a4_14 rfl rfl ?_
  refine st_iload_n (pc' := 16) dJ6_bitCount_0f7a4_15 rfl rfl (j := 0) rfl ?_
  refine st_iconst (pc' := 17) dJ6_bitCount_0f7a4_16 rfl ?_
  refine st_iushr (pc' := 18) (z := (ushr32 (x0 - (and32 (ushr32 x0 1) 1431655765)) 2)) dJ6_bitCount_0f7a4_17 rfl rfl ?_
  refine st_ldc_w (pc' := 21) (z := 858993459) dJ6_bitCount_0f7a4_18 rfl q_J6_266 (by decide) ?_
  refine st_iand (pc' := 22) (z := (and32 (ushr32 (x0 - (and32 (ushr32 x0 1) 1431655765)) 2) 858993459)) dJ6_bitCount_0f7a4_21 rfl rfl ?_
  refine st_iadd (pc' := 23) dJ6_bitCount_0f7a4_22 rfl ?_
  obtain ⟨y1, hy1⟩ : ∃ y : Int, y = ((and32 (x0 - (and32 (ushr32 x0 1) 1431655765)) 858993459) + (and32 (ushr32 (x0 - (and32 (ushr32 x0 1) 1431655765)) 2) 858993459)) := ⟨_, rfl⟩
  rw [← hy1]
  replace h := h y1 hy1
  refine st_istore_n (pc' := 24) (L' := [(0, vI y1)]) dJ6_bitCount_0f7a4_23 rfl rfl (by decide) rfl ?_
  refine st_iload_n (pc' := 25) dJ6_bitCount_0f7a4_24 rfl rfl (j := 0) rfl ?_
  refine st_iload_n (pc' := 26) dJ6_bitCount_0f7a4_25 rfl rfl (j := 0) rfl ?_
  refine st_iconst (pc' := 27) dJ6_bitCount_0f7a4_26 rfl ?_
  refine st_iushr (pc' := 28) (z := (ushr32 y1 4)) dJ6_bitCount_0f7a4_27 rfl rfl ?_
  refine st_iadd (pc' := 29) dJ6_bitCount_0f7a4_28 rfl ?_
  refine st_ldc_w (pc' := 32) (z := 252645135) dJ6_bitCount_0f7a4_29 rfl q_J6_267 (by decide) ?_
  refine st_iand (pc' := 33) (z := (and32 (y1 + (ushr32 y1 4)) 252645135)) dJ6_bitCount_0f7a4_32 rfl rfl ?_
  refine st_istore_n (pc' := 34) (L' := [(0, vI (and32 (y1 + (ushr32 y1 4)) 252645135))]) dJ6_bitCount_0f7a4_33 rfl rfl (by decide) rfl ?_
  refine st_iload_n (pc' := 35) dJ6_bitCount_0f7a4_34 rfl rfl (j := 0) rfl ?_
  refine st_iload_n (pc' := 36) dJ6_bitCount_0f7a4_35 rfl rfl (j := 0) rfl ?_
  refine st_bipush (pc' := 38) dJ6_bitCount_0f7a4_36 rfl (by decide) ?_
  refine st_iushr (pc' := 39) (z := (ushr32 (and32 (y1 + (ushr32 y1 4)) 252645135) 8)) dJ6_bitCount_0f7a4_38 rfl rfl ?_
  refine st_iadd (pc' := 40) dJ6_bitCount_0f7a4_39 rfl ?_
  obtain ⟨y2, hy2⟩ : ∃ y : Int, y = ((and32 (y1 + (ushr32 y1 4)) 252645135) + (ushr32 (and32 (y1 + (ushr32 y1 4)) 252645135) 8)) := ⟨_, rfl⟩
  rw [← hy2]
  replace h := h y2 hy2
  refine st_istore_n (pc' := 41) (L' := [(0, vI y2)]) dJ6_bitCount_0f7a4_40 rfl rfl (by decide) rfl ?_
  refine st_iload_n (pc' := 42) dJ6_bitCount_0f7a4_41 rfl rfl (j := 0) rfl ?_
  refine st_iload_n (pc' := 43) dJ6_bitCount_0f7a4_42 rfl rfl (j := 0) rfl ?_
  refine st_bipush (pc' := 45) dJ6_bitCount_0f7a4_43 rfl (by decide) ?_
  refine st_iushr (pc' := 46) (z := (ushr32 y2 16)) dJ6_bitCount_0f7a4_45 rfl rfl ?_
  refine st_iadd (pc' := 47) dJ6_bitCount_0f7a4_46 rfl ?_
  refine st_istore_n (pc' := 48) (L' := [(0, vI (y2 + (ushr32 y2 16)))]) dJ6_bitCount_0f7a4_47 rfl rfl (by decide) rfl ?_
  refine st_iload_n (pc' := 49) dJ6_bitCount_0f7a4_48 rfl rfl (j := 0) rfl ?_
  refine st_bipush (pc' := 51) dJ6_bitCount_0f7a4_49 rfl (by decide) ?_
  refine st_iand (pc' := 52) (z := (and32 (y2 + (ushr32 y2 16)) 63)) dJ6_bitCount_0f7a4_51 rfl rfl ?_
  exact st_iret (ty := .int) dJ6_bitCount_0f7a4_52 rfl rfl rfl h
set_option maxRecDepth 20000 in
set_option maxHeartbeats 4000000 in
theorem B_J9_floorDiv_f86c9_0 {k : Nat} {rv : RV} {I : Nat → Nat → Int32} {J : Nat → Nat → Int64} {x0 : Int} {x2 : Int} {Q : Option AV → Mem → Prop} (hk : 0 ≤ k) (h : inL x2 ∧ (¬ x2 = 0 ∧ ((0 ≤ (xor64 x0 x2) → (Q (some (vL (div64 x0 x2))) (mem rv I J))) ∧ (¬ 0 ≤ (xor64 x0 x2) → (inL ((div64 x0 x2) * x2) ∧ (inL x0 ∧ ((((div64 x0 x2) * x2) = x0 → (Q (some (vL (div64 x0 x2))) (mem rv I J))) ∧ (¬ ((div64 x0 x2) * x2) = x0 → (Q (some (vL ((div64 x0 x2) - 1))) (mem rv I J)))))))))) : WP k LAY m_J9_floorDiv_f86c9 0 [(0, vL x0), (2, vL x2)] [] (mem rv I J) Q := by
  refine st_lload_n (pc' := 1) dJ9_floorDiv_f86c9_0 rfl rfl (j := 0) rfl ?_
  refine st_lload_n (pc' := 2) dJ9_floorDiv_f86c9_1 rfl rfl (j := 1) rfl ?_
  obtain ⟨e1, h⟩ := h
  obtain ⟨e2, h⟩ := h
  refine st_ldiv (pc' := 3) (z := (div64 x0 x2)) dJ9_floorDiv_f86c9_2 rfl (fun q => e2 ((zl_eq e1).mp q)) rfl ?_
  refine st_lstore (pc' := 5) (L' := [(4, vL (div64 x0 x2)), (0, vL x0), (2, vL x2)]) dJ9_floorDiv_f86c9_3 rfl (by decide) rfl ?_
  refine st_lload_n (pc' := 6) dJ9_floorDiv_f86c9_5 rfl rfl (j := 1) rfl ?_
  refine st_lload_n (pc' := 7) dJ9_floorDiv_f86c9_6 rfl rfl (j := 2) rfl ?_
  refine st_lxor (pc' := 8) (z := (xor64 x0 x2)) dJ9_floorDiv_f86c9_7 rfl rfl ?_
  refine st_lconst (pc' := 9) (z := 0) dJ9_floorDiv_f86c9_8 rfl (by decide) ?_
  refine st_lif_ge (tg := 27) (pc' := 13) (pc1 := 10) dJ9_floorDiv_f86c9_9 rfl dJ9_floorDiv_f86c9_10 (by decide) rfl (xor64_in _ _) (by decide) (fun c => ?_) (fun c => ?_)
  · replace h := h.1 c
    refine st_lload (pc' := 29) dJ9_floorDiv_f86c9_27 rfl (j := 0) rfl ?_
    exact st_lret dJ9_floorDiv_f86c9_29 rfl rfl h
  · replace h := h.2 c
    refine st_lload (pc' := 15) dJ9_floorDiv_f86c9_13 rfl (j := 0) rfl ?_
    refine st_lload_n (pc' := 16) dJ9_floorDiv_f86c9_15 rfl rfl (j := 2) rfl ?_
    refine st_lmul (pc' := 17) dJ9_floorDiv_f86c9_16 rfl ?_
    refine st_lload_n (pc' := 18) dJ9_floorDiv_f86c9_17 rfl rfl (j := 1) rfl ?_
    obtain ⟨e3, h⟩ := h
    obtain ⟨e4, h⟩ := h
    refine st_lif_eq (tg := 27) (pc' := 22) (pc1 := 19) dJ9_floorDiv_f86c9_18 rfl dJ9_floorDiv_f86c9_19 (by decide) rfl e3 e4 (fun c => ?_) (fun c => ?_)
    · replace h := h.1 c
      refine st_lload (pc' := 29) dJ9_floorDiv_f86c9_27 rfl (j := 0) rfl ?_
      exact st_lret dJ9_floorDiv_f86c9_29 rfl rfl h
    · replace h := h.2 c
      refine st_lload (pc' := 24) dJ9_floorDiv_f86c9_22 rfl (j := 0) rfl ?_
      refine st_lconst (pc' := 25) (z := 1) dJ9_floorDiv_f86c9_24 rfl (by decide) ?_
      refine st_lsub (pc' := 26) dJ9_floorDiv_f86c9_25 rfl ?_
      exact st_lret dJ9_floorDiv_f86c9_26 rfl rfl h
set_option maxRecDepth 20000 in
set_option maxHeartbeats 4000000 in
theorem B_J9_floorMod_f86c9_0 {k : Nat} {rv : RV} {I : Nat → Nat → Int32} {J : Nat → Nat → Int64} {x0 : Int} {x2 : Int} {Q : Option AV → Mem → Prop} (hk : 0 ≤ k) (h : inL x2 ∧ (¬ x2 = 0 ∧ ((0 ≤ (xor64 x0 x2) → (Q (some (vL (rem64 x0 x2))) (mem rv I J))) ∧ (¬ 0 ≤ (xor64 x0 x2) → (((rem64 x0 x2) = 0 → (Q (some (vL (rem64 x0 x2))) (mem rv I J))) ∧ (¬ (rem64 x0 x2) = 0 → (Q (some (vL ((rem64 x0 x2) + x2))) (mem rv I J)))))))) : WP k LAY m_J9_floorMod_f86c9 0 [(0, vL x0), (2, vL x2)] [] (mem rv I J) Q := by
  refine st_lload_n (pc' := 1) dJ9_floorMod_f86c9_0 rfl rfl (j := 0) rfl ?_
  refine st_lload_n (pc' := 2) dJ9_floorMod_f86c9_1 rfl rfl (j := 1) rfl ?_
  obtain ⟨e1, h⟩ := h
  obtain ⟨e2, h⟩ := h
  refine st_lrem (pc' := 3) (z := (rem64 x0 x2)) dJ9_floorMod_f86c9_2 rfl (fun q => e2 ((zl_eq e1).mp q)) rfl ?_
  refine st_lstore (pc' := 5) (L' := [(4, vL (rem64 x0 x2)), (0, vL x0), (2, vL x2)]) dJ9_floorMod_f86c9_3 rfl (by decide) rfl ?_
  refine st_lload_n (pc' := 6) dJ9_floorMod_f86c9_5 rfl rfl (j := 1) rfl ?_
  refine st_lload_n (pc' := 7) dJ9_floorMod_f86c9_6 rfl rfl (j := 2) rfl ?_
  refine st_lxor (pc' := 8) (z := (xor64 x0 x2)) dJ9_floorMod_f86c9_7 rfl rfl ?_
  refine st_lconst (pc' := 9) (z := 0) dJ9_floorMod_f86c9_8 rfl (by decide) ?_
  refine st_lif_ge (tg := 25) (pc' := 13) (pc1 := 10) dJ9_floorMod_f86c9_9 rfl dJ9_floorMod_f86c9_10 (by decide) rfl (xor64_in _ _) (by decide) (fun c => ?_) (fun c => ?_)
  · replace h := h.1 c
    refine st_lload (pc' := 27) dJ9_floorMod_f86c9_25 rfl (j := 0) rfl ?_
    exact st_lret dJ9_floorMod_f86c9_27 rfl rfl h
  · replace h := h.2 c
    refine st_lload (pc' := 15) dJ9_floorMod_f86c9_13 rfl (j := 0) rfl ?_
    refine st_lconst (pc' := 16) (z := 0) dJ9_floorMod_f86c9_15 rfl (by decide) ?_
    refine st_lif_eq (tg := 25) (pc' := 20) (pc1 := 17) dJ9_floorMod_f86c9_16 rfl dJ9_floorMod_f86c9_17 (by decide) rfl (rem64_in _ _) (by decide) (fun c => ?_) (fun c => ?_)
    · replace h := h.1 c
      refine st_lload (pc' := 27) dJ9_floorMod_f86c9_25 rfl (j := 0) rfl ?_
      exact st_lret dJ9_floorMod_f86c9_27 rfl rfl h
    · replace h := h.2 c
      refine st_lload (pc' := 22) dJ9_floorMod_f86c9_20 rfl (j := 0) rfl ?_
      refine st_lload_n (pc' := 23) dJ9_floorMod_f86c9_22 rfl rfl (j := 2) rfl ?_
      refine st_ladd (pc' := 24) dJ9_floorMod_f86c9_23 rfl ?_
      exact st_lret dJ9_floorMod_f86c9_24 rfl rfl h
set_option maxRecDepth 20000 in
set_option maxHeartbeats 4000000 in
theorem B_J9_max_f86c9_0 {k : Nat} {rv : RV} {I : Nat → Nat → Int32} {J : Nat → Nat → Int64} {x0 : Int} {x2 : Int} {Q : Option AV → Mem → Prop} (hk : 0 ≤ k) (h : inL x0 ∧ (inL x2 ∧ ((x0 < x2 → (Q (some (vL x2)) (mem rv I J))) ∧ (¬ x0 < x2 → (Q (some (vL x0)) (mem rv I J)))))) : WP k LAY m_J9_max_f86c9 0 [(0, vL x0), (2, vL x2)] [] (mem rv I J) Q := by
  refine st_lload_n (pc' := 1) dJ9_max_f86c9_0 rfl rfl (j := 0) rfl ?_
  refine st_lload_n (pc' := 2) dJ9_max_f86c9_1 rfl rfl (j := 1) rfl ?_
  obtain ⟨e1, h⟩ := h
  obtain ⟨e2, h⟩ := h
  refine st_lif_lt (tg := 10) (pc' := 6) (pc1 := 3) dJ9_max_f86c9_2 rfl dJ9_max_f86c9_3 (by decide) rfl e1 e2 (fun c => ?_) (fun c => ?_)
  · replace h := h.1 c
    refine st_lload_n (pc' := 11) dJ9_max_f86c9_10 rfl rfl (j := 1) rfl ?_
    exact st_lret dJ9_max_f86c9_11 rfl rfl h
  · replace h := h.2 c
    refine st_lload_n (pc' := 7) dJ9_max_f86c9_6 rfl rfl (j := 0) rfl ?_
    refine st_goto (pc' := 11) dJ9_max_f86c9_7 (by decide) ?_
    exact st_lret dJ9_max_f86c9_11 rfl rfl h
def b2i (p : Prop) [Decidable p] : Int := if p then 1 else 0
theorem b2i_01 (p : Prop) [Decidable p] : b2i p = 0 ∨ b2i p = 1 := by unfold b2i; split <;> simp
theorem b2i_in (p : Prop) [Decidable p] : inR (b2i p) := by rcases b2i_01 p with h | h <;> rw [h] <;> decide
theorem b2i_f {p : Prop} [Decidable p] : b2i p = 0 ↔ ¬ p := by unfold b2i; split <;> simp [*]
theorem b2i_t {p : Prop} [Decidable p] : ¬ b2i p = 0 ↔ p := by unfold b2i; split <;> simp [*]
theorem b2i_1 {p : Prop} [Decidable p] (h : p) : b2i p = 1 := by unfold b2i; rw [if_pos h]
theorem b2i_0 {p : Prop} [Decidable p] (h : ¬ p) : b2i p = 0 := by unfold b2i; rw [if_neg h]
/-- a contract out of a way in which a call's end is named -/
theorem WPm.eqI {M : Mem} {Q : Option AV → Mem → Prop} {z w : Int} (e : w = z) (h : Q (some (vI z)) M) : Q (some (vI w)) M := e ▸ h
/-! the JDK's own: least, greatest, how many bits, a row filled -/
theorem min_in {a b : Int} (ha : inR a) (hb : inR b) : inR (min a b) := ⟨by omega, by omega⟩
theorem max_in {a b : Int} (ha : inR a) (hb : inR b) : inR (max a b) := ⟨by omega, by omega⟩
theorem S_J9_min {k : Nat} {rv : RV} {I : Nat → Nat → Int32} {J : Nat → Nat → Int64} {a b : Int} {Q : Option AV → Mem → Prop} (hk : 0 ≤ k) (ha : inR a) (hb : inR b) (h : Q (some (vI (min a b))) (mem rv I J)) : WPm k LAY m_J9_min_7cf53 [vI a, vI b] (mem rv I J) Q :=
  WPm.of k_J9_min_7cf53.1 (Nat.le_of_ble_eq_true rfl) (B_J9_min_7cf53_0 hk ⟨ha, hb, fun c => by rwa [show min a b = b by omega] at h, fun c => by rwa [show min a b = a by omega] at h⟩)
theorem S_J9_max {k : Nat} {rv : RV} {I : Nat → Nat → Int32} {J : Nat → Nat → Int64} {a b : Int} {Q : Option AV → Mem → Prop} (hk : 0 ≤ k) (ha : inR a) (hb : inR b) (h : Q (some (vI (max a b))) (mem rv I J)) : WPm k LAY m_J9_max_7cf53 [vI a, vI b] (mem rv I J) Q :=
  WPm.of k_J9_max_7cf53.1 (Nat.le_of_ble_eq_true rfl) (B_J9_max_7cf53_0 hk ⟨ha, hb, fun c => by rwa [show max a b = b by omega] at h, fun c => by rwa [show max a b = a by omega] at h⟩)
theorem S_J9_maxL {k : Nat} {rv : RV} {I : Nat → Nat → Int32} {J : Nat → Nat → Int64} {a b : Int} {Q : Option AV → Mem → Prop} (hk : 0 ≤ k) (ha : inL a) (hb : inL b) (h : Q (some (vL (max a b))) (mem rv I J)) : WPm k LAY m_J9_max_f86c9 [vL a, vL b] (mem rv I J) Q :=
  WPm.of k_J9_max_f86c9.1 (Nat.le_of_ble_eq_true rfl) (B_J9_max_f86c9_0 hk ⟨ha, hb, fun c => by rwa [show max a b = b by omega] at h, fun c => by rwa [show max a b = a by omega] at h⟩)
def bc32 (x : Int) : Int :=
  let y1 : Int := (and32 (x - (and32 (ushr32 x 1) 1431655765)) 858993459) + (and32 (ushr32 (x - (and32 (ushr32 x 1) 1431655765)) 2) 858993459)
  let y2 : Int := (and32 (y1 + (ushr32 y1 4)) 252645135) + (ushr32 (and32 (y1 + (ushr32 y1 4)) 252645135) 8)
  and32 (y2 + (ushr32 y2 16)) 63
theorem bc32_in (x : Int) : inR (bc32 x) := and32_in _ _
theorem S_J6_bitCount {k : Nat} {rv : RV} {I : Nat → Nat → Int32} {J : Nat → Nat → Int64} {x : Int} {Q : Option AV → Mem → Prop} (hk : 0 ≤ k) (h : Q (some (vI (bc32 x))) (mem rv I J)) : WPm k LAY m_J6_bitCount_0f7a4 [vI x] (mem rv I J) Q :=
  WPm.of k_J6_bitCount_0f7a4.1 (Nat.le_of_ble_eq_true rfl) (B_J6_bitCount_0f7a4_0 hk (fun y1 h1 y2 h2 => by subst h2; subst h1; exact h))
/-- a row of ints filled with one -/
def flI (I : Nat → Nat → Int32) (a n : Nat) (z : Int) : Nat → Nat → Int32 := fun c => if c = a then (fun j => if j < n then iI z else I a j) else I c
def flP (I : Nat → Nat → Int32) (a n : Nat) (z : Int) (i : Nat) : Nat → Nat → Int32 := flI I a i z
theorem gi_flI (I : Nat → Nat → Int32) (a n : Nat) {z : Int} (hz : inR z) (c k : Nat) : gi (flI I a n z) c k = if c = a ∧ k < n then z else gi I c k := by
  by_cases h1 : c = a
  · subst h1
    by_cases h2 : k < n <;> simp [gi, flI, h2, iI_to hz]
  · simp [gi, flI, h1]
theorem flI_succ (I : Nat → Nat → Int32) (a i : Nat) (z : Int) : si (flI I a i z) a i z = flI I a (i + 1) z := by
  funext c
  by_cases h1 : c = a
  · subst h1
    funext j
    simp only [si, up2, flI, if_true]
    by_cases h2 : j = i
    · subst h2; simp
    · by_cases h3 : j < i
      · simp [h2, h3, show j < i + 1 by omega]
      · simp [h2, h3, show ¬ j < i + 1 by omega]
  · simp [si, up2, flI, h1]
theorem flI_0 (I : Nat → Nat → Int32) (a : Nat) (z : Int) : flI I a 0 z = I := by
  funext c
  by_cases h1 : c = a
  · subst h1; funext j; simp [flI]
  · simp [flI, h1]
theorem fill_loop {k a n : Nat} {rv : RV} {I : Nat → Nat → Int32} {J : Nat → Nat → Int64} {z : Int} {Q : Option AV → Mem → Prop} (ha : LAY[a]? = some (0, n)) (hn : n < 100000) (h : Q none (mem rv (flI I a n z) J)) : ∀ (d i : Nat), i + d = n → WP k LAY m_J7_fill_53178 5 [(0, vR (some a)), (1, vI z), (2, vI (i : Int)), (3, vI (n : Int))] [] (mem rv (flI I a i z) J) Q := by
  intro d
  induction d with
  | zero =>
    intro i hi
    have e : i = n := by omega
    subst e
    refine st_iload_n (pc' := 6) dJ7_fill_53178_5 rfl rfl (j := 2) rfl ?_
    refine st_iload_n (pc' := 7) dJ7_fill_53178_6 rfl rfl (j := 3) rfl ?_
    refine st_icmp_ge (tg := 20) (pc' := 10) dJ7_fill_53178_7 (by decide) rfl ⟨by omega, by omega⟩ ⟨by omega, by omega⟩ (fun c => ?_) (fun c => absurd (Int.le_refl _) c)
    exact st_vret dJ7_fill_53178_20 rfl rfl h
  | succ d ih =>
    intro i hi
    refine st_iload_n (pc' := 6) dJ7_fill_53178_5 rfl rfl (j := 2) rfl ?_
    refine st_iload_n (pc' := 7) dJ7_fill_53178_6 rfl rfl (j := 3) rfl ?_
    refine st_icmp_ge (tg := 20) (pc' := 10) dJ7_fill_53178_7 (by decide) rfl ⟨by omega, by omega⟩ ⟨by omega, by omega⟩ (fun c => absurd c (by omega)) (fun c => ?_)
    refine st_aload_n (pc' := 11) dJ7_fill_53178_10 rfl rfl (j := 0) rfl ?_
    refine st_iload_n (pc' := 12) dJ7_fill_53178_11 rfl rfl (j := 2) rfl ?_
    refine st_iload_n (pc' := 13) dJ7_fill_53178_12 rfl rfl (j := 1) rfl ?_
    refine st_iastore (pc' := 14) (M' := mem rv (si (flI I a i z) a i z) J) dJ7_fill_53178_13 rfl ha (by omega) ⟨by omega, by omega⟩ (by show mem rv _ J = _; rfl) ?_
    refine st_iinc (pc' := 17) (L' := [(2, vI ((i : Int) + 1)), (0, vR (some a)), (1, vI z), (3, vI (n : Int))]) (j := 2) dJ7_fill_53178_14 rfl (by decide) rfl rfl ?_
    refine st_goto (pc' := 5) dJ7_fill_53178_17 (by decide) ?_
    refine WP_sub (L' := [(0, vR (some a)), (1, vI z), (2, vI ((i + 1 : Nat) : Int)), (3, vI (n : Int))]) [1, 2, 0, 3] rfl ?_
    rw [flI_succ]
    exact ih (i + 1) (by omega)
theorem S_J7_fill {k a n : Nat} {rv : RV} {I : Nat → Nat → Int32} {J : Nat → Nat → Int64} {z : Int} {Q : Option AV → Mem → Prop} (hk : 0 ≤ k) (ha : LAY[a]? = some (0, n)) (hn : n < 100000) (h : Q none (mem rv (flI I a n z) J)) : WPm k LAY m_J7_fill_53178 [vR (some a), vI z] (mem rv I J) Q := by
  refine WPm.of k_J7_fill_53178.1 (Nat.le_of_ble_eq_true rfl) ?_
  refine st_iconst (pc' := 1) dJ7_fill_53178_0 rfl ?_
  refine st_istore_n (pc' := 2) (L' := [(2, vI 0), (0, vR (some a)), (1, vI z)]) dJ7_fill_53178_1 rfl rfl (by decide) rfl ?_
  refine st_aload_n (pc' := 3) dJ7_fill_53178_2 rfl rfl (j := 1) rfl ?_
  refine st_alenI (pc' := 4) (z := (n : Int)) dJ7_fill_53178_3 rfl ha (by rw [iI, Int32.ofInt_eq_ofNat]) ?_
  refine st_istore_n (pc' := 5) (L' := [(3, vI (n : Int)), (2, vI 0), (0, vR (some a)), (1, vI z)]) dJ7_fill_53178_4 rfl rfl (by decide) rfl ?_
  refine WP_sub (L' := [(0, vR (some a)), (1, vI z), (2, vI ((0 : Nat) : Int)), (3, vI (n : Int))]) [2, 3, 1, 0] rfl ?_
  have h0 := fill_loop (k := k) ha hn h n 0 (by omega)
  rw [flI_0] at h0
  exact h0

end JDK

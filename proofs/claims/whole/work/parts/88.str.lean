section STRS
/-! ===== the text of the own words: the JDK's charAt, the class's search ===== -/
theorem dJ0_charAt_5068e_0 : decode cJ0_charAt_5068e 0 = .ok (.aload_n 0, 1) := by decide +kernel
theorem dJ0_charAt_5068e_1 : decode cJ0_charAt_5068e 1 = .ok (.invokevirtual 492, 3) := by decide +kernel
theorem dJ0_charAt_5068e_4 : decode cJ0_charAt_5068e 4 = .ok (.ifCond .eq 12, 3) := by decide +kernel
theorem dJ0_charAt_5068e_7 : decode cJ0_charAt_5068e 7 = .ok (.aload_n 0, 1) := by decide +kernel
theorem dJ0_charAt_5068e_8 : decode cJ0_charAt_5068e 8 = .ok (.getfield 9, 3) := by decide +kernel
theorem dJ0_charAt_5068e_11 : decode cJ0_charAt_5068e 11 = .ok (.iload_n 1, 1) := by decide +kernel
theorem dJ0_charAt_5068e_12 : decode cJ0_charAt_5068e 12 = .ok (.invokestatic 495, 3) := by decide +kernel
theorem dJ0_charAt_5068e_15 : decode cJ0_charAt_5068e 15 = .ok (.ireturn, 1) := by decide +kernel
theorem dJ0_charAt_5068e_16 : decode cJ0_charAt_5068e 16 = .ok (.aload_n 0, 1) := by decide +kernel
theorem dJ0_charAt_5068e_17 : decode cJ0_charAt_5068e 17 = .ok (.getfield 9, 3) := by decide +kernel
theorem dJ0_charAt_5068e_20 : decode cJ0_charAt_5068e 20 = .ok (.iload_n 1, 1) := by decide +kernel
theorem dJ0_charAt_5068e_21 : decode cJ0_charAt_5068e 21 = .ok (.invokestatic 498, 3) := by decide +kernel
theorem dJ0_charAt_5068e_24 : decode cJ0_charAt_5068e 24 = .ok (.ireturn, 1) := by decide +kernel
theorem dJ0_isLatin1_aae02_0 : decode cJ0_isLatin1_aae02 0 = .ok (.getstatic 38, 3) := by decide +kernel
theorem dJ0_isLatin1_aae02_3 : decode cJ0_isLatin1_aae02 3 = .ok (.ifCond .eq 14, 3) := by decide +kernel
theorem dJ0_isLatin1_aae02_6 : decode cJ0_isLatin1_aae02 6 = .ok (.aload_n 0, 1) := by decide +kernel
theorem dJ0_isLatin1_aae02_7 : decode cJ0_isLatin1_aae02 7 = .ok (.getfield 15, 3) := by decide +kernel
theorem dJ0_isLatin1_aae02_10 : decode cJ0_isLatin1_aae02 10 = .ok (.ifCond .ne 7, 3) := by decide +kernel
theorem dJ0_isLatin1_aae02_13 : decode cJ0_isLatin1_aae02 13 = .ok (.iconst 1, 1) := by decide +kernel
theorem dJ0_isLatin1_aae02_14 : decode cJ0_isLatin1_aae02 14 = .ok (.goto 4, 3) := by decide +kernel
theorem dJ0_isLatin1_aae02_17 : decode cJ0_isLatin1_aae02 17 = .ok (.iconst 0, 1) := by decide +kernel
theorem dJ0_isLatin1_aae02_18 : decode cJ0_isLatin1_aae02 18 = .ok (.ireturn, 1) := by decide +kernel
theorem dJ0_checkIndex_df160_0 : decode cJ0_checkIndex_df160 0 = .ok (.iload_n 0, 1) := by decide +kernel
theorem dJ0_checkIndex_df160_1 : decode cJ0_checkIndex_df160 1 = .ok (.iload_n 1, 1) := by decide +kernel
theorem dJ0_checkIndex_df160_2 : decode cJ0_checkIndex_df160 2 = .ok (.getstatic 1053, 3) := by decide +kernel
theorem dJ0_checkIndex_df160_5 : decode cJ0_checkIndex_df160 5 = .ok (.invokestatic 1059, 3) := by decide +kernel
theorem dJ0_checkIndex_df160_8 : decode cJ0_checkIndex_df160 8 = .ok (.pop, 1) := by decide +kernel
theorem dJ0_checkIndex_df160_9 : decode cJ0_checkIndex_df160 9 = .ok (.return_, 1) := by decide +kernel
theorem dJ1_charAt_3b067_0 : decode cJ1_charAt_3b067 0 = .ok (.iload_n 1, 1) := by decide +kernel
theorem dJ1_charAt_3b067_1 : decode cJ1_charAt_3b067 1 = .ok (.aload_n 0, 1) := by decide +kernel
theorem dJ1_charAt_3b067_2 : decode cJ1_charAt_3b067 2 = .ok (.arraylength, 1) := by decide +kernel
theorem dJ1_charAt_3b067_3 : decode cJ1_charAt_3b067 3 = .ok (.invokestatic 9, 3) := by decide +kernel
theorem dJ1_charAt_3b067_6 : decode cJ1_charAt_3b067 6 = .ok (.aload_n 0, 1) := by decide +kernel
theorem dJ1_charAt_3b067_7 : decode cJ1_charAt_3b067 7 = .ok (.iload_n 1, 1) := by decide +kernel
theorem dJ1_charAt_3b067_8 : decode cJ1_charAt_3b067 8 = .ok (.baload, 1) := by decide +kernel
theorem dJ1_charAt_3b067_9 : decode cJ1_charAt_3b067 9 = .ok (.sipush 255, 3) := by decide +kernel
theorem dJ1_charAt_3b067_12 : decode cJ1_charAt_3b067 12 = .ok (.iand, 1) := by decide +kernel
theorem dJ1_charAt_3b067_13 : decode cJ1_charAt_3b067 13 = .ok (.i2c, 1) := by decide +kernel
theorem dJ1_charAt_3b067_14 : decode cJ1_charAt_3b067 14 = .ok (.ireturn, 1) := by decide +kernel
theorem dJ3_checkIndex_8e157_0 : decode cJ3_checkIndex_8e157 0 = .ok (.iload_n 0, 1) := by decide +kernel
theorem dJ3_checkIndex_8e157_1 : decode cJ3_checkIndex_8e157 1 = .ok (.ifCond .lt 8, 3) := by decide +kernel
theorem dJ3_checkIndex_8e157_4 : decode cJ3_checkIndex_8e157 4 = .ok (.iload_n 0, 1) := by decide +kernel
theorem dJ3_checkIndex_8e157_5 : decode cJ3_checkIndex_8e157 5 = .ok (.iload_n 1, 1) := by decide +kernel
theorem dJ3_checkIndex_8e157_6 : decode cJ3_checkIndex_8e157 6 = .ok (.if_icmp .lt 10, 3) := by decide +kernel
theorem dJ3_checkIndex_8e157_9 : decode cJ3_checkIndex_8e157 9 = .ok (.aload_n 2, 1) := by decide +kernel
theorem dJ3_checkIndex_8e157_10 : decode cJ3_checkIndex_8e157 10 = .ok (.iload_n 0, 1) := by decide +kernel
theorem dJ3_checkIndex_8e157_11 : decode cJ3_checkIndex_8e157 11 = .ok (.iload_n 1, 1) := by decide +kernel
theorem dJ3_checkIndex_8e157_12 : decode cJ3_checkIndex_8e157 12 = .ok (.invokestatic 95, 3) := by decide +kernel
theorem dJ3_checkIndex_8e157_15 : decode cJ3_checkIndex_8e157 15 = .ok (.athrow, 1) := by decide +kernel
theorem dJ3_checkIndex_8e157_16 : decode cJ3_checkIndex_8e157 16 = .ok (.iload_n 0, 1) := by decide +kernel
theorem dJ3_checkIndex_8e157_17 : decode cJ3_checkIndex_8e157 17 = .ok (.ireturn, 1) := by decide +kernel
set_option maxRecDepth 20000 in
theorem f_J0_38 : Cond.fieldLink RJ0 38 "java/lang/String" "COMPACT_STRINGS" "Z" ∈ wG := wG_in tb_3 160 (by decide +kernel) rfl
set_option maxRecDepth 20000 in
theorem f_J0_1053 : Cond.fieldLink RJ0 1053 "jdk/internal/util/Preconditions" "SIOOBE_FORMATTER" "Ljava/util/function/BiFunction;" ∈ wG := wG_in tb_3 168 (by decide +kernel) rfl
set_option maxRecDepth 20000 in
theorem f_J0_15 : Cond.fieldLink RJ0 15 "java/lang/String" "coder" "B" ∈ wG := wG_in tb_9 233 (by decide +kernel) rfl
set_option maxRecDepth 20000 in
theorem f_J0_9 : Cond.fieldLink RJ0 9 "java/lang/String" "value" "[B" ∈ wG := wG_in tb_9 234 (by decide +kernel) rfl
theorem st_ldcS {k : Nat} {E : List LT} {md : MD} {pc pc' : Nat} {L : List (Nat × AV)} {S : List AV} {M : Mem} {Q : Option AV → Mem → Prop} (hd : decode md.2.1 pc = .ok (.ldc 61, 2)) (hp : pc + 2 = pc') (ho : md.1.cls = RX10) (h : WP k E md pc' L (vR (some 1000001) :: S) M Q) : WP k E md pc L S M Q := by
  intro p l e R s m args below meth c G n0 z0 C H locs cells slots ls hH hS h1 h2 h3 hl
  subst hp
  have hSt := C.2.2.2.2.2.2.2.2.2.2.2.2
  exact va_ldcS (cc := md.2.1) (own := RX10) C.1 C.2.1 (by rw [← ho]; exact C.2.2.2.2.1) hSt.2.2.2.2.2.1 hd (h p l e R s m args below meth c G n0 z0 C H locs cells slots ls hH hS h1 h2 h3 hl)
theorem st_callStr {k : Nat} {E : List LT} {md : MD} {pc pc' : Nat} {L : List (Nat × AV)} {S : List AV} {M : Mem} {Q : Option AV → Mem → Prop} {kc : Nat} {E' : List LT} {cal : MD} {x n : Nat} {as S' : List AV} {Q1 : Option AV → Mem → Prop} (hd : decode md.2.1 pc = .ok (.invokevirtual x, 3)) (hp : pc + 3 = pc') (hl0 : Cond.methodLink md.1.cls x cal.1 ∈ wG) (hv : mdV cal n) (hn : as.length = n) (hC : cal.1.cls = "java/lang/String") (hS' : as.reverse ++ vR (some 1000001) :: S = S') (hc : catL S ≤ 8) (hk : kc + 1 ≤ k) (hE : M.1.length ≤ E'.length ∧ slo M.1 ≤ slo E' ∧ E'.length ≤ E.length ∧ slo E' ≤ slo E)
    (h : WPm kc E' cal (vR (some 1000001) :: as) M Q1) (h2 : ∀ r M', Q1 r M' → WP k E md pc' L (r.toList ++ S) M' Q) : WP k E md pc L S' M Q := by
  intro p l e R s m args below meth c G n0 z0 C H locs cells slots ls hH hS h1 h3 h4 hl
  subst hp; subst hS'
  have hSt := C.2.2.2.2.2.2.2.2.2.2.2.2
  have hro := call_room C hv.1 hk h1 h3 hE
  have e1 : (as.reverse ++ vR (some 1000001) :: S).map (cv (gA G)) = (as.map (cv (gA G))).reverse ++ .ref (gA G 1000001) :: S.map (cv (gA G)) := by simp [cv, va_rf]
  rw [e1]
  have hrec : ∃ cell : Cell, H[gA G 1000001]? = some cell ∧ cell.vm.isStatics = false ∧ s.vm.findClass cal.1.cls = some cell.cls := by
    rw [hC]
    exact vk_recv (i := 0) hSt.2.2.2.2.2.2.1 (by decide) hS
  have hrun := va_runV (p := p) (l := l) (e := e) (R := R) (s := s) (m := m) (args := args) (below := below) (meth := meth) (c := c) (H := H) (locs := locs) (cells := cells) (slots := slots) (cc := md.2.1) (nL := md.2.2.1) (own := md.1.cls) (Ts := wds md) (C := cal.1.cls) (b := gA G 1000001) (As := as.map (cv (gA G))) (rest := S.map (cv (gA G))) (g := F0 m pc ls ((as.map (cv (gA G))).reverse ++ .ref (gA G 1000001) :: S.map (cv (gA G)))) ⟨C.1, C.2.1, C.2.2.1, C.2.2.2.2.1, C.2.2.2.2.2.1⟩ (h l G)
    (cwV n C.2.2.2.2.2.1 (goodV hv hl0) rfl rfl rfl ⟨rfl, hv.1.2.1.1, hv.1.2.1.2, hv.1.2.2.1⟩ hro.1) ⟨hold_blind, hrec, fun U hU hW => hold_call C hH hS hE (as := vR (some 1000001) :: as) hU hW⟩ rfl (by rw [List.length_map]; exact hn) hl.1 rfl (lv_room (by rw [catL_map]; exact hc)) hd hro.2
  exact run_go hrun hS (fun r M' H1 locs1 q hM hH1 hS1 => go_on C r (h2 r M' q) hM hH1 hS1 h1 h3 hE hl)
theorem st_coder {k : Nat} {E : List LT} {md : MD} {pc pc' : Nat} {L : List (Nat × AV)} {S : List AV} {M : Mem} {Q : Option AV → Mem → Prop} (hd : decode md.2.1 pc = .ok (.getfield 15, 3)) (hp : pc + 3 = pc') (ho : md.1.cls = RJ0) (h : WP k E md pc' L (vI 0 :: S) M Q) : WP k E md pc L (vR (some 1000001) :: S) M Q := by
  intro p l e R s m args below meth c G n0 z0 C H locs cells slots ls hH hS h1 h2 h3 hl
  subst hp
  have hSt := C.2.2.2.2.2.2.2.2.2.2.2.2
  have hE := (hSt.2.2.2.2.2.2.1.1 0 (by decide)).2.1
  exact vk_getf (cc := md.2.1) (own := RJ0) C.1 C.2.1 hE hS (by rw [← ho]; exact C.2.2.2.2.1) (C.ts f_J0_15) (fun _ q => q) hd (h p l e R s m args below meth c G n0 z0 C H locs cells slots ls hH hS h1 h2 h3 hl)
theorem st_value {k : Nat} {E : List LT} {md : MD} {pc pc' : Nat} {L : List (Nat × AV)} {S : List AV} {M : Mem} {Q : Option AV → Mem → Prop} (hd : decode md.2.1 pc = .ok (.getfield 9, 3)) (hp : pc + 3 = pc') (ho : md.1.cls = RJ0) (h : WP k E md pc' L (vR (some 1000002) :: S) M Q) : WP k E md pc L (vR (some 1000001) :: S) M Q := by
  intro p l e R s m args below meth c G n0 z0 C H locs cells slots ls hH hS h1 h2 h3 hl
  subst hp
  have hSt := C.2.2.2.2.2.2.2.2.2.2.2.2
  have hE := (hSt.2.2.2.2.2.2.1.1 0 (by decide)).2.2.1
  exact vk_getf (cc := md.2.1) (own := RJ0) C.1 C.2.1 hE hS (by rw [← ho]; exact C.2.2.2.2.1) (C.ts f_J0_9) (fun _ q => q) hd (h p l e R s m args below meth c G n0 z0 C H locs cells slots ls hH hS h1 h2 h3 hl)
theorem st_compact {k : Nat} {E : List LT} {md : MD} {pc pc' : Nat} {L : List (Nat × AV)} {S : List AV} {M : Mem} {Q : Option AV → Mem → Prop} (hd : decode md.2.1 pc = .ok (.getstatic 38, 3)) (hp : pc + 3 = pc') (ho : md.1.cls = RJ0) (h : WP k E md pc' L (vI 1 :: S) M Q) : WP k E md pc L S M Q := by
  intro p l e R s m args below meth c G n0 z0 C H locs cells slots ls hH hS h1 h2 h3 hl
  subst hp
  have hSt := C.2.2.2.2.2.2.2.2.2.2.2.2
  exact va_gets (cc := md.2.1) (own := RJ0) C.1 C.2.1 hSt.2.2.2.2.2.2.2.1 hS (by rw [← ho]; exact C.2.2.2.2.1) (C.ts f_J0_38) (fun _ q => q) hd (h p l e R s m args below meth c G n0 z0 C H locs cells slots ls hH hS h1 h2 h3 hl)
theorem st_blen {k : Nat} {E : List LT} {md : MD} {pc pc' : Nat} {L : List (Nat × AV)} {S : List AV} {M : Mem} {Q : Option AV → Mem → Prop} (hd : decode md.2.1 pc = .ok (.arraylength, 1)) (hp : pc + 1 = pc') (h : WP k E md pc' L (vI 175 :: S) M Q) : WP k E md pc L (vR (some 1000002) :: S) M Q := by
  intro p l e R s m args below meth c G n0 z0 C H locs cells slots ls hH hS h1 h2 h3 hl
  subst hp
  have hSt := C.2.2.2.2.2.2.2.2.2.2.2.2
  have hT := (hSt.2.2.2.2.2.2.1.1 0 (by decide)).2.2.2
  exact va_tlen (cc := md.2.1) C.1 C.2.1 hT hS (v := iI 175) (by decide) hd (h p l e R s m args below meth c G n0 z0 C H locs cells slots ls hH hS h1 h2 h3 hl)
/-- the own words' text, a byte -/
def ownZ (j : Nat) : Int := (ownB.getD j 0).toInt
theorem st_bald {k : Nat} {E : List LT} {md : MD} {pc pc' : Nat} {L : List (Nat × AV)} {S : List AV} {M : Mem} {Q : Option AV → Mem → Prop} {z : Int} (hd : decode md.2.1 pc = .ok (.baload, 1)) (hp : pc + 1 = pc') (h0 : 0 ≤ z ∧ z < 175) (h : WP k E md pc' L (vI (ownZ z.toNat) :: S) M Q) : WP k E md pc L (vI z :: vR (some 1000002) :: S) M Q := by
  intro p l e R s m args below meth c G n0 z0 C H locs cells slots ls hH hS h1 h2 h3 hl
  subst hp
  have hSt := C.2.2.2.2.2.2.2.2.2.2.2.2
  have hT := (hSt.2.2.2.2.2.2.1.1 0 (by decide)).2.2.2
  refine va_tb (cc := md.2.1) C.1 C.2.1 hT hS (i := iI z) (iI_in (n := 175) h0.1 h0.2 (by decide)) (v := .int (iI (ownZ z.toNat))) ?_ hd (h p l e R s m args below meth c G n0 z0 C H locs cells slots ls hH hS h1 h2 h3 hl)
  rw [iI_nat h0.1 (by omega)]
  show Value.int (ownB.getD z.toNat 0) = .int (iI (ownZ z.toNat))
  unfold ownZ
  rw [iI_of]
theorem st_i2c {k : Nat} {E : List LT} {md : MD} {pc pc' : Nat} {L : List (Nat × AV)} {S : List AV} {M : Mem} {Q : Option AV → Mem → Prop} {z : Int} (hd : decode md.2.1 pc = .ok (.i2c, 1)) (hp : pc + 1 = pc') (hz : ((iI z).toUInt32 % 65536).toInt32 = iI z) (h : WP k E md pc' L (vI z :: S) M Q) : WP k E md pc L (vI z :: S) M Q := by
  intro p l e R s m args below meth c G n0 z0 C H locs cells slots ls hH hS h1 h2 h3 hl
  subst hp
  exact lv_i2c (cc := md.2.1) C.1 C.2.1 (x := iI z) (v := iI z) hd hz (h p l e R s m args below meth c G n0 z0 C H locs cells slots ls hH hS h1 h2 h3 hl)
theorem own_ok : (List.range 175).all (fun j => decide ((iI (ownZ j) &&& iI 255).toInt = ownZ j ∧ ((iI (ownZ j)).toUInt32 % 65536).toInt32 = iI (ownZ j) ∧ (0 ≤ ownZ j ∧ ownZ j < 128))) = true := by decide +kernel
theorem own_at {j : Nat} (h : j < 175) : (iI (ownZ j) &&& iI 255).toInt = ownZ j ∧ ((iI (ownZ j)).toUInt32 % 65536).toInt32 = iI (ownZ j) ∧ (0 ≤ ownZ j ∧ ownZ j < 128) := of_decide_eq_true (all_at own_ok h)
theorem S_J0_isLatin1 {k : Nat} {rv : RV} {I : Nat → Nat → Int32} {J : Nat → Nat → Int64} {Q : Option AV → Mem → Prop} (h : Q (some (vI 1)) (mem rv I J)) : WPm k LAY m_J0_isLatin1_aae02 [vR (some 1000001)] (mem rv I J) Q := by
  refine WPm.of k_J0_isLatin1_aae02.1 (Nat.le_of_ble_eq_true rfl) ?_
  refine st_compact (pc' := 3) dJ0_isLatin1_aae02_0 rfl rfl ?_
  refine st_if_eq (tg := 17) (pc' := 6) dJ0_isLatin1_aae02_3 (by decide) rfl (by decide) (fun c => absurd c (by decide)) (fun _ => ?_)
  refine st_aload_n (pc' := 7) dJ0_isLatin1_aae02_6 rfl rfl (j := 0) rfl ?_
  refine st_coder (pc' := 10) dJ0_isLatin1_aae02_7 rfl rfl ?_
  refine st_if_ne (tg := 17) (pc' := 13) dJ0_isLatin1_aae02_10 (by decide) rfl (by decide) (fun c => absurd rfl c) (fun _ => ?_)
  refine st_iconst (pc' := 14) dJ0_isLatin1_aae02_13 rfl ?_
  refine st_goto (pc' := 18) dJ0_isLatin1_aae02_14 (by decide) ?_
  exact st_iret (ty := .boolean) dJ0_isLatin1_aae02_18 rfl (by decide) rfl h
theorem Met_ck {k : Nat} {l : Launch} {G : Geo} {M : Mem} {Q : Option AV → Mem → Prop} {a b : Int} {v : Value} (hv : v = .null ∨ ∃ t, v = .ref t) (h : WP k LAY m_J3_checkIndex_8e157 0 [(0, vI a), (1, vI b)] [] M Q) : Met l m_J3_checkIndex_8e157.1 (wds m_J3_checkIndex_8e157) { frames := k, cells := LAY.length - M.1.length, slots := slo LAY - slo M.1, locals := 64 * k } (va_Pc [.int (iI a), .int (iI b), v] (Hold G LAY M)) (Qf G LAY Q) (LAY.length - M.1.length) (slo LAY - slo M.1) (gF G) := by
  refine Met.ofWF (cc := m_J3_checkIndex_8e157.2.1) (maxL := m_J3_checkIndex_8e157.2.2.1) (ret := m_J3_checkIndex_8e157.2.2.2) k_J3_checkIndex_8e157.1.1 rfl ?_
  intro p e s m args below meth c s₁ B hml hvv
  obtain ⟨rfl, hH, hK, hSt, hn, hz, hE⟩ := hvv
  have hts := atoms_spec (ws := wds m_J3_checkIndex_8e157) B.pre
  rw [lg_entry_eq]
  have hl : lv_has ((lg_sl [Value.int (iI a), .int (iI b), v] ++ List.replicate (m_J3_checkIndex_8e157.2.2.1 - (lg_sl [Value.int (iI a), .int (iI b), v]).length) Slot.unset).toArray) m_J3_checkIndex_8e157.2.2.1 ([(0, vI a), (1, vI b)].map (fun q : Nat × AV => (q.1, cv (gA G) q.2))) := by
    have h0 := lv_entry [Value.int (iI a), .int (iI b), v] (n := m_J3_checkIndex_8e157.2.2.1) (by rcases hv with rfl | ⟨t, rfl⟩ <;> exact Nat.le_of_ble_eq_true rfl)
    refine ⟨h0.1, h0.2.1, fun q hq => h0.2.2 q ?_⟩
    simp only [List.map_cons, List.map_nil, List.mem_cons, List.not_mem_nil, or_false] at hq
    rcases hq with rfl | rfl
    · exact List.mem_cons_self
    · exact List.mem_cons_of_mem _ List.mem_cons_self
  exact h p l e _ s m _ below meth c G M.1.length (slo M.1) ⟨B.exec, B.bytes, hml, B.returns, findClass_of_methodNamed B.named, hts, B.notSynchronized, ⟨(name_of_methodNamed B.named B.method).1, k_J3_checkIndex_8e157.1.2.2.2⟩, hK, ⟨Nat.le_refl _, Nat.le_refl _⟩, ⟨show LAY.length ≤ (LAY.length - M.1.length) + M.1.length by omega, show slo LAY ≤ (slo LAY - slo M.1) + slo M.1 by omega, hE⟩, hH.2.1, hSt⟩ s.heap [] 0 0 _ hH va_S.rf (Nat.zero_add _) (Nat.zero_add _) ⟨hn, hz⟩ hl
theorem WP_ck {k : Nat} {L : List (Nat × AV)} {rv : RV} {I : Nat → Nat → Int32} {J : Nat → Nat → Int64} {Q : Option AV → Mem → Prop} {a b : Int} (hk : 1 ≤ k) (ha : 0 ≤ a ∧ a < b ∧ b < 2147483648) (h : WP k LAY m_J0_checkIndex_df160 8 L [vI a] (mem rv I J) Q) : WP k LAY m_J0_checkIndex_df160 2 L [vI b, vI a] (mem rv I J) Q := by
  intro p l e R s m args below meth c G n0 z0 C H locs cells slots ls hH hS h1 h3 h4 hl
  have hSt := C.2.2.2.2.2.2.2.2.2.2.2.2
  have hE : (mem rv I J).1.length ≤ LAY.length ∧ slo (mem rv I J).1 ≤ slo LAY ∧ LAY.length ≤ LAY.length ∧ slo LAY ≤ slo LAY := ⟨Nat.le_refl _, Nat.le_refl _, Nat.le_refl _, Nat.le_refl _⟩
  have body : WP (k - 1) LAY m_J3_checkIndex_8e157 0 [(0, vI a), (1, vI b)] [] (mem rv I J) (fun r M' => r = some (vI a) ∧ M' = mem rv I J) := by
    refine st_iload_n (pc' := 1) dJ3_checkIndex_8e157_0 rfl rfl (j := 0) rfl ?_
    refine st_if_lt (tg := 9) (pc' := 4) dJ3_checkIndex_8e157_1 (by decide) rfl ⟨by omega, by omega⟩ (fun c => absurd c (by omega)) (fun _ => ?_)
    refine st_iload_n (pc' := 5) dJ3_checkIndex_8e157_4 rfl rfl (j := 0) rfl ?_
    refine st_iload_n (pc' := 6) dJ3_checkIndex_8e157_5 rfl rfl (j := 1) rfl ?_
    refine st_icmp_lt (tg := 16) (pc' := 9) dJ3_checkIndex_8e157_6 (by decide) rfl ⟨by omega, by omega⟩ ⟨by omega, by omega⟩ (fun _ => ?_) (fun c => absurd ha.2.1 c)
    refine st_iload_n (pc' := 17) dJ3_checkIndex_8e157_16 rfl rfl (j := 0) rfl ?_
    exact st_iret (ty := .int) dJ3_checkIndex_8e157_17 rfl rfl rfl ⟨rfl, rfl⟩
  have go : ∀ v : Value, (v = .null ∨ ∃ t, v = .ref t) → W p l e R s m args below meth c H locs cells slots (MQ below (Qf G LAY Q) args s (LAY.length - n0) (slo LAY - z0) (gF G)) (F0 m 5 ls (v :: [vI b, vI a].map (cv (gA G)))) := by
    intro v hv
    have hro := call_room C k_J3_checkIndex_8e157.1 (show (k - 1) + 1 ≤ k by omega) h1 h3 hE
    have hrun := va_runS (p := p) (l := l) (e := e) (R := R) (s := s) (m := m) (args := args) (below := below) (meth := meth) (c := c) (H := H) (locs := locs) (cells := cells) (slots := slots) (cc := m_J0_checkIndex_df160.2.1) (nL := m_J0_checkIndex_df160.2.2.1) (own := m_J0_checkIndex_df160.1.cls) (Ts := wds m_J0_checkIndex_df160) (As := [.int (iI a), .int (iI b), v]) (rest := []) (g := F0 m 5 ls (v :: [vI b, vI a].map (cv (gA G)))) ⟨C.1, C.2.1, C.2.2.1, C.2.2.2.2.1, C.2.2.2.2.2.1⟩ (Met_ck (l := l) (G := G) hv body)
      (va_cwS 3 C.2.2.2.2.2.1 (goodS k_J3_checkIndex_8e157 l_J0_1059) rfl rfl rfl ⟨k_J3_checkIndex_8e157.1.2.1.1, k_J3_checkIndex_8e157.1.2.1.2, k_J3_checkIndex_8e157.1.2.2.1⟩ hro.1) ⟨hold_blind, fun U hU hW => by
        subst hU
        exact ⟨rfl, hH, va_K.moved hW.alike C.2.2.2.2.2.2.2.2.1, hSt.to hS hW, hE.1, hE.2.1, Nat.le_trans hE.2.2.1 C.2.2.2.2.2.2.2.2.2.2.1.2.2⟩⟩ rfl rfl hl.1 rfl (lv_room (by decide)) dJ0_checkIndex_df160_5 hro.2
    refine run_go hrun hS (fun r M' H1 locs1 q hM hH1 hS1 => ?_)
    obtain ⟨rfl, rfl⟩ := q
    exact go_on (S := []) C (some (vI a)) h rfl hH1 hS1 h1 h3 hE hl
  rcases hSt.2.2.2.2.2.2.2.2 with hz | ⟨t, hz⟩
  · exact va_gets (cc := m_J0_checkIndex_df160.2.1) (own := RJ0) C.1 C.2.1 hz hS C.2.2.2.2.1 (C.ts f_J0_1053) (fun _ q => q) dJ0_checkIndex_df160_2 (go .null (Or.inl rfl))
  · exact va_gets (cc := m_J0_checkIndex_df160.2.1) (own := RJ0) C.1 C.2.1 hz hS C.2.2.2.2.1 (C.ts f_J0_1053) (fun _ q => q) dJ0_checkIndex_df160_2 (go (.ref t) (Or.inr ⟨t, rfl⟩))
theorem S_J0_check {k : Nat} {rv : RV} {I : Nat → Nat → Int32} {J : Nat → Nat → Int64} {Q : Option AV → Mem → Prop} {a b : Int} (hk : 1 ≤ k) (ha : 0 ≤ a ∧ a < b ∧ b < 2147483648) (h : Q none (mem rv I J)) : WPm k LAY m_J0_checkIndex_df160 [vI a, vI b] (mem rv I J) Q := by
  refine WPm.of k_J0_checkIndex_df160.1 (Nat.le_of_ble_eq_true rfl) ?_
  refine st_iload_n (pc' := 1) dJ0_checkIndex_df160_0 rfl rfl (j := 0) rfl ?_
  refine st_iload_n (pc' := 2) dJ0_checkIndex_df160_1 rfl rfl (j := 1) rfl ?_
  refine WP_ck hk ha ?_
  refine st_pop (pc' := 9) dJ0_checkIndex_df160_8 rfl rfl ?_
  exact st_vret dJ0_checkIndex_df160_9 rfl rfl h
theorem S_J1_charAt {k : Nat} {rv : RV} {I : Nat → Nat → Int32} {J : Nat → Nat → Int64} {Q : Option AV → Mem → Prop} {z : Int} (hk : 2 ≤ k) (hz : 0 ≤ z ∧ z < 175) (h : Q (some (vI (ownZ z.toNat))) (mem rv I J)) : WPm k LAY m_J1_charAt_3b067 [vR (some 1000002), vI z] (mem rv I J) Q := by
  have ho := own_at (j := z.toNat) (by omega)
  refine WPm.of k_J1_charAt_3b067.1 (Nat.le_of_ble_eq_true rfl) ?_
  refine st_iload_n (pc' := 1) dJ1_charAt_3b067_0 rfl rfl (j := 1) rfl ?_
  refine st_aload_n (pc' := 2) dJ1_charAt_3b067_1 rfl rfl (j := 0) rfl ?_
  refine st_blen (pc' := 3) dJ1_charAt_3b067_2 rfl ?_
  refine st_callS (pc' := 6) (kc := k - 1) (E' := LAY) (cal := m_J0_checkIndex_df160) (n := 2) (as := [vI z, vI 175]) (S := []) dJ1_charAt_3b067_3 rfl l_J1_9 k_J0_checkIndex_df160 rfl rfl (Nat.le_of_ble_eq_true rfl) (by omega) ⟨Nat.le_refl _, Nat.le_refl _, Nat.le_refl _, Nat.le_refl _⟩ (Q1 := fun r M' => r = none ∧ M' = mem rv I J) (S_J0_check (by omega) ⟨by omega, by omega, by decide⟩ ⟨rfl, rfl⟩) (fun r M' q => ?_)
  obtain ⟨rfl, rfl⟩ := q
  change WP _ LAY m_J1_charAt_3b067 6 _ [] (mem rv I J) Q
  refine st_aload_n (pc' := 7) dJ1_charAt_3b067_6 rfl rfl (j := 0) rfl ?_
  refine st_iload_n (pc' := 8) dJ1_charAt_3b067_7 rfl rfl (j := 1) rfl ?_
  refine st_bald (pc' := 9) dJ1_charAt_3b067_8 rfl hz ?_
  refine st_sipush (pc' := 12) dJ1_charAt_3b067_9 rfl (by decide) ?_
  refine st_iand (pc' := 13) (z := ownZ z.toNat) dJ1_charAt_3b067_12 rfl ho.1 ?_
  refine st_i2c (pc' := 14) dJ1_charAt_3b067_13 rfl ho.2.1 ?_
  refine st_iret (ty := .char) dJ1_charAt_3b067_14 rfl ?_ rfl h
  show Value.int (((iI (ownZ z.toNat)).toUInt32 % 65536).toInt32) = _
  rw [ho.2.1]
theorem S_charAt {k : Nat} {rv : RV} {I : Nat → Nat → Int32} {J : Nat → Nat → Int64} {Q : Option AV → Mem → Prop} {z : Int} (hk : 3 ≤ k) (hz : 0 ≤ z ∧ z < 175) (h : Q (some (vI (ownZ z.toNat))) (mem rv I J)) : WPm k LAY m_J0_charAt_5068e [vR (some 1000001), vI z] (mem rv I J) Q := by
  have ho := own_at (j := z.toNat) (by omega)
  refine WPm.of k_J0_charAt_5068e.1 (Nat.le_of_ble_eq_true rfl) ?_
  refine st_aload_n (pc' := 1) dJ0_charAt_5068e_0 rfl rfl (j := 0) rfl ?_
  refine st_callStr (pc' := 4) (kc := k - 1) (E' := LAY) (cal := m_J0_isLatin1_aae02) (n := 0) (as := []) (S := []) dJ0_charAt_5068e_1 rfl l_J0_492 k_J0_isLatin1_aae02 rfl rfl rfl (Nat.le_of_ble_eq_true rfl) (by omega) ⟨Nat.le_refl _, Nat.le_refl _, Nat.le_refl _, Nat.le_refl _⟩ (Q1 := fun r M' => r = some (vI 1) ∧ M' = mem rv I J) (S_J0_isLatin1 ⟨rfl, rfl⟩) (fun r M' q => ?_)
  obtain ⟨rfl, rfl⟩ := q
  change WP _ LAY m_J0_charAt_5068e 4 _ [vI 1] (mem rv I J) Q
  refine st_if_eq (tg := 16) (pc' := 7) dJ0_charAt_5068e_4 (by decide) rfl (by decide) (fun c => absurd c (by decide)) (fun _ => ?_)
  refine st_aload_n (pc' := 8) dJ0_charAt_5068e_7 rfl rfl (j := 0) rfl ?_
  refine st_value (pc' := 11) dJ0_charAt_5068e_8 rfl rfl ?_
  refine st_iload_n (pc' := 12) dJ0_charAt_5068e_11 rfl rfl (j := 1) rfl ?_
  refine st_callS (pc' := 15) (kc := k - 1) (E' := LAY) (cal := m_J1_charAt_3b067) (n := 2) (as := [vR (some 1000002), vI z]) (S := []) dJ0_charAt_5068e_12 rfl l_J0_495 k_J1_charAt_3b067 rfl rfl (Nat.le_of_ble_eq_true rfl) (by omega) ⟨Nat.le_refl _, Nat.le_refl _, Nat.le_refl _, Nat.le_refl _⟩ (Q1 := fun r M' => r = some (vI (ownZ z.toNat)) ∧ M' = mem rv I J) (S_J1_charAt (by omega) hz ⟨rfl, rfl⟩) (fun r M' q => ?_)
  obtain ⟨rfl, rfl⟩ := q
  change WP _ LAY m_J0_charAt_5068e 15 _ [vI (ownZ z.toNat)] (mem rv I J) Q
  refine st_iret (ty := .char) dJ0_charAt_5068e_15 rfl ?_ rfl h
  show Value.int (((iI (ownZ z.toNat)).toUInt32 % 65536).toInt32) = _
  rw [ho.2.1]
end STRS

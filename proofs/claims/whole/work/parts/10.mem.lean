section MEMS
def LAY : List LT := [(14, 12), (13, 7), (0, 1600), (6, 5), (5, 7), (10, 16), (0, 4), (0, 180), (0, 14), (0, 14), (0, 14), (0, 14), (0, 14), (0, 6), (0, 6), (0, 5), (0, 1600), (0, 3), (0, 3), (0, 87), (0, 84), (0, 1740), (10, 16), (0, 4), (0, 180), (0, 14), (0, 14), (0, 14), (0, 14), (0, 14), (0, 6), (0, 6), (0, 5), (0, 1600), (0, 3), (0, 3), (12, 3), (0, 64), (0, 25), (3, 6), (0, 8), (0, 8), (4, 11), (0, 5), (0, 5), (0, 6), (0, 6), (0, 6), (0, 6), (0, 6), (0, 48), (11, 17), (0, 14), (0, 15), (9, 17), (0, 8), (0, 8), (0, 8), (0, 3), (0, 42), (0, 24), (0, 3), (0, 3), (8, 13), (0, 6), (0, 6), (0, 48), (0, 6), (1, 64), (1, 64), (7, 4), (0, 107), (0, 87), (0, 6), (15, 88), (0, 1800), (0, 2), (0, 2), (0, 28), (0, 28), (0, 28), (0, 28), (0, 2), (0, 2), (0, 12), (0, 12), (0, 2), (0, 10), (0, 2), (0, 2), (0, 2), (0, 2), (0, 2), (0, 2), (0, 2), (0, 3200), (0, 3200), (1, 10), (1, 28), (1, 12), (1, 10), (0, 20), (0, 20), (2, 20), (0, 20), (0, 20), (0, 500), (0, 6), (0, 22), (0, 22), (0, 132), (0, 132), (0, 132), (0, 132), (0, 132), (0, 132), (0, 1056), (0, 22), (0, 1320), (0, 1320), (0, 1320), (1, 500), (0, 6), (0, 6), (0, 5), (0, 8), (0, 768), (0, 768), (0, 8), (0, 6), (0, 14), (0, 110)]
def RFL : List (List (Option Nat)) := [[some 1, some 3, some 4, some 36, some 42, some 51, some 54, some 63, some 70, some 73, some 22], [some 2], [], [some 1], [some 5, some 19, some 20, some 21], [some 6, some 7, some 8, some 9, some 10, some 11, some 12, some 13, some 14, some 15, some 16, some 17, some 18], [], [], [], [], [], [], [], [], [], [], [], [], [], [], [], [], [some 23, some 24, some 25, some 26, some 27, some 28, some 29, some 30, some 31, some 32, some 33, some 34, some 35], [], [], [], [], [], [], [], [], [], [], [], [], [], [some 37, some 38, some 4], [], [], [some 4, some 36, some 40, some 41], [], [], [some 4, some 36, some 39, some 43, some 44, some 45, some 46, some 47, some 48, some 49, some 50], [], [], [], [], [], [], [], [], [some 4, some 36, some 52, some 53], [], [], [some 4, some 36, some 51, none, none, none, none, none, none, some 55, some 56, some 57, some 58, some 59, some 60, some 61, some 62], [], [], [], [], [], [], [], [], [some 4, some 36, some 39, some 64, some 65, some 66, some 67, some 68, some 69], [], [], [], [], [], [], [some 71, some 72], [], [], [], [some 75, none, none, none, none, none, none, none, none, none, none, none, none, none, some 76, some 77, some 78, some 79, some 80, some 81, some 82, some 83, some 84, some 85, some 86, some 87, some 88, some 89, some 90, some 91, some 92, some 93, some 94, some 95, some 96, some 97, some 98, some 99, some 100, none, none, some 101, some 102, some 103, some 104, some 105, none, none, some 106, none, none, some 107, some 108, some 109, some 110, some 111, some 112, some 113, some 114, some 115, some 116, some 117, some 118, some 119, some 120, none, none, none, some 121, none, none, none, none, none, some 122, some 123, some 124, none, some 125, some 126, some 127, some 128, none, none, some 129, some 130, some 131]]
abbrev RV : Type := Option Nat × Option Nat × Option Nat
/-- what the references of the two objects hold: three of the class's change (the parser's shelf, the hall's shelf, the spare one), all else is made once -/
def RF (rv : RV) (c k : Nat) : Option Nat := if c = 3 ∧ k = 1 then rv.1 else if c = 4 ∧ k = 0 then rv.2.1 else if c = 0 ∧ k = 10 then rv.2.2 else (RFL.getD c []).getD k none
def mem (rv : RV) (I : Nat → Nat → Int32) (J : Nat → Nat → Int64) : Mem := (LAY, I, J, RF rv)
abbrev rv0 (P : Option Nat) : RV := (P, some 5, some 22)
def gi (I : Nat → Nat → Int32) (c k : Nat) : Int := (I c k).toInt
def si (I : Nat → Nat → Int32) (c k : Nat) (z : Int) : Nat → Nat → Int32 := up2 I c k (iI z)
def gl (J : Nat → Nat → Int64) (c k : Nat) : Int := (J c k).toInt
def sl (J : Nat → Nat → Int64) (c k : Nat) (z : Int) : Nat → Nat → Int64 := up2 J c k (iL z)
def fc (I : Nat → Nat → Int32) (src sp dst dp n : Nat) : Nat → Nat → Int32 := fun c' => if c' = dst then va_cpy (I src) (I dst) sp dp n else I c'
def and32 (a b : Int) : Int := (iI a &&& iI b).toInt
def or32 (a b : Int) : Int := (iI a ||| iI b).toInt
def xor32 (a b : Int) : Int := (iI a ^^^ iI b).toInt
def shl32 (a b : Int) : Int := (iI a <<< (iI b &&& 31)).toInt
def shr32 (a b : Int) : Int := (iI a >>> (iI b &&& 31)).toInt
def ushr32 (a b : Int) : Int := ((iI a).toUInt32 >>> ((iI b).toUInt32 &&& Int32.toUInt32 31)).toInt32.toInt
def div32 (a b : Int) : Int := (iI a / iI b).toInt
def rem32 (a b : Int) : Int := (iI a - iI a / iI b * iI b).toInt
def and64 (a b : Int) : Int := (iL a &&& iL b).toInt
def or64 (a b : Int) : Int := (iL a ||| iL b).toInt
def xor64 (a b : Int) : Int := (iL a ^^^ iL b).toInt
def shl64 (a b : Int) : Int := (iL a <<< ((iI b).toInt64 &&& 63)).toInt
def shr64 (a b : Int) : Int := (iL a >>> ((iI b).toInt64 &&& 63)).toInt
def div64 (a b : Int) : Int := (iL a / iL b).toInt
def rem64 (a b : Int) : Int := (iL a - iL a / iL b * iL b).toInt
theorem gi_in (I : Nat → Nat → Int32) (c k : Nat) : inR (gi I c k) := i32_in _
theorem gl_in (J : Nat → Nat → Int64) (c k : Nat) : inL (gl J c k) := i64_in _
theorem gi_si (I : Nat → Nat → Int32) (c k c' k' : Nat) {z : Int} (hz : inR z) : gi (si I c k z) c' k' = if c' = c ∧ k' = k then z else gi I c' k' := by
  by_cases h1 : c' = c
  · subst h1
    by_cases h2 : k' = k
    · subst h2
      simp [gi, si, up2, iI_to hz]
    · simp [gi, si, up2, h2]
  · simp [gi, si, up2, h1]
theorem gi_same (I : Nat → Nat → Int32) (c k : Nat) {z : Int} (hz : inR z) : gi (si I c k z) c k = z := by rw [gi_si _ _ _ _ _ hz, if_pos ⟨rfl, rfl⟩]
theorem gi_cell (I : Nat → Nat → Int32) {c c' : Nat} (k k' : Nat) (z : Int) (h : c' ≠ c) : gi (si I c k z) c' k' = gi I c' k' := by simp [gi, si, up2, h]
theorem gi_idx (I : Nat → Nat → Int32) (c : Nat) {k k' : Nat} (z : Int) (h : k' ≠ k) : gi (si I c k z) c k' = gi I c k' := by simp [gi, si, up2, h]
theorem gl_same (J : Nat → Nat → Int64) (c k : Nat) {z : Int} (hz : inL z) : gl (sl J c k z) c k = z := by simp [gl, sl, up2, iL_to hz]
theorem gl_cell (J : Nat → Nat → Int64) {c c' : Nat} (k k' : Nat) (z : Int) (h : c' ≠ c) : gl (sl J c k z) c' k' = gl J c' k' := by simp [gl, sl, up2, h]
theorem gl_idx (J : Nat → Nat → Int64) (c : Nat) {k k' : Nat} (z : Int) (h : k' ≠ k) : gl (sl J c k z) c k' = gl J c k' := by simp [gl, sl, up2, h]
theorem gi_fc (I : Nat → Nat → Int32) (src sp dst dp n c' k' : Nat) : gi (fc I src sp dst dp n) c' k' = if c' = dst ∧ dp ≤ k' ∧ k' < dp + n then gi I src (sp + (k' - dp)) else gi I c' k' := by
  by_cases h1 : c' = dst
  · subst h1
    by_cases h2 : dp ≤ k' ∧ k' < dp + n
    · simp [gi, fc, va_cpy, h2]
    · simp only [gi, fc, va_cpy, if_true, if_neg h2]
      rw [if_neg (fun q => h2 q.2)]
  · simp [gi, fc, h1]
theorem in_b {z n : Int} (h : 0 ≤ z ∧ z < n) (hn : n ≤ 2147483648) : inR z := ⟨by omega, by omega⟩
theorem L_of {z : Int} (h : inR z) : inL z := ⟨by omega, by omega⟩
theorem nar_b {z : Int} (h : z = 0 ∨ z = 1) : narrow .boolean (.int (iI z)) = .int (iI z) := by rcases h with rfl | rfl <;> decide
theorem zl_eq {a : Int} (ha : inL a) : iL a = 0 ↔ a = 0 := by rw [show (0 : Int64) = iL 0 by decide]; exact iL_eq ha (by decide)
theorem gi_fcell (I : Nat → Nat → Int32) (src sp : Nat) {dst c' : Nat} (dp n k' : Nat) (h : c' ≠ dst) : gi (fc I src sp dst dp n) c' k' = gi I c' k' := by simp [gi, fc, h]
theorem mem_ps (rv : RV) (I : Nat → Nat → Int32) (J : Nat → Nat → Int64) (x : Option Nat) : seR (mem rv I J) 3 1 x = mem (x, rv.2) I J := by
  unfold seR mem
  congr 3
  funext c k
  by_cases hc : c = 3
  · subst hc
    by_cases hk : k = 1 <;> simp [up2, RF, hk]
  · simp [up2, RF, hc]
theorem mem_sh (rv : RV) (I : Nat → Nat → Int32) (J : Nat → Nat → Int64) (x : Option Nat) : seR (mem rv I J) 4 0 x = mem (rv.1, x, rv.2.2) I J := by
  unfold seR mem
  congr 3
  funext c k
  by_cases hc : c = 4
  · subst hc
    by_cases hk : k = 0 <;> simp [up2, RF, hk]
  · simp [up2, RF, hc]
theorem mem_sp (rv : RV) (I : Nat → Nat → Int32) (J : Nat → Nat → Int64) (x : Option Nat) : seR (mem rv I J) 0 10 x = mem (rv.1, rv.2.1, x) I J := by
  unfold seR mem
  congr 3
  funext c k
  by_cases hc : c = 0
  · subst hc
    by_cases hk : k = 10 <;> simp [up2, RF, hk]
  · simp [up2, RF, hc]
/-! what a call gives: an int, a long, nothing -/
def retI (F : Int → (Nat → Nat → Int32) → (Nat → Nat → Int64) → Prop) (rv : RV) : Option AV → Mem → Prop := fun r M => ∃ v I J, r = some (vI v) ∧ M = mem rv I J ∧ F v I J
def retL (F : Int → (Nat → Nat → Int32) → (Nat → Nat → Int64) → Prop) (rv : RV) : Option AV → Mem → Prop := fun r M => ∃ v I J, r = some (vL v) ∧ M = mem rv I J ∧ F v I J
def retV (F : (Nat → Nat → Int32) → (Nat → Nat → Int64) → Prop) (rv : RV) : Option AV → Mem → Prop := fun r M => ∃ I J, r = none ∧ M = mem rv I J ∧ F I J
theorem WP_sub {k : Nat} {E : List LT} {md : MD} {pc : Nat} {L L' : List (Nat × AV)} {S : List AV} {M : Mem} {Q : Option AV → Mem → Prop} (ks : List Nat) (hk : ks.map (fun i => L[i]?) = L'.map some) (h : WP k E md pc L' S M Q) : WP k E md pc L S M Q := by
  intro p l e R s m args below meth c G n0 z0 C H locs cells slots ls hH hS h1 h2 h3 hl
  refine h p l e R s m args below meth c G n0 z0 C H locs cells slots ls hH hS h1 h2 h3 ⟨hl.1, hl.2.1, fun q hq => ?_⟩
  obtain ⟨q0, hq0, rfl⟩ := List.mem_map.mp hq
  have h9 : some q0 ∈ ks.map (fun i => L[i]?) := by rw [hk]; exact List.mem_map.mpr ⟨q0, hq0, rfl⟩
  obtain ⟨i, -, hi⟩ := List.mem_map.mp h9
  exact hl.2.2 _ (List.mem_map.mpr ⟨q0, List.mem_of_getElem? hi, rfl⟩)
theorem WP_mono {k : Nat} {E : List LT} {md : MD} {pc : Nat} {L : List (Nat × AV)} {S : List AV} {M M' : Mem} {Q : Option AV → Mem → Prop} (e : M = M') (h : WP k E md pc L S M' Q) : WP k E md pc L S M Q := e ▸ h
theorem st_lif_lt {k : Nat} {E : List LT} {md : MD} {pc pc' : Nat} {L : List (Nat × AV)} {S : List AV} {M : Mem} {Q : Option AV → Mem → Prop} {a b : Int} {off : Int} {tg pc1 : Nat} (hd : decode md.2.1 pc = .ok (.lcmp, 1)) (hp1 : pc + 1 = pc1) (hd2 : decode md.2.1 pc1 = .ok (.ifCond .lt off, 3)) (ht : (pc1 : Int) + off = (tg : Int)) (hp : pc1 + 3 = pc') (ha : inL a) (hb : inL b) (kt : a < b → WP k E md tg L S M Q) (kf : ¬ a < b → WP k E md pc' L S M Q) : WP k E md pc L (vL b :: vL a :: S) M Q := by
  refine st_lcmp hd hp1 ha hb (st_if_lt hd2 ht hp (by split <;> (try split) <;> decide) (fun q => kt ?_) (fun q => kf ?_)) <;> (revert q; split <;> (try split) <;> omega)
theorem st_lif_ge {k : Nat} {E : List LT} {md : MD} {pc pc' : Nat} {L : List (Nat × AV)} {S : List AV} {M : Mem} {Q : Option AV → Mem → Prop} {a b : Int} {off : Int} {tg pc1 : Nat} (hd : decode md.2.1 pc = .ok (.lcmp, 1)) (hp1 : pc + 1 = pc1) (hd2 : decode md.2.1 pc1 = .ok (.ifCond .ge off, 3)) (ht : (pc1 : Int) + off = (tg : Int)) (hp : pc1 + 3 = pc') (ha : inL a) (hb : inL b) (kt : b ≤ a → WP k E md tg L S M Q) (kf : ¬ b ≤ a → WP k E md pc' L S M Q) : WP k E md pc L (vL b :: vL a :: S) M Q := by
  refine st_lcmp hd hp1 ha hb (st_if_ge hd2 ht hp (by split <;> (try split) <;> decide) (fun q => kt ?_) (fun q => kf ?_)) <;> (revert q; split <;> (try split) <;> omega)
theorem st_lif_gt {k : Nat} {E : List LT} {md : MD} {pc pc' : Nat} {L : List (Nat × AV)} {S : List AV} {M : Mem} {Q : Option AV → Mem → Prop} {a b : Int} {off : Int} {tg pc1 : Nat} (hd : decode md.2.1 pc = .ok (.lcmp, 1)) (hp1 : pc + 1 = pc1) (hd2 : decode md.2.1 pc1 = .ok (.ifCond .gt off, 3)) (ht : (pc1 : Int) + off = (tg : Int)) (hp : pc1 + 3 = pc') (ha : inL a) (hb : inL b) (kt : b < a → WP k E md tg L S M Q) (kf : ¬ b < a → WP k E md pc' L S M Q) : WP k E md pc L (vL b :: vL a :: S) M Q := by
  refine st_lcmp hd hp1 ha hb (st_if_gt hd2 ht hp (by split <;> (try split) <;> decide) (fun q => kt ?_) (fun q => kf ?_)) <;> (revert q; split <;> (try split) <;> omega)
theorem st_lif_le {k : Nat} {E : List LT} {md : MD} {pc pc' : Nat} {L : List (Nat × AV)} {S : List AV} {M : Mem} {Q : Option AV → Mem → Prop} {a b : Int} {off : Int} {tg pc1 : Nat} (hd : decode md.2.1 pc = .ok (.lcmp, 1)) (hp1 : pc + 1 = pc1) (hd2 : decode md.2.1 pc1 = .ok (.ifCond .le off, 3)) (ht : (pc1 : Int) + off = (tg : Int)) (hp : pc1 + 3 = pc') (ha : inL a) (hb : inL b) (kt : a ≤ b → WP k E md tg L S M Q) (kf : ¬ a ≤ b → WP k E md pc' L S M Q) : WP k E md pc L (vL b :: vL a :: S) M Q := by
  refine st_lcmp hd hp1 ha hb (st_if_le hd2 ht hp (by split <;> (try split) <;> decide) (fun q => kt ?_) (fun q => kf ?_)) <;> (revert q; split <;> (try split) <;> omega)
theorem st_lif_eq {k : Nat} {E : List LT} {md : MD} {pc pc' : Nat} {L : List (Nat × AV)} {S : List AV} {M : Mem} {Q : Option AV → Mem → Prop} {a b : Int} {off : Int} {tg pc1 : Nat} (hd : decode md.2.1 pc = .ok (.lcmp, 1)) (hp1 : pc + 1 = pc1) (hd2 : decode md.2.1 pc1 = .ok (.ifCond .eq off, 3)) (ht : (pc1 : Int) + off = (tg : Int)) (hp : pc1 + 3 = pc') (ha : inL a) (hb : inL b) (kt : a = b → WP k E md tg L S M Q) (kf : ¬ a = b → WP k E md pc' L S M Q) : WP k E md pc L (vL b :: vL a :: S) M Q := by
  refine st_lcmp hd hp1 ha hb (st_if_eq hd2 ht hp (by split <;> (try split) <;> decide) (fun q => kt ?_) (fun q => kf ?_)) <;> (revert q; split <;> (try split) <;> omega)
theorem st_lif_ne {k : Nat} {E : List LT} {md : MD} {pc pc' : Nat} {L : List (Nat × AV)} {S : List AV} {M : Mem} {Q : Option AV → Mem → Prop} {a b : Int} {off : Int} {tg pc1 : Nat} (hd : decode md.2.1 pc = .ok (.lcmp, 1)) (hp1 : pc + 1 = pc1) (hd2 : decode md.2.1 pc1 = .ok (.ifCond .ne off, 3)) (ht : (pc1 : Int) + off = (tg : Int)) (hp : pc1 + 3 = pc') (ha : inL a) (hb : inL b) (kt : ¬ a = b → WP k E md tg L S M Q) (kf : a = b → WP k E md pc' L S M Q) : WP k E md pc L (vL b :: vL a :: S) M Q := by
  refine st_lcmp hd hp1 ha hb (st_if_ne hd2 ht hp (by split <;> (try split) <;> decide) (fun q => kt ?_) (fun q => kf ?_)) <;> (revert q; split <;> (try split) <;> omega)
theorem and32_in (a b : Int) : inR (and32 a b) := i32_in _
theorem or32_in (a b : Int) : inR (or32 a b) := i32_in _
theorem xor32_in (a b : Int) : inR (xor32 a b) := i32_in _
theorem shl32_in (a b : Int) : inR (shl32 a b) := i32_in _
theorem shr32_in (a b : Int) : inR (shr32 a b) := i32_in _
theorem ushr32_in (a b : Int) : inR (ushr32 a b) := i32_in _
theorem div32_in (a b : Int) : inR (div32 a b) := i32_in _
theorem rem32_in (a b : Int) : inR (rem32 a b) := i32_in _
theorem and64_in (a b : Int) : inL (and64 a b) := i64_in _
theorem or64_in (a b : Int) : inL (or64 a b) := i64_in _
theorem xor64_in (a b : Int) : inL (xor64 a b) := i64_in _
theorem shl64_in (a b : Int) : inL (shl64 a b) := i64_in _
theorem shr64_in (a b : Int) : inL (shr64 a b) := i64_in _
theorem div64_in (a b : Int) : inL (div64 a b) := i64_in _
theorem rem64_in (a b : Int) : inL (rem64 a b) := i64_in _
theorem L_0 : LAY[0]? = some (14, 12) := rfl
theorem L_1 : LAY[1]? = some (13, 7) := rfl
theorem L_2 : LAY[2]? = some (0, 1600) := rfl
theorem L_3 : LAY[3]? = some (6, 5) := rfl
theorem L_4 : LAY[4]? = some (5, 7) := rfl
theorem L_5 : LAY[5]? = some (10, 16) := rfl
theorem L_6 : LAY[6]? = some (0, 4) := rfl
theorem L_7 : LAY[7]? = some (0, 180) := rfl
theorem L_8 : LAY[8]? = some (0, 14) := rfl
theorem L_9 : LAY[9]? = some (0, 14) := rfl
theorem L_10 : LAY[10]? = some (0, 14) := rfl
theorem L_11 : LAY[11]? = some (0, 14) := rfl
theorem L_12 : LAY[12]? = some (0, 14) := rfl
theorem L_13 : LAY[13]? = some (0, 6) := rfl
theorem L_14 : LAY[14]? = some (0, 6) := rfl
theorem L_15 : LAY[15]? = some (0, 5) := rfl
theorem L_16 : LAY[16]? = some (0, 1600) := rfl
theorem L_17 : LAY[17]? = some (0, 3) := rfl
theorem L_18 : LAY[18]? = some (0, 3) := rfl
theorem L_19 : LAY[19]? = some (0, 87) := rfl
theorem L_20 : LAY[20]? = some (0, 84) := rfl
theorem L_21 : LAY[21]? = some (0, 1740) := rfl
theorem L_22 : LAY[22]? = some (10, 16) := rfl
theorem L_23 : LAY[23]? = some (0, 4) := rfl
theorem L_24 : LAY[24]? = some (0, 180) := rfl
theorem L_25 : LAY[25]? = some (0, 14) := rfl
theorem L_26 : LAY[26]? = some (0, 14) := rfl
theorem L_27 : LAY[27]? = some (0, 14) := rfl
theorem L_28 : LAY[28]? = some (0, 14) := rfl
theorem L_29 : LAY[29]? = some (0, 14) := rfl
theorem L_30 : LAY[30]? = some (0, 6) := rfl
theorem L_31 : LAY[31]? = some (0, 6) := rfl
theorem L_32 : LAY[32]? = some (0, 5) := rfl
theorem L_33 : LAY[33]? = some (0, 1600) := rfl
theorem L_34 : LAY[34]? = some (0, 3) := rfl
theorem L_35 : LAY[35]? = some (0, 3) := rfl
theorem L_36 : LAY[36]? = some (12, 3) := rfl
theorem L_37 : LAY[37]? = some (0, 64) := rfl
theorem L_38 : LAY[38]? = some (0, 25) := rfl
theorem L_39 : LAY[39]? = some (3, 6) := rfl
theorem L_40 : LAY[40]? = some (0, 8) := rfl
theorem L_41 : LAY[41]? = some (0, 8) := rfl
theorem L_42 : LAY[42]? = some (4, 11) := rfl
theorem L_43 : LAY[43]? = some (0, 5) := rfl
theorem L_44 : LAY[44]? = some (0, 5) := rfl
theorem L_45 : LAY[45]? = some (0, 6) := rfl
theorem L_46 : LAY[46]? = some (0, 6) := rfl
theorem L_47 : LAY[47]? = some (0, 6) := rfl
theorem L_48 : LAY[48]? = some (0, 6) := rfl
theorem L_49 : LAY[49]? = some (0, 6) := rfl
theorem L_50 : LAY[50]? = some (0, 48) := rfl
theorem L_51 : LAY[51]? = some (11, 17) := rfl
theorem L_52 : LAY[52]? = some (0, 14) := rfl
theorem L_53 : LAY[53]? = some (0, 15) := rfl
theorem L_54 : LAY[54]? = some (9, 17) := rfl
theorem L_55 : LAY[55]? = some (0, 8) := rfl
theorem L_56 : LAY[56]? = some (0, 8) := rfl
theorem L_57 : LAY[57]? = some (0, 8) := rfl
theorem L_58 : LAY[58]? = some (0, 3) := rfl
theorem L_59 : LAY[59]? = some (0, 42) := rfl
theorem L_60 : LAY[60]? = some (0, 24) := rfl
theorem L_61 : LAY[61]? = some (0, 3) := rfl
theorem L_62 : LAY[62]? = some (0, 3) := rfl
theorem L_63 : LAY[63]? = some (8, 13) := rfl
theorem L_64 : LAY[64]? = some (0, 6) := rfl
theorem L_65 : LAY[65]? = some (0, 6) := rfl
theorem L_66 : LAY[66]? = some (0, 48) := rfl
theorem L_67 : LAY[67]? = some (0, 6) := rfl
theorem L_68 : LAY[68]? = some (1, 64) := rfl
theorem L_69 : LAY[69]? = some (1, 64) := rfl
theorem L_70 : LAY[70]? = some (7, 4) := rfl
theorem L_71 : LAY[71]? = some (0, 107) := rfl
theorem L_72 : LAY[72]? = some (0, 87) := rfl
theorem L_73 : LAY[73]? = some (0, 6) := rfl
theorem L_74 : LAY[74]? = some (15, 88) := rfl
theorem L_75 : LAY[75]? = some (0, 1800) := rfl
theorem L_76 : LAY[76]? = some (0, 2) := rfl
theorem L_77 : LAY[77]? = some (0, 2) := rfl
theorem L_78 : LAY[78]? = some (0, 28) := rfl
theorem L_79 : LAY[79]? = some (0, 28) := rfl
theorem L_80 : LAY[80]? = some (0, 28) := rfl
theorem L_81 : LAY[81]? = some (0, 28) := rfl
theorem L_82 : LAY[82]? = some (0, 2) := rfl
theorem L_83 : LAY[83]? = some (0, 2) := rfl
theorem L_84 : LAY[84]? = some (0, 12) := rfl
theorem L_85 : LAY[85]? = some (0, 12) := rfl
theorem L_86 : LAY[86]? = some (0, 2) := rfl
theorem L_87 : LAY[87]? = some (0, 10) := rfl
theorem L_88 : LAY[88]? = some (0, 2) := rfl
theorem L_89 : LAY[89]? = some (0, 2) := rfl
theorem L_90 : LAY[90]? = some (0, 2) := rfl
theorem L_91 : LAY[91]? = some (0, 2) := rfl
theorem L_92 : LAY[92]? = some (0, 2) := rfl
theorem L_93 : LAY[93]? = some (0, 2) := rfl
theorem L_94 : LAY[94]? = some (0, 2) := rfl
theorem L_95 : LAY[95]? = some (0, 3200) := rfl
theorem L_96 : LAY[96]? = some (0, 3200) := rfl
theorem L_97 : LAY[97]? = some (1, 10) := rfl
theorem L_98 : LAY[98]? = some (1, 28) := rfl
theorem L_99 : LAY[99]? = some (1, 12) := rfl
theorem L_100 : LAY[100]? = some (1, 10) := rfl
theorem L_101 : LAY[101]? = some (0, 20) := rfl
theorem L_102 : LAY[102]? = some (0, 20) := rfl
theorem L_103 : LAY[103]? = some (2, 20) := rfl
theorem L_104 : LAY[104]? = some (0, 20) := rfl
theorem L_105 : LAY[105]? = some (0, 20) := rfl
theorem L_106 : LAY[106]? = some (0, 500) := rfl
theorem L_107 : LAY[107]? = some (0, 6) := rfl
theorem L_108 : LAY[108]? = some (0, 22) := rfl
theorem L_109 : LAY[109]? = some (0, 22) := rfl
theorem L_110 : LAY[110]? = some (0, 132) := rfl
theorem L_111 : LAY[111]? = some (0, 132) := rfl
theorem L_112 : LAY[112]? = some (0, 132) := rfl
theorem L_113 : LAY[113]? = some (0, 132) := rfl
theorem L_114 : LAY[114]? = some (0, 132) := rfl
theorem L_115 : LAY[115]? = some (0, 132) := rfl
theorem L_116 : LAY[116]? = some (0, 1056) := rfl
theorem L_117 : LAY[117]? = some (0, 22) := rfl
theorem L_118 : LAY[118]? = some (0, 1320) := rfl
theorem L_119 : LAY[119]? = some (0, 1320) := rfl
theorem L_120 : LAY[120]? = some (0, 1320) := rfl
theorem L_121 : LAY[121]? = some (1, 500) := rfl
theorem L_122 : LAY[122]? = some (0, 6) := rfl
theorem L_123 : LAY[123]? = some (0, 6) := rfl
theorem L_124 : LAY[124]? = some (0, 5) := rfl
theorem L_125 : LAY[125]? = some (0, 8) := rfl
theorem L_126 : LAY[126]? = some (0, 768) := rfl
theorem L_127 : LAY[127]? = some (0, 768) := rfl
theorem L_128 : LAY[128]? = some (0, 8) := rfl
theorem L_129 : LAY[129]? = some (0, 6) := rfl
theorem L_130 : LAY[130]? = some (0, 14) := rfl
theorem L_131 : LAY[131]? = some (0, 110) := rfl
theorem c_X0 : vwCl[0]? = some (RX0, TX0, 6) := rfl
theorem c_X1 : vwCl[1]? = some (RX1, TX1, 11) := rfl
theorem c_X2 : vwCl[2]? = some (RX2, TX2, 7) := rfl
theorem c_X3 : vwCl[3]? = some (RX3, TX3, 5) := rfl
theorem c_X4 : vwCl[4]? = some (RX4, TX4, 4) := rfl
theorem c_X5 : vwCl[5]? = some (RX5, TX5, 13) := rfl
theorem c_X6 : vwCl[6]? = some (RX6, TX6, 17) := rfl
theorem c_X7 : vwCl[7]? = some (RX7, TX7, 16) := rfl
theorem c_X8 : vwCl[8]? = some (RX8, TX8, 17) := rfl
theorem c_X9 : vwCl[9]? = some (RX9, TX9, 3) := rfl
theorem c_X10 : vwCl[10]? = some (RX10, TX10, 7) := rfl
theorem c_X11 : vwCl[11]? = some (RX11, TX11, 12) := rfl
theorem c_X12 : vwCl[12]? = some (RX12, TX12, 88) := rfl
theorem r_0_0 (rv : RV) : RF rv 0 0 = some 1 := rfl
theorem r_0_1 (rv : RV) : RF rv 0 1 = some 3 := rfl
theorem r_0_2 (rv : RV) : RF rv 0 2 = some 4 := rfl
theorem r_0_3 (rv : RV) : RF rv 0 3 = some 36 := rfl
theorem r_0_4 (rv : RV) : RF rv 0 4 = some 42 := rfl
theorem r_0_5 (rv : RV) : RF rv 0 5 = some 51 := rfl
theorem r_0_6 (rv : RV) : RF rv 0 6 = some 54 := rfl
theorem r_0_7 (rv : RV) : RF rv 0 7 = some 63 := rfl
theorem r_0_8 (rv : RV) : RF rv 0 8 = some 70 := rfl
theorem r_0_9 (rv : RV) : RF rv 0 9 = some 73 := rfl
theorem r_1_0 (rv : RV) : RF rv 1 0 = some 2 := rfl
theorem r_3_0 (rv : RV) : RF rv 3 0 = some 1 := rfl
theorem r_4_1 (rv : RV) : RF rv 4 1 = some 19 := rfl
theorem r_4_2 (rv : RV) : RF rv 4 2 = some 20 := rfl
theorem r_4_3 (rv : RV) : RF rv 4 3 = some 21 := rfl
theorem r_5_0 (rv : RV) : RF rv 5 0 = some 6 := rfl
theorem r_5_1 (rv : RV) : RF rv 5 1 = some 7 := rfl
theorem r_5_2 (rv : RV) : RF rv 5 2 = some 8 := rfl
theorem r_5_3 (rv : RV) : RF rv 5 3 = some 9 := rfl
theorem r_5_4 (rv : RV) : RF rv 5 4 = some 10 := rfl
theorem r_5_5 (rv : RV) : RF rv 5 5 = some 11 := rfl
theorem r_5_6 (rv : RV) : RF rv 5 6 = some 12 := rfl
theorem r_5_7 (rv : RV) : RF rv 5 7 = some 13 := rfl
theorem r_5_8 (rv : RV) : RF rv 5 8 = some 14 := rfl
theorem r_5_9 (rv : RV) : RF rv 5 9 = some 15 := rfl
theorem r_5_10 (rv : RV) : RF rv 5 10 = some 16 := rfl
theorem r_5_11 (rv : RV) : RF rv 5 11 = some 17 := rfl
theorem r_5_12 (rv : RV) : RF rv 5 12 = some 18 := rfl
theorem r_22_0 (rv : RV) : RF rv 22 0 = some 23 := rfl
theorem r_22_1 (rv : RV) : RF rv 22 1 = some 24 := rfl
theorem r_22_2 (rv : RV) : RF rv 22 2 = some 25 := rfl
theorem r_22_3 (rv : RV) : RF rv 22 3 = some 26 := rfl
theorem r_22_4 (rv : RV) : RF rv 22 4 = some 27 := rfl
theorem r_22_5 (rv : RV) : RF rv 22 5 = some 28 := rfl
theorem r_22_6 (rv : RV) : RF rv 22 6 = some 29 := rfl
theorem r_22_7 (rv : RV) : RF rv 22 7 = some 30 := rfl
theorem r_22_8 (rv : RV) : RF rv 22 8 = some 31 := rfl
theorem r_22_9 (rv : RV) : RF rv 22 9 = some 32 := rfl
theorem r_22_10 (rv : RV) : RF rv 22 10 = some 33 := rfl
theorem r_22_11 (rv : RV) : RF rv 22 11 = some 34 := rfl
theorem r_22_12 (rv : RV) : RF rv 22 12 = some 35 := rfl
theorem r_36_0 (rv : RV) : RF rv 36 0 = some 37 := rfl
theorem r_36_1 (rv : RV) : RF rv 36 1 = some 38 := rfl
theorem r_36_2 (rv : RV) : RF rv 36 2 = some 4 := rfl
theorem r_39_0 (rv : RV) : RF rv 39 0 = some 4 := rfl
theorem r_39_1 (rv : RV) : RF rv 39 1 = some 36 := rfl
theorem r_39_2 (rv : RV) : RF rv 39 2 = some 40 := rfl
theorem r_39_3 (rv : RV) : RF rv 39 3 = some 41 := rfl
theorem r_42_0 (rv : RV) : RF rv 42 0 = some 4 := rfl
theorem r_42_1 (rv : RV) : RF rv 42 1 = some 36 := rfl
theorem r_42_2 (rv : RV) : RF rv 42 2 = some 39 := rfl
theorem r_42_3 (rv : RV) : RF rv 42 3 = some 43 := rfl
theorem r_42_4 (rv : RV) : RF rv 42 4 = some 44 := rfl
theorem r_42_5 (rv : RV) : RF rv 42 5 = some 45 := rfl
theorem r_42_6 (rv : RV) : RF rv 42 6 = some 46 := rfl
theorem r_42_7 (rv : RV) : RF rv 42 7 = some 47 := rfl
theorem r_42_8 (rv : RV) : RF rv 42 8 = some 48 := rfl
theorem r_42_9 (rv : RV) : RF rv 42 9 = some 49 := rfl
theorem r_42_10 (rv : RV) : RF rv 42 10 = some 50 := rfl
theorem r_51_0 (rv : RV) : RF rv 51 0 = some 4 := rfl
theorem r_51_1 (rv : RV) : RF rv 51 1 = some 36 := rfl
theorem r_51_2 (rv : RV) : RF rv 51 2 = some 52 := rfl
theorem r_51_3 (rv : RV) : RF rv 51 3 = some 53 := rfl
theorem r_54_0 (rv : RV) : RF rv 54 0 = some 4 := rfl
theorem r_54_1 (rv : RV) : RF rv 54 1 = some 36 := rfl
theorem r_54_2 (rv : RV) : RF rv 54 2 = some 51 := rfl
theorem r_54_9 (rv : RV) : RF rv 54 9 = some 55 := rfl
theorem r_54_10 (rv : RV) : RF rv 54 10 = some 56 := rfl
theorem r_54_11 (rv : RV) : RF rv 54 11 = some 57 := rfl
theorem r_54_12 (rv : RV) : RF rv 54 12 = some 58 := rfl
theorem r_54_13 (rv : RV) : RF rv 54 13 = some 59 := rfl
theorem r_54_14 (rv : RV) : RF rv 54 14 = some 60 := rfl
theorem r_54_15 (rv : RV) : RF rv 54 15 = some 61 := rfl
theorem r_54_16 (rv : RV) : RF rv 54 16 = some 62 := rfl
theorem r_63_0 (rv : RV) : RF rv 63 0 = some 4 := rfl
theorem r_63_1 (rv : RV) : RF rv 63 1 = some 36 := rfl
theorem r_63_2 (rv : RV) : RF rv 63 2 = some 39 := rfl
theorem r_63_3 (rv : RV) : RF rv 63 3 = some 64 := rfl
theorem r_63_4 (rv : RV) : RF rv 63 4 = some 65 := rfl
theorem r_63_5 (rv : RV) : RF rv 63 5 = some 66 := rfl
theorem r_63_6 (rv : RV) : RF rv 63 6 = some 67 := rfl
theorem r_63_7 (rv : RV) : RF rv 63 7 = some 68 := rfl
theorem r_63_8 (rv : RV) : RF rv 63 8 = some 69 := rfl
theorem r_70_0 (rv : RV) : RF rv 70 0 = some 71 := rfl
theorem r_70_1 (rv : RV) : RF rv 70 1 = some 72 := rfl
theorem r_74_0 (rv : RV) : RF rv 74 0 = some 75 := rfl
theorem r_74_14 (rv : RV) : RF rv 74 14 = some 76 := rfl
theorem r_74_15 (rv : RV) : RF rv 74 15 = some 77 := rfl
theorem r_74_16 (rv : RV) : RF rv 74 16 = some 78 := rfl
theorem r_74_17 (rv : RV) : RF rv 74 17 = some 79 := rfl
theorem r_74_18 (rv : RV) : RF rv 74 18 = some 80 := rfl
theorem r_74_19 (rv : RV) : RF rv 74 19 = some 81 := rfl
theorem r_74_20 (rv : RV) : RF rv 74 20 = some 82 := rfl
theorem r_74_21 (rv : RV) : RF rv 74 21 = some 83 := rfl
theorem r_74_22 (rv : RV) : RF rv 74 22 = some 84 := rfl
theorem r_74_23 (rv : RV) : RF rv 74 23 = some 85 := rfl
theorem r_74_24 (rv : RV) : RF rv 74 24 = some 86 := rfl
theorem r_74_25 (rv : RV) : RF rv 74 25 = some 87 := rfl
theorem r_74_26 (rv : RV) : RF rv 74 26 = some 88 := rfl
theorem r_74_27 (rv : RV) : RF rv 74 27 = some 89 := rfl
theorem r_74_28 (rv : RV) : RF rv 74 28 = some 90 := rfl
theorem r_74_29 (rv : RV) : RF rv 74 29 = some 91 := rfl
theorem r_74_30 (rv : RV) : RF rv 74 30 = some 92 := rfl
theorem r_74_31 (rv : RV) : RF rv 74 31 = some 93 := rfl
theorem r_74_32 (rv : RV) : RF rv 74 32 = some 94 := rfl
theorem r_74_33 (rv : RV) : RF rv 74 33 = some 95 := rfl
theorem r_74_34 (rv : RV) : RF rv 74 34 = some 96 := rfl
theorem r_74_35 (rv : RV) : RF rv 74 35 = some 97 := rfl
theorem r_74_36 (rv : RV) : RF rv 74 36 = some 98 := rfl
theorem r_74_37 (rv : RV) : RF rv 74 37 = some 99 := rfl
theorem r_74_38 (rv : RV) : RF rv 74 38 = some 100 := rfl
theorem r_74_41 (rv : RV) : RF rv 74 41 = some 101 := rfl
theorem r_74_42 (rv : RV) : RF rv 74 42 = some 102 := rfl
theorem r_74_43 (rv : RV) : RF rv 74 43 = some 103 := rfl
theorem r_74_44 (rv : RV) : RF rv 74 44 = some 104 := rfl
theorem r_74_45 (rv : RV) : RF rv 74 45 = some 105 := rfl
theorem r_74_48 (rv : RV) : RF rv 74 48 = some 106 := rfl
theorem r_74_51 (rv : RV) : RF rv 74 51 = some 107 := rfl
theorem r_74_52 (rv : RV) : RF rv 74 52 = some 108 := rfl
theorem r_74_53 (rv : RV) : RF rv 74 53 = some 109 := rfl
theorem r_74_54 (rv : RV) : RF rv 74 54 = some 110 := rfl
theorem r_74_55 (rv : RV) : RF rv 74 55 = some 111 := rfl
theorem r_74_56 (rv : RV) : RF rv 74 56 = some 112 := rfl
theorem r_74_57 (rv : RV) : RF rv 74 57 = some 113 := rfl
theorem r_74_58 (rv : RV) : RF rv 74 58 = some 114 := rfl
theorem r_74_59 (rv : RV) : RF rv 74 59 = some 115 := rfl
theorem r_74_60 (rv : RV) : RF rv 74 60 = some 116 := rfl
theorem r_74_61 (rv : RV) : RF rv 74 61 = some 117 := rfl
theorem r_74_62 (rv : RV) : RF rv 74 62 = some 118 := rfl
theorem r_74_63 (rv : RV) : RF rv 74 63 = some 119 := rfl
theorem r_74_64 (rv : RV) : RF rv 74 64 = some 120 := rfl
theorem r_74_68 (rv : RV) : RF rv 74 68 = some 121 := rfl
theorem r_74_74 (rv : RV) : RF rv 74 74 = some 122 := rfl
theorem r_74_75 (rv : RV) : RF rv 74 75 = some 123 := rfl
theorem r_74_76 (rv : RV) : RF rv 74 76 = some 124 := rfl
theorem r_74_78 (rv : RV) : RF rv 74 78 = some 125 := rfl
theorem r_74_79 (rv : RV) : RF rv 74 79 = some 126 := rfl
theorem r_74_80 (rv : RV) : RF rv 74 80 = some 127 := rfl
theorem r_74_81 (rv : RV) : RF rv 74 81 = some 128 := rfl
theorem r_74_84 (rv : RV) : RF rv 74 84 = some 129 := rfl
theorem r_74_85 (rv : RV) : RF rv 74 85 = some 130 := rfl
theorem r_74_86 (rv : RV) : RF rv 74 86 = some 131 := rfl
end MEMS

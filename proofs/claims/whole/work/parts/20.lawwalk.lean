section LAWW
/-! ===== the cells' other names ===== -/
theorem Hd_ren {G G' : Geo} {M M' : Mem} {H : Heap} (sg : Nat → Nat) (hG : gD G' = gD G) (hB : gB G' = gB G) (hl : M'.1.length = M.1.length) (h1 : ∀ c, c < M.1.length → sg c < M.1.length) (had : adOk G' M.1.length) (hA : ∀ c, c < M.1.length → gA G' c = gA G (sg c)) (he : ∀ c, c < M.1.length → encC G' M' c (M'.1.getD c (0, 0)) = encC G M (sg c) (M.1.getD (sg c) (0, 0))) (h : Hd G M H) : Hd G' M' H := by
  refine ⟨fun k q hk => ?_, by rw [h.2.1, hB, hl], by rw [hl]; exact had⟩
  have hkl : k < M.1.length := by
    have := (List.getElem?_eq_some_iff.mp hk).1
    rw [ws_len, hl] at this
    exact this
  have e1 : (wsC G' M')[k]? = some (gA G' k, encC G' M' k (M'.1.getD k (0, 0))) := by
    simp [wsC, hl, hkl]
  have e2 : (wsC G M)[sg k]? = some (gA G (sg k), encC G M (sg k) (M.1.getD (sg k) (0, 0))) := by
    simp [wsC, h1 k hkl]
  rw [e1, hA k hkl, he k hkl] at hk
  cases hk
  rw [hG]
  exact h.1 (sg k) _ e2
theorem enc_ren {G G' : Geo} {M M' : Mem} {c d : Nat} (hC : gCI G' = gCI G ∧ gCJ G' = gCJ G ∧ gCZ G' = gCZ G) (hI : M'.2.1 c = M.2.1 d) (hJ : M'.2.2.1 c = M.2.2.1 d) : ∀ t : LT, (∀ ci n k, t = (ci + 3, n) → k < n → (M'.2.2.2 c k).map (gA G') = (M.2.2.2 d k).map (gA G)) → encC G' M' c t = encC G M d t := by
  intro t hR
  match t with
  | (0, n) => simp [encC, hI, hC.1]
  | (1, n) => simp [encC, hJ, hC.2.1]
  | (2, n) => simp [encC, hI, hC.2.2]
  | (ci + 3, n) =>
    simp only [encC, fsC]
    congr 2
    apply List.map_congr_left
    intro k hk
    have hr := hR ci n k rfl (List.mem_range.mp hk)
    cases Ty ci k <;> simp [fv, hI, hJ, hr]
/-- a memory whose references are the same where there are any -/
theorem Hd_refs {G : Geo} {E : List LT} {I : Nat → Nat → Int32} {J : Nat → Nat → Int64} {R R' : Nat → Nat → Option Nat} {H : Heap} (hR : ∀ c ci n k, c < E.length → E.getD c (0, 0) = (ci + 3, n) → k < n → R' c k = R c k) (h : Hd G (E, I, J, R) H) : Hd G (E, I, J, R') H := by
  refine Hd_ren (G := G) (G' := G) (M := (E, I, J, R)) (M' := (E, I, J, R')) (fun c => c) rfl rfl rfl (fun c hc => hc) h.2.2 (fun c hc => rfl) (fun c hc => ?_) h
  refine enc_ren (G := G) (G' := G) (M := (E, I, J, R)) (M' := (E, I, J, R')) (c := c) (d := c) ⟨rfl, rfl, rfl⟩ rfl rfl _ (fun ci n k ht hk => ?_)
  show (R' c k).map (gA G) = (R c k).map (gA G)
  rw [hR c ci n k hc ht hk]
/-! the two shelves change places -/
def sg (c : Nat) : Nat := if 5 ≤ c ∧ c < 19 then c + 17 else if 22 ≤ c ∧ c < 36 then c - 17 else c
theorem sg_sg (c : Nat) : sg (sg c) = c := by
  unfold sg
  split <;> split <;> (try split) <;> omega
theorem sg_lt {c : Nat} (h : c < 132) : sg c < 132 := by
  unfold sg
  split
  · omega
  · split <;> omega
theorem sg_off {c : Nat} (h : ¬ (5 ≤ c ∧ c < 19)) (h' : ¬ (22 ≤ c ∧ c < 36)) : sg c = c := by
  unfold sg
  rw [if_neg h, if_neg h']
def swG (G : Geo) : Geo := (G.1, G.2.1, G.2.2.1, G.2.2.2.1, fun c => G.2.2.2.2 (sg c))
theorem swG_ad {G : Geo} (h : adOk G 132) : adOk (swG G) 132 := by
  refine ⟨h.1, fun c h1 h2 => ?_, fun c hc => h.2.2.1 (sg c) (sg_lt hc), fun c c' hc hc' e => ?_⟩
  · show gA G (sg c) = _
    rw [sg_off (by omega) (by omega)]
    exact h.2.1 c h1 h2
  · have := h.2.2.2 (sg c) (sg c') (sg_lt hc) (sg_lt hc') e
    rw [← sg_sg c, ← sg_sg c', this]
theorem lay_len : LAY.length = 132 := by decide +kernel
theorem lay_sg : (List.range 132).all (fun c => decide (LAY.getD (sg c) (0, 0) = LAY.getD c (0, 0))) = true := by decide +kernel
theorem rf_sg : (List.range 132).all (fun c => (List.range 100).all (fun k => decide ((c = 3 ∧ k = 1) ∨ (c = 4 ∧ k = 0) ∨ (c = 0 ∧ k = 10) ∨ ((RFL.getD (sg c) []).getD k none).map sg = (RFL.getD c []).getD k none))) = true := by decide +kernel
theorem lay_sl : (List.range 132).all (fun c => decide ((LAY.getD c (0, 0)).1 < 3 ∨ (LAY.getD c (0, 0)).2 ≤ 100)) = true := by decide +kernel
theorem all_at {n : Nat} {f : Nat → Bool} (h : (List.range n).all f = true) {c : Nat} (hc : c < n) : f c = true := List.all_eq_true.mp h c (List.mem_range.mpr hc)
def swI {α : Type} (f : Nat → Nat → α) : Nat → Nat → α := fun c => f (sg c)
theorem Hd_sw {G : Geo} {P : Option Nat} {I : Nat → Nat → Int32} {J : Nat → Nat → Int64} {H : Heap} (h : Hd G (mem (P, some 22, some 5) I J) H) : Hd (swG G) (mem (P.map sg, some 5, some 22) (swI I) (swI J)) H := by
  have hl : (mem (P, some 22, some 5) I J).1.length = 132 := lay_len
  have had : adOk G 132 := by rw [← hl]; exact h.2.2
  refine Hd_ren (G := G) (G' := swG G) (M := mem (P, some 22, some 5) I J) (M' := mem (P.map sg, some 5, some 22) (swI I) (swI J)) sg rfl rfl (Eq.refl LAY.length) (fun c hc => by rw [hl] at hc ⊢; exact sg_lt hc) (by rw [hl]; exact swG_ad had) (fun c hc => rfl) (fun c hc => ?_) h
  rw [hl] at hc
  have e0 : LAY.getD (sg c) (0, 0) = LAY.getD c (0, 0) := of_decide_eq_true (all_at lay_sg hc)
  show encC (swG G) _ c (LAY.getD c (0, 0)) = encC G _ (sg c) (LAY.getD (sg c) (0, 0))
  rw [e0]
  refine enc_ren (G := G) (G' := swG G) (M := mem (P, some 22, some 5) I J) (M' := mem (P.map sg, some 5, some 22) (swI I) (swI J)) (c := c) (d := sg c) ⟨rfl, rfl, rfl⟩ rfl rfl _ (fun ci n k ht hk => ?_)
  have hk100 : k < 100 := by
    have := of_decide_eq_true (all_at lay_sl hc)
    rw [ht] at this
    rcases this with q | q
    · exact absurd q (by show ¬ ci + 3 < 3; omega)
    · exact Nat.lt_of_lt_of_le hk q
  have hr := of_decide_eq_true (all_at (all_at rf_sg hc) hk100)
  show (RF (P.map sg, some 5, some 22) c k).map (fun c => gA G (sg c)) = (RF (P, some 22, some 5) (sg c) k).map (gA G)
  have key : RF (P.map sg, some 5, some 22) c k = (RF (P, some 22, some 5) (sg c) k).map sg := by
    rcases hr with ⟨rfl, rfl⟩ | ⟨rfl, rfl⟩ | ⟨rfl, rfl⟩ | hr
    · rfl
    · rfl
    · rfl
    · unfold RF
      by_cases q1 : c = 3 ∧ k = 1
      · obtain ⟨rfl, rfl⟩ := q1; rfl
      · by_cases q2 : c = 4 ∧ k = 0
        · obtain ⟨rfl, rfl⟩ := q2; rfl
        · by_cases q3 : c = 0 ∧ k = 10
          · obtain ⟨rfl, rfl⟩ := q3; rfl
          · have s3 : ¬ (sg c = 3 ∧ k = 1) := fun z => q1 ⟨by rw [← sg_sg c, z.1]; rfl, z.2⟩
            have s4 : ¬ (sg c = 4 ∧ k = 0) := fun z => q2 ⟨by rw [← sg_sg c, z.1]; rfl, z.2⟩
            have s0 : ¬ (sg c = 0 ∧ k = 10) := fun z => q3 ⟨by rw [← sg_sg c, z.1]; rfl, z.2⟩
            rw [if_neg q1, if_neg q2, if_neg q3, if_neg s3, if_neg s4, if_neg s0]
            exact hr.symm
  rw [key, Option.map_map]
  congr 1
  funext d
  show gA G (sg (sg d)) = gA G d
  rw [sg_sg]
theorem LCx.sw {p : Program} {l : Launch} {e : Env} {s : State} {m : MethodId} {b : Nat} {below : List Frame} {meth : Method} {c : Code} {Ln : Nat} {xs : Nat → Int32} {G : Geo} (C : LCx p l e s m b below meth c Ln xs G) : LCx p l e s m b below meth c Ln xs (swG G) := by
  have e0 : gA (swG G) 1000000 = gA G 1000000 := congrArg (gA G) (sg_off (by omega) (by omega))
  have e1 : gA (swG G) 1000001 = gA G 1000001 := congrArg (gA G) (sg_off (by omega) (by omega))
  have e2 : gA (swG G) 1000002 = gA G 1000002 := congrArg (gA G) (sg_off (by omega) (by omega))
  have e5 : gA (swG G) 1000005 = gA G 1000005 := congrArg (gA G) (sg_off (by omega) (by omega))
  obtain ⟨a1, a2, a3, a4, a5, a6, a7, a8, a9, a10, a11, a12, a13, a14⟩ := C
  refine ⟨a1, a2, a3, a4, a5, a6, a7, a8, a9, ?_, a11, a12, by rw [e5]; exact a13, a14⟩
  unfold Stat at a10 ⊢
  rw [e0, e1, e2]
  exact a10
abbrev LL (i : Int) : List (Nat × AV) := [(3, vI i), (2, vR (some 74)), (1, vR (some 0)), (0, vR (some 1000005))]
theorem Wl_sw {p : Program} {l : Launch} {e : Env} {s : State} {m : MethodId} {b : Nat} {below : List Frame} {meth : Method} {c : Code} {Ln : Nat} {xs : Nat → Int32} {G : Geo} {pc : Nat} {i : Int} {P : Option Nat} {I : Nat → Nat → Int32} {J : Nat → Nat → Int64} (h : Wl p l e s m b below meth c (swG G) pc (LL i) [] (mem (P.map sg, some 5, some 22) (swI I) (swI J))) : Wl p l e s m b below meth c G pc (LL i) [] (mem (P, some 22, some 5) I J) := by
  intro H locs cells slots ls hH hS h1 h2 h3 hl
  exact h H locs cells slots ls (Hd_sw hH) hS h1 h2 h3 hl
/-! ===== one call of the script: the class's and the reference's answer ===== -/
abbrev Cpl : Type := (Nat → Nat → Int32) → (Nat → Nat → Int64) → Prop
/-- the two shelves in their places, or changed -/
def Cpl2 (V : Cpl) (M : Mem) : Prop := (∃ P I J, M = mem (rv0 P) I J ∧ V I J) ∨ ∃ P I J, M = mem (P, some 22, some 5) I J ∧ V (swI I) (swI J)
def Step (V V' : Cpl) (mC mR : MD) (as : List Int) : Prop := ∀ P I J, V I J → WPm 900 LAY mC (vR (some 0) :: as.map vI) (mem (rv0 P) I J) (fun r M1 => ∃ z, r = some (vI z) ∧ inR z ∧ M1.1 = LAY ∧ WPm 900 LAY mR (vR (some 74) :: as.map vI) M1 (fun r2 M2 => r2 = some (vI z) ∧ Cpl2 V' M2))
def Steps (V V' : Cpl) : Prop := (∀ a1 a2 a3 a4 a5 : Int, inR a1 → inR a2 → inR a3 → inR a4 → inR a5 → Step V V' m_X11_feed m_X12_feed [a1, a2, a3, a4, a5]) ∧ (∀ a1 : Int, inR a1 → Step V V' m_X11_end m_X12_end [a1]) ∧ (Step V V' m_X11_library m_X12_library []) ∧ (∀ a1 : Int, inR a1 → Step V V' m_X11_fault m_X12_fault [a1]) ∧ (∀ a1 : Int, inR a1 → Step V V' m_X11_has m_X12_has_ [a1]) ∧ (∀ a1 a2 a3 : Int, inR a1 → inR a2 → inR a3 → Step V V' m_X11_letter m_X12_letter [a1, a2, a3]) ∧ (∀ a1 a2 : Int, inR a1 → inR a2 → Step V V' m_X11_page m_X12_page [a1, a2]) ∧ (∀ a1 a2 : Int, inR a1 → inR a2 → Step V V' m_X11_reader m_X12_reader [a1, a2]) ∧ (∀ a1 a2 : Int, inR a1 → inR a2 → Step V V' m_X11_table m_X12_table [a1, a2]) ∧ (∀ a1 a2 : Int, inR a1 → inR a2 → Step V V' m_X11_takes m_X12_takes [a1, a2]) ∧ (∀ a1 : Int, inR a1 → Step V V' m_X11_burns m_X12_burns [a1]) ∧ (∀ a1 a2 : Int, inR a1 → inR a2 → Step V V' m_X11_tonight m_X12_tonight [a1, a2]) ∧ (∀ a1 : Int, inR a1 → Step V V' m_X11_whole m_X12_whole [a1]) ∧ (∀ a1 a2 : Int, inR a1 → inR a2 → Step V V' m_X11_seat m_X12_seat [a1, a2]) ∧ (∀ a1 a2 : Int, inR a1 → inR a2 → Step V V' m_X11_list m_X12_list [a1, a2]) ∧ (∀ a1 : Int, inR a1 → Step V V' m_X11_drop m_X12_drop [a1]) ∧ (∀ a1 a2 a3 : Int, inR a1 → inR a2 → inR a3 → Step V V' m_X11_tell m_X12_tell [a1, a2, a3]) ∧ (Step V V' m_X11_night m_X12_night []) ∧ (∀ a1 : Int, inR a1 → Step V V' m_X11_winter m_X12_winter [a1]) ∧ (Step V V' m_X11_undo m_X12_undo []) ∧ (∀ a1 : Int, inR a1 → Step V V' m_X11_seed m_X12_seed [a1]) ∧ (∀ a1 a2 : Int, inR a1 → inR a2 → Step V V' m_X11_kept m_X12_kept [a1, a2]) ∧ (∀ a1 a2 a3 : Int, inR a1 → inR a2 → inR a3 → Step V V' m_X11_work m_X12_work [a1, a2, a3]) ∧ (∀ a1 : Int, inR a1 → Step V V' m_X11_scholar m_X12_scholar [a1]) ∧ (∀ a1 a2 : Int, inR a1 → inR a2 → Step V V' m_X11_shared m_X12_shared [a1, a2]) ∧ (∀ a1 : Int, inR a1 → Step V V' m_X11_seated m_X12_seated [a1]) ∧ (∀ a1 a2 a3 : Int, inR a1 → inR a2 → inR a3 → Step V V' m_X11_most m_X12_most [a1, a2, a3]) ∧ (∀ a1 a2 a3 : Int, inR a1 → inR a2 → inR a3 → Step V V' m_X11_wax m_X12_wax [a1, a2, a3]) ∧ (∀ a1 a2 : Int, inR a1 → inR a2 → Step V V' m_X11_index m_X12_index [a1, a2]) ∧ (Step V V' m_X11_image m_X12_image []) ∧ (∀ a1 : Int, inR a1 → Step V V' m_X11_octet m_X12_octet [a1]) ∧ (Step V V' m_X11_on m_X12_on []) ∧ (∀ a1 : Int, inR a1 → Step V V' m_X11_status m_X12_status [a1])
theorem lay_hE {M : Mem} (h : M.1 = LAY) : M.1.length ≤ LAY.length ∧ slo M.1 ≤ slo LAY ∧ LAY.length ≤ LAY.length ∧ slo LAY ≤ slo LAY := by
  rw [h]
  exact ⟨Nat.le_refl _, Nat.le_refl _, Nat.le_refl _, Nat.le_refl _⟩
theorem law_b {p : Program} {l : Launch} {e : Env} {s : State} {m : MethodId} {b : Nat} {below : List Frame} {meth : Method} {c : Code} {Ln : Nat} {xs : Nat → Int32} {G : Geo} (C : LCx p l e s m b below meth c Ln xs G) {V : Cpl} {mC mR : MD} {as : List Int} {pc pc1 pc2 i : Int} : True := trivial

set_option maxRecDepth 20000 in
theorem law_c0 {p : Program} {l : Launch} {e : Env} {s : State} {m : MethodId} {b : Nat} {below : List Frame} {meth : Method} {c : Code} {Ln : Nat} {xs : Nat → Int32} {G : Geo} (C : LCx p l e s m b below meth c Ln xs G) {V V' : Cpl} {i : Int} (h0 : 0 ≤ i) (h1 : i + 6 ≤ Ln) {P : Option Nat} {I : Nat → Nat → Int32} {J : Nat → Nat → Int64} (hV : V I J) (T : Step V V' m_X11_feed m_X12_feed [(xs (i + 1).toNat).toInt, (xs (i + 2).toNat).toInt, (xs (i + 3).toNat).toInt, (xs (i + 4).toNat).toInt, (xs (i + 5).toNat).toInt]) (nx : ∀ M2, Cpl2 V' M2 → Wl p l e s m b below meth c G 1129 (LL i) [] M2) : Wl p l e s m b below meth c G 180 (LL i) [] (mem (rv0 P) I J) := by
  refine lk_aload_n C (pc' := 181) dL_180 rfl rfl (j := 2) rfl ?_
  refine lk_aload_n C (pc' := 182) dL_181 rfl rfl (j := 3) rfl ?_
  refine lk_iload_n C (pc' := 183) dL_182 rfl rfl (j := 0) rfl ?_
  refine lk_iconst C (pc' := 184) dL_183 rfl ?_
  refine lk_iadd C (pc' := 185) dL_184 rfl ?_
  refine lk_sld C (pc' := 186) dL_185 rfl ⟨by omega, by omega⟩ rfl ?_
  refine lk_aload_n C (pc' := 187) dL_186 rfl rfl (j := 3) rfl ?_
  refine lk_iload_n C (pc' := 188) dL_187 rfl rfl (j := 0) rfl ?_
  refine lk_iconst C (pc' := 189) dL_188 rfl ?_
  refine lk_iadd C (pc' := 190) dL_189 rfl ?_
  refine lk_sld C (pc' := 191) dL_190 rfl ⟨by omega, by omega⟩ rfl ?_
  refine lk_aload_n C (pc' := 192) dL_191 rfl rfl (j := 3) rfl ?_
  refine lk_iload_n C (pc' := 193) dL_192 rfl rfl (j := 0) rfl ?_
  refine lk_iconst C (pc' := 194) dL_193 rfl ?_
  refine lk_iadd C (pc' := 195) dL_194 rfl ?_
  refine lk_sld C (pc' := 196) dL_195 rfl ⟨by omega, by omega⟩ rfl ?_
  refine lk_aload_n C (pc' := 197) dL_196 rfl rfl (j := 3) rfl ?_
  refine lk_iload_n C (pc' := 198) dL_197 rfl rfl (j := 0) rfl ?_
  refine lk_iconst C (pc' := 199) dL_198 rfl ?_
  refine lk_iadd C (pc' := 200) dL_199 rfl ?_
  refine lk_sld C (pc' := 201) dL_200 rfl ⟨by omega, by omega⟩ rfl ?_
  refine lk_aload_n C (pc' := 202) dL_201 rfl rfl (j := 3) rfl ?_
  refine lk_iload_n C (pc' := 203) dL_202 rfl rfl (j := 0) rfl ?_
  refine lk_iconst C (pc' := 204) dL_203 rfl ?_
  refine lk_iadd C (pc' := 205) dL_204 rfl ?_
  refine lk_sld C (pc' := 206) dL_205 rfl ⟨by omega, by omega⟩ rfl ?_
  refine lk_callV C (pc' := 209) (kc := 900) (E' := LAY) (cal := m_X11_feed) (n := 5) (a := 0) (ci := 11) (nf := 12) (as := [vI (xs (i + 1).toNat).toInt, vI (xs (i + 2).toNat).toInt, vI (xs (i + 3).toNat).toInt, vI (xs (i + 4).toNat).toInt, vI (xs (i + 5).toNat).toInt]) (S := []) dL_206 rfl l_L_13 k_X11_feed rfl rfl c_X11 rfl rfl (Nat.le_of_ble_eq_true rfl) (by omega) (lay_hE rfl) (T P I J hV) ?_
  intro r M1 hQ
  obtain ⟨z, rfl, hz, hM1, hR⟩ := hQ
  refine lk_aload_n C (pc' := 210) dL_209 rfl rfl (j := 1) rfl ?_
  refine lk_aload_n C (pc' := 211) dL_210 rfl rfl (j := 3) rfl ?_
  refine lk_iload_n C (pc' := 212) dL_211 rfl rfl (j := 0) rfl ?_
  refine lk_iconst C (pc' := 213) dL_212 rfl ?_
  refine lk_iadd C (pc' := 214) dL_213 rfl ?_
  refine lk_sld C (pc' := 215) dL_214 rfl ⟨by omega, by omega⟩ rfl ?_
  refine lk_aload_n C (pc' := 216) dL_215 rfl rfl (j := 3) rfl ?_
  refine lk_iload_n C (pc' := 217) dL_216 rfl rfl (j := 0) rfl ?_
  refine lk_iconst C (pc' := 218) dL_217 rfl ?_
  refine lk_iadd C (pc' := 219) dL_218 rfl ?_
  refine lk_sld C (pc' := 220) dL_219 rfl ⟨by omega, by omega⟩ rfl ?_
  refine lk_aload_n C (pc' := 221) dL_220 rfl rfl (j := 3) rfl ?_
  refine lk_iload_n C (pc' := 222) dL_221 rfl rfl (j := 0) rfl ?_
  refine lk_iconst C (pc' := 223) dL_222 rfl ?_
  refine lk_iadd C (pc' := 224) dL_223 rfl ?_
  refine lk_sld C (pc' := 225) dL_224 rfl ⟨by omega, by omega⟩ rfl ?_
  refine lk_aload_n C (pc' := 226) dL_225 rfl rfl (j := 3) rfl ?_
  refine lk_iload_n C (pc' := 227) dL_226 rfl rfl (j := 0) rfl ?_
  refine lk_iconst C (pc' := 228) dL_227 rfl ?_
  refine lk_iadd C (pc' := 229) dL_228 rfl ?_
  refine lk_sld C (pc' := 230) dL_229 rfl ⟨by omega, by omega⟩ rfl ?_
  refine lk_aload_n C (pc' := 231) dL_230 rfl rfl (j := 3) rfl ?_
  refine lk_iload_n C (pc' := 232) dL_231 rfl rfl (j := 0) rfl ?_
  refine lk_iconst C (pc' := 233) dL_232 rfl ?_
  refine lk_iadd C (pc' := 234) dL_233 rfl ?_
  refine lk_sld C (pc' := 235) dL_234 rfl ⟨by omega, by omega⟩ rfl ?_
  refine lk_callV C (pc' := 238) (kc := 900) (E' := LAY) (cal := m_X12_feed) (n := 5) (a := 74) (ci := 12) (nf := 88) (as := [vI (xs (i + 1).toNat).toInt, vI (xs (i + 2).toNat).toInt, vI (xs (i + 3).toNat).toInt, vI (xs (i + 4).toNat).toInt, vI (xs (i + 5).toNat).toInt]) (S := [vI z]) dL_235 rfl l_L_17 k_X12_feed rfl (by rw [hM1]; rfl) c_X12 rfl rfl (Nat.le_of_ble_eq_true rfl) (by omega) (lay_hE hM1) hR ?_
  intro r M2 hQ
  obtain ⟨rfl, hV2⟩ := hQ
  exact lk_icmp_eq C (pc' := 241) dL_238 (by decide) rfl hz hz (fun _ => nx M2 hV2) (fun q => absurd rfl q)
set_option maxRecDepth 20000 in
theorem law_c1 {p : Program} {l : Launch} {e : Env} {s : State} {m : MethodId} {b : Nat} {below : List Frame} {meth : Method} {c : Code} {Ln : Nat} {xs : Nat → Int32} {G : Geo} (C : LCx p l e s m b below meth c Ln xs G) {V V' : Cpl} {i : Int} (h0 : 0 ≤ i) (h1 : i + 6 ≤ Ln) {P : Option Nat} {I : Nat → Nat → Int32} {J : Nat → Nat → Int64} (hV : V I J) (T : Step V V' m_X11_end m_X12_end [(xs (i + 1).toNat).toInt]) (nx : ∀ M2, Cpl2 V' M2 → Wl p l e s m b below meth c G 1129 (LL i) [] M2) : Wl p l e s m b below meth c G 243 (LL i) [] (mem (rv0 P) I J) := by
  refine lk_aload_n C (pc' := 244) dL_243 rfl rfl (j := 2) rfl ?_
  refine lk_aload_n C (pc' := 245) dL_244 rfl rfl (j := 3) rfl ?_
  refine lk_iload_n C (pc' := 246) dL_245 rfl rfl (j := 0) rfl ?_
  refine lk_iconst C (pc' := 247) dL_246 rfl ?_
  refine lk_iadd C (pc' := 248) dL_247 rfl ?_
  refine lk_sld C (pc' := 249) dL_248 rfl ⟨by omega, by omega⟩ rfl ?_
  refine lk_callV C (pc' := 252) (kc := 900) (E' := LAY) (cal := m_X11_end) (n := 1) (a := 0) (ci := 11) (nf := 12) (as := [vI (xs (i + 1).toNat).toInt]) (S := []) dL_249 rfl l_L_18 k_X11_end rfl rfl c_X11 rfl rfl (Nat.le_of_ble_eq_true rfl) (by omega) (lay_hE rfl) (T P I J hV) ?_
  intro r M1 hQ
  obtain ⟨z, rfl, hz, hM1, hR⟩ := hQ
  refine lk_aload_n C (pc' := 253) dL_252 rfl rfl (j := 1) rfl ?_
  refine lk_aload_n C (pc' := 254) dL_253 rfl rfl (j := 3) rfl ?_
  refine lk_iload_n C (pc' := 255) dL_254 rfl rfl (j := 0) rfl ?_
  refine lk_iconst C (pc' := 256) dL_255 rfl ?_
  refine lk_iadd C (pc' := 257) dL_256 rfl ?_
  refine lk_sld C (pc' := 258) dL_257 rfl ⟨by omega, by omega⟩ rfl ?_
  refine lk_callV C (pc' := 261) (kc := 900) (E' := LAY) (cal := m_X12_end) (n := 1) (a := 74) (ci := 12) (nf := 88) (as := [vI (xs (i + 1).toNat).toInt]) (S := [vI z]) dL_258 rfl l_L_22 k_X12_end rfl (by rw [hM1]; rfl) c_X12 rfl rfl (Nat.le_of_ble_eq_true rfl) (by omega) (lay_hE hM1) hR ?_
  intro r M2 hQ
  obtain ⟨rfl, hV2⟩ := hQ
  exact lk_icmp_eq C (pc' := 264) dL_261 (by decide) rfl hz hz (fun _ => nx M2 hV2) (fun q => absurd rfl q)
set_option maxRecDepth 20000 in
theorem law_c2 {p : Program} {l : Launch} {e : Env} {s : State} {m : MethodId} {b : Nat} {below : List Frame} {meth : Method} {c : Code} {Ln : Nat} {xs : Nat → Int32} {G : Geo} (C : LCx p l e s m b below meth c Ln xs G) {V V' : Cpl} {i : Int} (h0 : 0 ≤ i) (h1 : i + 6 ≤ Ln) {P : Option Nat} {I : Nat → Nat → Int32} {J : Nat → Nat → Int64} (hV : V I J) (T : Step V V' m_X11_library m_X12_library []) (nx : ∀ M2, Cpl2 V' M2 → Wl p l e s m b below meth c G 1129 (LL i) [] M2) : Wl p l e s m b below meth c G 266 (LL i) [] (mem (rv0 P) I J) := by
  refine lk_aload_n C (pc' := 267) dL_266 rfl rfl (j := 2) rfl ?_
  refine lk_callV C (pc' := 270) (kc := 900) (E' := LAY) (cal := m_X11_library) (n := 0) (a := 0) (ci := 11) (nf := 12) (as := []) (S := []) dL_267 rfl l_L_23 k_X11_library rfl rfl c_X11 rfl rfl (Nat.le_of_ble_eq_true rfl) (by omega) (lay_hE rfl) (T P I J hV) ?_
  intro r M1 hQ
  obtain ⟨z, rfl, hz, hM1, hR⟩ := hQ
  refine lk_aload_n C (pc' := 271) dL_270 rfl rfl (j := 1) rfl ?_
  refine lk_callV C (pc' := 274) (kc := 900) (E' := LAY) (cal := m_X12_library) (n := 0) (a := 74) (ci := 12) (nf := 88) (as := []) (S := [vI z]) dL_271 rfl l_L_27 k_X12_library rfl (by rw [hM1]; rfl) c_X12 rfl rfl (Nat.le_of_ble_eq_true rfl) (by omega) (lay_hE hM1) hR ?_
  intro r M2 hQ
  obtain ⟨rfl, hV2⟩ := hQ
  exact lk_icmp_eq C (pc' := 277) dL_274 (by decide) rfl hz hz (fun _ => nx M2 hV2) (fun q => absurd rfl q)
set_option maxRecDepth 20000 in
theorem law_c3 {p : Program} {l : Launch} {e : Env} {s : State} {m : MethodId} {b : Nat} {below : List Frame} {meth : Method} {c : Code} {Ln : Nat} {xs : Nat → Int32} {G : Geo} (C : LCx p l e s m b below meth c Ln xs G) {V V' : Cpl} {i : Int} (h0 : 0 ≤ i) (h1 : i + 6 ≤ Ln) {P : Option Nat} {I : Nat → Nat → Int32} {J : Nat → Nat → Int64} (hV : V I J) (T : Step V V' m_X11_fault m_X12_fault [(xs (i + 1).toNat).toInt]) (nx : ∀ M2, Cpl2 V' M2 → Wl p l e s m b below meth c G 1129 (LL i) [] M2) : Wl p l e s m b below meth c G 279 (LL i) [] (mem (rv0 P) I J) := by
  refine lk_aload_n C (pc' := 280) dL_279 rfl rfl (j := 2) rfl ?_
  refine lk_aload_n C (pc' := 281) dL_280 rfl rfl (j := 3) rfl ?_
  refine lk_iload_n C (pc' := 282) dL_281 rfl rfl (j := 0) rfl ?_
  refine lk_iconst C (pc' := 283) dL_282 rfl ?_
  refine lk_iadd C (pc' := 284) dL_283 rfl ?_
  refine lk_sld C (pc' := 285) dL_284 rfl ⟨by omega, by omega⟩ rfl ?_
  refine lk_callV C (pc' := 288) (kc := 900) (E' := LAY) (cal := m_X11_fault) (n := 1) (a := 0) (ci := 11) (nf := 12) (as := [vI (xs (i + 1).toNat).toInt]) (S := []) dL_285 rfl l_L_28 k_X11_fault rfl rfl c_X11 rfl rfl (Nat.le_of_ble_eq_true rfl) (by omega) (lay_hE rfl) (T P I J hV) ?_
  intro r M1 hQ
  obtain ⟨z, rfl, hz, hM1, hR⟩ := hQ
  refine lk_aload_n C (pc' := 289) dL_288 rfl rfl (j := 1) rfl ?_
  refine lk_aload_n C (pc' := 290) dL_289 rfl rfl (j := 3) rfl ?_
  refine lk_iload_n C (pc' := 291) dL_290 rfl rfl (j := 0) rfl ?_
  refine lk_iconst C (pc' := 292) dL_291 rfl ?_
  refine lk_iadd C (pc' := 293) dL_292 rfl ?_
  refine lk_sld C (pc' := 294) dL_293 rfl ⟨by omega, by omega⟩ rfl ?_
  refine lk_callV C (pc' := 297) (kc := 900) (E' := LAY) (cal := m_X12_fault) (n := 1) (a := 74) (ci := 12) (nf := 88) (as := [vI (xs (i + 1).toNat).toInt]) (S := [vI z]) dL_294 rfl l_L_32 k_X12_fault rfl (by rw [hM1]; rfl) c_X12 rfl rfl (Nat.le_of_ble_eq_true rfl) (by omega) (lay_hE hM1) hR ?_
  intro r M2 hQ
  obtain ⟨rfl, hV2⟩ := hQ
  exact lk_icmp_eq C (pc' := 300) dL_297 (by decide) rfl hz hz (fun _ => nx M2 hV2) (fun q => absurd rfl q)
set_option maxRecDepth 20000 in
theorem law_c4 {p : Program} {l : Launch} {e : Env} {s : State} {m : MethodId} {b : Nat} {below : List Frame} {meth : Method} {c : Code} {Ln : Nat} {xs : Nat → Int32} {G : Geo} (C : LCx p l e s m b below meth c Ln xs G) {V V' : Cpl} {i : Int} (h0 : 0 ≤ i) (h1 : i + 6 ≤ Ln) {P : Option Nat} {I : Nat → Nat → Int32} {J : Nat → Nat → Int64} (hV : V I J) (T : Step V V' m_X11_has m_X12_has_ [(xs (i + 1).toNat).toInt]) (nx : ∀ M2, Cpl2 V' M2 → Wl p l e s m b below meth c G 1129 (LL i) [] M2) : Wl p l e s m b below meth c G 302 (LL i) [] (mem (rv0 P) I J) := by
  refine lk_aload_n C (pc' := 303) dL_302 rfl rfl (j := 2) rfl ?_
  refine lk_aload_n C (pc' := 304) dL_303 rfl rfl (j := 3) rfl ?_
  refine lk_iload_n C (pc' := 305) dL_304 rfl rfl (j := 0) rfl ?_
  refine lk_iconst C (pc' := 306) dL_305 rfl ?_
  refine lk_iadd C (pc' := 307) dL_306 rfl ?_
  refine lk_sld C (pc' := 308) dL_307 rfl ⟨by omega, by omega⟩ rfl ?_
  refine lk_callV C (pc' := 311) (kc := 900) (E' := LAY) (cal := m_X11_has) (n := 1) (a := 0) (ci := 11) (nf := 12) (as := [vI (xs (i + 1).toNat).toInt]) (S := []) dL_308 rfl l_L_33 k_X11_has rfl rfl c_X11 rfl rfl (Nat.le_of_ble_eq_true rfl) (by omega) (lay_hE rfl) (T P I J hV) ?_
  intro r M1 hQ
  obtain ⟨z, rfl, hz, hM1, hR⟩ := hQ
  refine lk_aload_n C (pc' := 312) dL_311 rfl rfl (j := 1) rfl ?_
  refine lk_aload_n C (pc' := 313) dL_312 rfl rfl (j := 3) rfl ?_
  refine lk_iload_n C (pc' := 314) dL_313 rfl rfl (j := 0) rfl ?_
  refine lk_iconst C (pc' := 315) dL_314 rfl ?_
  refine lk_iadd C (pc' := 316) dL_315 rfl ?_
  refine lk_sld C (pc' := 317) dL_316 rfl ⟨by omega, by omega⟩ rfl ?_
  refine lk_callV C (pc' := 320) (kc := 900) (E' := LAY) (cal := m_X12_has_) (n := 1) (a := 74) (ci := 12) (nf := 88) (as := [vI (xs (i + 1).toNat).toInt]) (S := [vI z]) dL_317 rfl l_L_36 k_X12_has_ rfl (by rw [hM1]; rfl) c_X12 rfl rfl (Nat.le_of_ble_eq_true rfl) (by omega) (lay_hE hM1) hR ?_
  intro r M2 hQ
  obtain ⟨rfl, hV2⟩ := hQ
  exact lk_icmp_eq C (pc' := 323) dL_320 (by decide) rfl hz hz (fun _ => nx M2 hV2) (fun q => absurd rfl q)
set_option maxRecDepth 20000 in
theorem law_c5 {p : Program} {l : Launch} {e : Env} {s : State} {m : MethodId} {b : Nat} {below : List Frame} {meth : Method} {c : Code} {Ln : Nat} {xs : Nat → Int32} {G : Geo} (C : LCx p l e s m b below meth c Ln xs G) {V V' : Cpl} {i : Int} (h0 : 0 ≤ i) (h1 : i + 6 ≤ Ln) {P : Option Nat} {I : Nat → Nat → Int32} {J : Nat → Nat → Int64} (hV : V I J) (T : Step V V' m_X11_letter m_X12_letter [(xs (i + 1).toNat).toInt, (xs (i + 2).toNat).toInt, (xs (i + 3).toNat).toInt]) (nx : ∀ M2, Cpl2 V' M2 → Wl p l e s m b below meth c G 1129 (LL i) [] M2) : Wl p l e s m b below meth c G 325 (LL i) [] (mem (rv0 P) I J) := by
  refine lk_aload_n C (pc' := 326) dL_325 rfl rfl (j := 2) rfl ?_
  refine lk_aload_n C (pc' := 327) dL_326 rfl rfl (j := 3) rfl ?_
  refine lk_iload_n C (pc' := 328) dL_327 rfl rfl (j := 0) rfl ?_
  refine lk_iconst C (pc' := 329) dL_328 rfl ?_
  refine lk_iadd C (pc' := 330) dL_329 rfl ?_
  refine lk_sld C (pc' := 331) dL_330 rfl ⟨by omega, by omega⟩ rfl ?_
  refine lk_aload_n C (pc' := 332) dL_331 rfl rfl (j := 3) rfl ?_
  refine lk_iload_n C (pc' := 333) dL_332 rfl rfl (j := 0) rfl ?_
  refine lk_iconst C (pc' := 334) dL_333 rfl ?_
  refine lk_iadd C (pc' := 335) dL_334 rfl ?_
  refine lk_sld C (pc' := 336) dL_335 rfl ⟨by omega, by omega⟩ rfl ?_
  refine lk_aload_n C (pc' := 337) dL_336 rfl rfl (j := 3) rfl ?_
  refine lk_iload_n C (pc' := 338) dL_337 rfl rfl (j := 0) rfl ?_
  refine lk_iconst C (pc' := 339) dL_338 rfl ?_
  refine lk_iadd C (pc' := 340) dL_339 rfl ?_
  refine lk_sld C (pc' := 341) dL_340 rfl ⟨by omega, by omega⟩ rfl ?_
  refine lk_callV C (pc' := 344) (kc := 900) (E' := LAY) (cal := m_X11_letter) (n := 3) (a := 0) (ci := 11) (nf := 12) (as := [vI (xs (i + 1).toNat).toInt, vI (xs (i + 2).toNat).toInt, vI (xs (i + 3).toNat).toInt]) (S := []) dL_341 rfl l_L_37 k_X11_letter rfl rfl c_X11 rfl rfl (Nat.le_of_ble_eq_true rfl) (by omega) (lay_hE rfl) (T P I J hV) ?_
  intro r M1 hQ
  obtain ⟨z, rfl, hz, hM1, hR⟩ := hQ
  refine lk_aload_n C (pc' := 345) dL_344 rfl rfl (j := 1) rfl ?_
  refine lk_aload_n C (pc' := 346) dL_345 rfl rfl (j := 3) rfl ?_
  refine lk_iload_n C (pc' := 347) dL_346 rfl rfl (j := 0) rfl ?_
  refine lk_iconst C (pc' := 348) dL_347 rfl ?_
  refine lk_iadd C (pc' := 349) dL_348 rfl ?_
  refine lk_sld C (pc' := 350) dL_349 rfl ⟨by omega, by omega⟩ rfl ?_
  refine lk_aload_n C (pc' := 351) dL_350 rfl rfl (j := 3) rfl ?_
  refine lk_iload_n C (pc' := 352) dL_351 rfl rfl (j := 0) rfl ?_
  refine lk_iconst C (pc' := 353) dL_352 rfl ?_
  refine lk_iadd C (pc' := 354) dL_353 rfl ?_
  refine lk_sld C (pc' := 355) dL_354 rfl ⟨by omega, by omega⟩ rfl ?_
  refine lk_aload_n C (pc' := 356) dL_355 rfl rfl (j := 3) rfl ?_
  refine lk_iload_n C (pc' := 357) dL_356 rfl rfl (j := 0) rfl ?_
  refine lk_iconst C (pc' := 358) dL_357 rfl ?_
  refine lk_iadd C (pc' := 359) dL_358 rfl ?_
  refine lk_sld C (pc' := 360) dL_359 rfl ⟨by omega, by omega⟩ rfl ?_
  refine lk_callV C (pc' := 363) (kc := 900) (E' := LAY) (cal := m_X12_letter) (n := 3) (a := 74) (ci := 12) (nf := 88) (as := [vI (xs (i + 1).toNat).toInt, vI (xs (i + 2).toNat).toInt, vI (xs (i + 3).toNat).toInt]) (S := [vI z]) dL_360 rfl l_L_41 k_X12_letter rfl (by rw [hM1]; rfl) c_X12 rfl rfl (Nat.le_of_ble_eq_true rfl) (by omega) (lay_hE hM1) hR ?_
  intro r M2 hQ
  obtain ⟨rfl, hV2⟩ := hQ
  exact lk_icmp_eq C (pc' := 366) dL_363 (by decide) rfl hz hz (fun _ => nx M2 hV2) (fun q => absurd rfl q)
set_option maxRecDepth 20000 in
theorem law_c6 {p : Program} {l : Launch} {e : Env} {s : State} {m : MethodId} {b : Nat} {below : List Frame} {meth : Method} {c : Code} {Ln : Nat} {xs : Nat → Int32} {G : Geo} (C : LCx p l e s m b below meth c Ln xs G) {V V' : Cpl} {i : Int} (h0 : 0 ≤ i) (h1 : i + 6 ≤ Ln) {P : Option Nat} {I : Nat → Nat → Int32} {J : Nat → Nat → Int64} (hV : V I J) (T : Step V V' m_X11_page m_X12_page [(xs (i + 1).toNat).toInt, (xs (i + 2).toNat).toInt]) (nx : ∀ M2, Cpl2 V' M2 → Wl p l e s m b below meth c G 1129 (LL i) [] M2) : Wl p l e s m b below meth c G 368 (LL i) [] (mem (rv0 P) I J) := by
  refine lk_aload_n C (pc' := 369) dL_368 rfl rfl (j := 2) rfl ?_
  refine lk_aload_n C (pc' := 370) dL_369 rfl rfl (j := 3) rfl ?_
  refine lk_iload_n C (pc' := 371) dL_370 rfl rfl (j := 0) rfl ?_
  refine lk_iconst C (pc' := 372) dL_371 rfl ?_
  refine lk_iadd C (pc' := 373) dL_372 rfl ?_
  refine lk_sld C (pc' := 374) dL_373 rfl ⟨by omega, by omega⟩ rfl ?_
  refine lk_aload_n C (pc' := 375) dL_374 rfl rfl (j := 3) rfl ?_
  refine lk_iload_n C (pc' := 376) dL_375 rfl rfl (j := 0) rfl ?_
  refine lk_iconst C (pc' := 377) dL_376 rfl ?_
  refine lk_iadd C (pc' := 378) dL_377 rfl ?_
  refine lk_sld C (pc' := 379) dL_378 rfl ⟨by omega, by omega⟩ rfl ?_
  refine lk_callV C (pc' := 382) (kc := 900) (E' := LAY) (cal := m_X11_page) (n := 2) (a := 0) (ci := 11) (nf := 12) (as := [vI (xs (i + 1).toNat).toInt, vI (xs (i + 2).toNat).toInt]) (S := []) dL_379 rfl l_L_42 k_X11_page rfl rfl c_X11 rfl rfl (Nat.le_of_ble_eq_true rfl) (by omega) (lay_hE rfl) (T P I J hV) ?_
  intro r M1 hQ
  obtain ⟨z, rfl, hz, hM1, hR⟩ := hQ
  refine lk_aload_n C (pc' := 383) dL_382 rfl rfl (j := 1) rfl ?_
  refine lk_aload_n C (pc' := 384) dL_383 rfl rfl (j := 3) rfl ?_
  refine lk_iload_n C (pc' := 385) dL_384 rfl rfl (j := 0) rfl ?_
  refine lk_iconst C (pc' := 386) dL_385 rfl ?_
  refine lk_iadd C (pc' := 387) dL_386 rfl ?_
  refine lk_sld C (pc' := 388) dL_387 rfl ⟨by omega, by omega⟩ rfl ?_
  refine lk_aload_n C (pc' := 389) dL_388 rfl rfl (j := 3) rfl ?_
  refine lk_iload_n C (pc' := 390) dL_389 rfl rfl (j := 0) rfl ?_
  refine lk_iconst C (pc' := 391) dL_390 rfl ?_
  refine lk_iadd C (pc' := 392) dL_391 rfl ?_
  refine lk_sld C (pc' := 393) dL_392 rfl ⟨by omega, by omega⟩ rfl ?_
  refine lk_callV C (pc' := 396) (kc := 900) (E' := LAY) (cal := m_X12_page) (n := 2) (a := 74) (ci := 12) (nf := 88) (as := [vI (xs (i + 1).toNat).toInt, vI (xs (i + 2).toNat).toInt]) (S := [vI z]) dL_393 rfl l_L_46 k_X12_page rfl (by rw [hM1]; rfl) c_X12 rfl rfl (Nat.le_of_ble_eq_true rfl) (by omega) (lay_hE hM1) hR ?_
  intro r M2 hQ
  obtain ⟨rfl, hV2⟩ := hQ
  exact lk_icmp_eq C (pc' := 399) dL_396 (by decide) rfl hz hz (fun _ => nx M2 hV2) (fun q => absurd rfl q)
set_option maxRecDepth 20000 in
theorem law_c7 {p : Program} {l : Launch} {e : Env} {s : State} {m : MethodId} {b : Nat} {below : List Frame} {meth : Method} {c : Code} {Ln : Nat} {xs : Nat → Int32} {G : Geo} (C : LCx p l e s m b below meth c Ln xs G) {V V' : Cpl} {i : Int} (h0 : 0 ≤ i) (h1 : i + 6 ≤ Ln) {P : Option Nat} {I : Nat → Nat → Int32} {J : Nat → Nat → Int64} (hV : V I J) (T : Step V V' m_X11_reader m_X12_reader [(xs (i + 1).toNat).toInt, (xs (i + 2).toNat).toInt]) (nx : ∀ M2, Cpl2 V' M2 → Wl p l e s m b below meth c G 1129 (LL i) [] M2) : Wl p l e s m b below meth c G 401 (LL i) [] (mem (rv0 P) I J) := by
  refine lk_aload_n C (pc' := 402) dL_401 rfl rfl (j := 2) rfl ?_
  refine lk_aload_n C (pc' := 403) dL_402 rfl rfl (j := 3) rfl ?_
  refine lk_iload_n C (pc' := 404) dL_403 rfl rfl (j := 0) rfl ?_
  refine lk_iconst C (pc' := 405) dL_404 rfl ?_
  refine lk_iadd C (pc' := 406) dL_405 rfl ?_
  refine lk_sld C (pc' := 407) dL_406 rfl ⟨by omega, by omega⟩ rfl ?_
  refine lk_aload_n C (pc' := 408) dL_407 rfl rfl (j := 3) rfl ?_
  refine lk_iload_n C (pc' := 409) dL_408 rfl rfl (j := 0) rfl ?_
  refine lk_iconst C (pc' := 410) dL_409 rfl ?_
  refine lk_iadd C (pc' := 411) dL_410 rfl ?_
  refine lk_sld C (pc' := 412) dL_411 rfl ⟨by omega, by omega⟩ rfl ?_
  refine lk_callV C (pc' := 415) (kc := 900) (E' := LAY) (cal := m_X11_reader) (n := 2) (a := 0) (ci := 11) (nf := 12) (as := [vI (xs (i + 1).toNat).toInt, vI (xs (i + 2).toNat).toInt]) (S := []) dL_412 rfl l_L_47 k_X11_reader rfl rfl c_X11 rfl rfl (Nat.le_of_ble_eq_true rfl) (by omega) (lay_hE rfl) (T P I J hV) ?_
  intro r M1 hQ
  obtain ⟨z, rfl, hz, hM1, hR⟩ := hQ
  refine lk_aload_n C (pc' := 416) dL_415 rfl rfl (j := 1) rfl ?_
  refine lk_aload_n C (pc' := 417) dL_416 rfl rfl (j := 3) rfl ?_
  refine lk_iload_n C (pc' := 418) dL_417 rfl rfl (j := 0) rfl ?_
  refine lk_iconst C (pc' := 419) dL_418 rfl ?_
  refine lk_iadd C (pc' := 420) dL_419 rfl ?_
  refine lk_sld C (pc' := 421) dL_420 rfl ⟨by omega, by omega⟩ rfl ?_
  refine lk_aload_n C (pc' := 422) dL_421 rfl rfl (j := 3) rfl ?_
  refine lk_iload_n C (pc' := 423) dL_422 rfl rfl (j := 0) rfl ?_
  refine lk_iconst C (pc' := 424) dL_423 rfl ?_
  refine lk_iadd C (pc' := 425) dL_424 rfl ?_
  refine lk_sld C (pc' := 426) dL_425 rfl ⟨by omega, by omega⟩ rfl ?_
  refine lk_callV C (pc' := 429) (kc := 900) (E' := LAY) (cal := m_X12_reader) (n := 2) (a := 74) (ci := 12) (nf := 88) (as := [vI (xs (i + 1).toNat).toInt, vI (xs (i + 2).toNat).toInt]) (S := [vI z]) dL_426 rfl l_L_50 k_X12_reader rfl (by rw [hM1]; rfl) c_X12 rfl rfl (Nat.le_of_ble_eq_true rfl) (by omega) (lay_hE hM1) hR ?_
  intro r M2 hQ
  obtain ⟨rfl, hV2⟩ := hQ
  exact lk_icmp_eq C (pc' := 432) dL_429 (by decide) rfl hz hz (fun _ => nx M2 hV2) (fun q => absurd rfl q)
set_option maxRecDepth 20000 in
theorem law_c8 {p : Program} {l : Launch} {e : Env} {s : State} {m : MethodId} {b : Nat} {below : List Frame} {meth : Method} {c : Code} {Ln : Nat} {xs : Nat → Int32} {G : Geo} (C : LCx p l e s m b below meth c Ln xs G) {V V' : Cpl} {i : Int} (h0 : 0 ≤ i) (h1 : i + 6 ≤ Ln) {P : Option Nat} {I : Nat → Nat → Int32} {J : Nat → Nat → Int64} (hV : V I J) (T : Step V V' m_X11_table m_X12_table [(xs (i + 1).toNat).toInt, (xs (i + 2).toNat).toInt]) (nx : ∀ M2, Cpl2 V' M2 → Wl p l e s m b below meth c G 1129 (LL i) [] M2) : Wl p l e s m b below meth c G 434 (LL i) [] (mem (rv0 P) I J) := by
  refine lk_aload_n C (pc' := 435) dL_434 rfl rfl (j := 2) rfl ?_
  refine lk_aload_n C (pc' := 436) dL_435 rfl rfl (j := 3) rfl ?_
  refine lk_iload_n C (pc' := 437) dL_436 rfl rfl (j := 0) rfl ?_
  refine lk_iconst C (pc' := 438) dL_437 rfl ?_
  refine lk_iadd C (pc' := 439) dL_438 rfl ?_
  refine lk_sld C (pc' := 440) dL_439 rfl ⟨by omega, by omega⟩ rfl ?_
  refine lk_aload_n C (pc' := 441) dL_440 rfl rfl (j := 3) rfl ?_
  refine lk_iload_n C (pc' := 442) dL_441 rfl rfl (j := 0) rfl ?_
  refine lk_iconst C (pc' := 443) dL_442 rfl ?_
  refine lk_iadd C (pc' := 444) dL_443 rfl ?_
  refine lk_sld C (pc' := 445) dL_444 rfl ⟨by omega, by omega⟩ rfl ?_
  refine lk_callV C (pc' := 448) (kc := 900) (E' := LAY) (cal := m_X11_table) (n := 2) (a := 0) (ci := 11) (nf := 12) (as := [vI (xs (i + 1).toNat).toInt, vI (xs (i + 2).toNat).toInt]) (S := []) dL_445 rfl l_L_51 k_X11_table rfl rfl c_X11 rfl rfl (Nat.le_of_ble_eq_true rfl) (by omega) (lay_hE rfl) (T P I J hV) ?_
  intro r M1 hQ
  obtain ⟨z, rfl, hz, hM1, hR⟩ := hQ
  refine lk_aload_n C (pc' := 449) dL_448 rfl rfl (j := 1) rfl ?_
  refine lk_aload_n C (pc' := 450) dL_449 rfl rfl (j := 3) rfl ?_
  refine lk_iload_n C (pc' := 451) dL_450 rfl rfl (j := 0) rfl ?_
  refine lk_iconst C (pc' := 452) dL_451 rfl ?_
  refine lk_iadd C (pc' := 453) dL_452 rfl ?_
  refine lk_sld C (pc' := 454) dL_453 rfl ⟨by omega, by omega⟩ rfl ?_
  refine lk_aload_n C (pc' := 455) dL_454 rfl rfl (j := 3) rfl ?_
  refine lk_iload_n C (pc' := 456) dL_455 rfl rfl (j := 0) rfl ?_
  refine lk_iconst C (pc' := 457) dL_456 rfl ?_
  refine lk_iadd C (pc' := 458) dL_457 rfl ?_
  refine lk_sld C (pc' := 459) dL_458 rfl ⟨by omega, by omega⟩ rfl ?_
  refine lk_callV C (pc' := 462) (kc := 900) (E' := LAY) (cal := m_X12_table) (n := 2) (a := 74) (ci := 12) (nf := 88) (as := [vI (xs (i + 1).toNat).toInt, vI (xs (i + 2).toNat).toInt]) (S := [vI z]) dL_459 rfl l_L_54 k_X12_table rfl (by rw [hM1]; rfl) c_X12 rfl rfl (Nat.le_of_ble_eq_true rfl) (by omega) (lay_hE hM1) hR ?_
  intro r M2 hQ
  obtain ⟨rfl, hV2⟩ := hQ
  exact lk_icmp_eq C (pc' := 465) dL_462 (by decide) rfl hz hz (fun _ => nx M2 hV2) (fun q => absurd rfl q)
set_option maxRecDepth 20000 in
theorem law_c9 {p : Program} {l : Launch} {e : Env} {s : State} {m : MethodId} {b : Nat} {below : List Frame} {meth : Method} {c : Code} {Ln : Nat} {xs : Nat → Int32} {G : Geo} (C : LCx p l e s m b below meth c Ln xs G) {V V' : Cpl} {i : Int} (h0 : 0 ≤ i) (h1 : i + 6 ≤ Ln) {P : Option Nat} {I : Nat → Nat → Int32} {J : Nat → Nat → Int64} (hV : V I J) (T : Step V V' m_X11_takes m_X12_takes [(xs (i + 1).toNat).toInt, (xs (i + 2).toNat).toInt]) (nx : ∀ M2, Cpl2 V' M2 → Wl p l e s m b below meth c G 1129 (LL i) [] M2) : Wl p l e s m b below meth c G 467 (LL i) [] (mem (rv0 P) I J) := by
  refine lk_aload_n C (pc' := 468) dL_467 rfl rfl (j := 2) rfl ?_
  refine lk_aload_n C (pc' := 469) dL_468 rfl rfl (j := 3) rfl ?_
  refine lk_iload_n C (pc' := 470) dL_469 rfl rfl (j := 0) rfl ?_
  refine lk_iconst C (pc' := 471) dL_470 rfl ?_
  refine lk_iadd C (pc' := 472) dL_471 rfl ?_
  refine lk_sld C (pc' := 473) dL_472 rfl ⟨by omega, by omega⟩ rfl ?_
  refine lk_aload_n C (pc' := 474) dL_473 rfl rfl (j := 3) rfl ?_
  refine lk_iload_n C (pc' := 475) dL_474 rfl rfl (j := 0) rfl ?_
  refine lk_iconst C (pc' := 476) dL_475 rfl ?_
  refine lk_iadd C (pc' := 477) dL_476 rfl ?_
  refine lk_sld C (pc' := 478) dL_477 rfl ⟨by omega, by omega⟩ rfl ?_
  refine lk_callV C (pc' := 481) (kc := 900) (E' := LAY) (cal := m_X11_takes) (n := 2) (a := 0) (ci := 11) (nf := 12) (as := [vI (xs (i + 1).toNat).toInt, vI (xs (i + 2).toNat).toInt]) (S := []) dL_478 rfl l_L_55 k_X11_takes rfl rfl c_X11 rfl rfl (Nat.le_of_ble_eq_true rfl) (by omega) (lay_hE rfl) (T P I J hV) ?_
  intro r M1 hQ
  obtain ⟨z, rfl, hz, hM1, hR⟩ := hQ
  refine lk_aload_n C (pc' := 482) dL_481 rfl rfl (j := 1) rfl ?_
  refine lk_aload_n C (pc' := 483) dL_482 rfl rfl (j := 3) rfl ?_
  refine lk_iload_n C (pc' := 484) dL_483 rfl rfl (j := 0) rfl ?_
  refine lk_iconst C (pc' := 485) dL_484 rfl ?_
  refine lk_iadd C (pc' := 486) dL_485 rfl ?_
  refine lk_sld C (pc' := 487) dL_486 rfl ⟨by omega, by omega⟩ rfl ?_
  refine lk_aload_n C (pc' := 488) dL_487 rfl rfl (j := 3) rfl ?_
  refine lk_iload_n C (pc' := 489) dL_488 rfl rfl (j := 0) rfl ?_
  refine lk_iconst C (pc' := 490) dL_489 rfl ?_
  refine lk_iadd C (pc' := 491) dL_490 rfl ?_
  refine lk_sld C (pc' := 492) dL_491 rfl ⟨by omega, by omega⟩ rfl ?_
  refine lk_callV C (pc' := 495) (kc := 900) (E' := LAY) (cal := m_X12_takes) (n := 2) (a := 74) (ci := 12) (nf := 88) (as := [vI (xs (i + 1).toNat).toInt, vI (xs (i + 2).toNat).toInt]) (S := [vI z]) dL_492 rfl l_L_58 k_X12_takes rfl (by rw [hM1]; rfl) c_X12 rfl rfl (Nat.le_of_ble_eq_true rfl) (by omega) (lay_hE hM1) hR ?_
  intro r M2 hQ
  obtain ⟨rfl, hV2⟩ := hQ
  exact lk_icmp_eq C (pc' := 498) dL_495 (by decide) rfl hz hz (fun _ => nx M2 hV2) (fun q => absurd rfl q)
set_option maxRecDepth 20000 in
theorem law_c10 {p : Program} {l : Launch} {e : Env} {s : State} {m : MethodId} {b : Nat} {below : List Frame} {meth : Method} {c : Code} {Ln : Nat} {xs : Nat → Int32} {G : Geo} (C : LCx p l e s m b below meth c Ln xs G) {V V' : Cpl} {i : Int} (h0 : 0 ≤ i) (h1 : i + 6 ≤ Ln) {P : Option Nat} {I : Nat → Nat → Int32} {J : Nat → Nat → Int64} (hV : V I J) (T : Step V V' m_X11_burns m_X12_burns [(xs (i + 1).toNat).toInt]) (nx : ∀ M2, Cpl2 V' M2 → Wl p l e s m b below meth c G 1129 (LL i) [] M2) : Wl p l e s m b below meth c G 500 (LL i) [] (mem (rv0 P) I J) := by
  refine lk_aload_n C (pc' := 501) dL_500 rfl rfl (j := 2) rfl ?_
  refine lk_aload_n C (pc' := 502) dL_501 rfl rfl (j := 3) rfl ?_
  refine lk_iload_n C (pc' := 503) dL_502 rfl rfl (j := 0) rfl ?_
  refine lk_iconst C (pc' := 504) dL_503 rfl ?_
  refine lk_iadd C (pc' := 505) dL_504 rfl ?_
  refine lk_sld C (pc' := 506) dL_505 rfl ⟨by omega, by omega⟩ rfl ?_
  refine lk_callV C (pc' := 509) (kc := 900) (E' := LAY) (cal := m_X11_burns) (n := 1) (a := 0) (ci := 11) (nf := 12) (as := [vI (xs (i + 1).toNat).toInt]) (S := []) dL_506 rfl l_L_59 k_X11_burns rfl rfl c_X11 rfl rfl (Nat.le_of_ble_eq_true rfl) (by omega) (lay_hE rfl) (T P I J hV) ?_
  intro r M1 hQ
  obtain ⟨z, rfl, hz, hM1, hR⟩ := hQ
  refine lk_aload_n C (pc' := 510) dL_509 rfl rfl (j := 1) rfl ?_
  refine lk_aload_n C (pc' := 511) dL_510 rfl rfl (j := 3) rfl ?_
  refine lk_iload_n C (pc' := 512) dL_511 rfl rfl (j := 0) rfl ?_
  refine lk_iconst C (pc' := 513) dL_512 rfl ?_
  refine lk_iadd C (pc' := 514) dL_513 rfl ?_
  refine lk_sld C (pc' := 515) dL_514 rfl ⟨by omega, by omega⟩ rfl ?_
  refine lk_callV C (pc' := 518) (kc := 900) (E' := LAY) (cal := m_X12_burns) (n := 1) (a := 74) (ci := 12) (nf := 88) (as := [vI (xs (i + 1).toNat).toInt]) (S := [vI z]) dL_515 rfl l_L_62 k_X12_burns rfl (by rw [hM1]; rfl) c_X12 rfl rfl (Nat.le_of_ble_eq_true rfl) (by omega) (lay_hE hM1) hR ?_
  intro r M2 hQ
  obtain ⟨rfl, hV2⟩ := hQ
  exact lk_icmp_eq C (pc' := 521) dL_518 (by decide) rfl hz hz (fun _ => nx M2 hV2) (fun q => absurd rfl q)
set_option maxRecDepth 20000 in
theorem law_c11 {p : Program} {l : Launch} {e : Env} {s : State} {m : MethodId} {b : Nat} {below : List Frame} {meth : Method} {c : Code} {Ln : Nat} {xs : Nat → Int32} {G : Geo} (C : LCx p l e s m b below meth c Ln xs G) {V V' : Cpl} {i : Int} (h0 : 0 ≤ i) (h1 : i + 6 ≤ Ln) {P : Option Nat} {I : Nat → Nat → Int32} {J : Nat → Nat → Int64} (hV : V I J) (T : Step V V' m_X11_tonight m_X12_tonight [(xs (i + 1).toNat).toInt, (xs (i + 2).toNat).toInt]) (nx : ∀ M2, Cpl2 V' M2 → Wl p l e s m b below meth c G 1129 (LL i) [] M2) : Wl p l e s m b below meth c G 523 (LL i) [] (mem (rv0 P) I J) := by
  refine lk_aload_n C (pc' := 524) dL_523 rfl rfl (j := 2) rfl ?_
  refine lk_aload_n C (pc' := 525) dL_524 rfl rfl (j := 3) rfl ?_
  refine lk_iload_n C (pc' := 526) dL_525 rfl rfl (j := 0) rfl ?_
  refine lk_iconst C (pc' := 527) dL_526 rfl ?_
  refine lk_iadd C (pc' := 528) dL_527 rfl ?_
  refine lk_sld C (pc' := 529) dL_528 rfl ⟨by omega, by omega⟩ rfl ?_
  refine lk_aload_n C (pc' := 530) dL_529 rfl rfl (j := 3) rfl ?_
  refine lk_iload_n C (pc' := 531) dL_530 rfl rfl (j := 0) rfl ?_
  refine lk_iconst C (pc' := 532) dL_531 rfl ?_
  refine lk_iadd C (pc' := 533) dL_532 rfl ?_
  refine lk_sld C (pc' := 534) dL_533 rfl ⟨by omega, by omega⟩ rfl ?_
  refine lk_callV C (pc' := 537) (kc := 900) (E' := LAY) (cal := m_X11_tonight) (n := 2) (a := 0) (ci := 11) (nf := 12) (as := [vI (xs (i + 1).toNat).toInt, vI (xs (i + 2).toNat).toInt]) (S := []) dL_534 rfl l_L_63 k_X11_tonight rfl rfl c_X11 rfl rfl (Nat.le_of_ble_eq_true rfl) (by omega) (lay_hE rfl) (T P I J hV) ?_
  intro r M1 hQ
  obtain ⟨z, rfl, hz, hM1, hR⟩ := hQ
  refine lk_aload_n C (pc' := 538) dL_537 rfl rfl (j := 1) rfl ?_
  refine lk_aload_n C (pc' := 539) dL_538 rfl rfl (j := 3) rfl ?_
  refine lk_iload_n C (pc' := 540) dL_539 rfl rfl (j := 0) rfl ?_
  refine lk_iconst C (pc' := 541) dL_540 rfl ?_
  refine lk_iadd C (pc' := 542) dL_541 rfl ?_
  refine lk_sld C (pc' := 543) dL_542 rfl ⟨by omega, by omega⟩ rfl ?_
  refine lk_aload_n C (pc' := 544) dL_543 rfl rfl (j := 3) rfl ?_
  refine lk_iload_n C (pc' := 545) dL_544 rfl rfl (j := 0) rfl ?_
  refine lk_iconst C (pc' := 546) dL_545 rfl ?_
  refine lk_iadd C (pc' := 547) dL_546 rfl ?_
  refine lk_sld C (pc' := 548) dL_547 rfl ⟨by omega, by omega⟩ rfl ?_
  refine lk_callV C (pc' := 551) (kc := 900) (E' := LAY) (cal := m_X12_tonight) (n := 2) (a := 74) (ci := 12) (nf := 88) (as := [vI (xs (i + 1).toNat).toInt, vI (xs (i + 2).toNat).toInt]) (S := [vI z]) dL_548 rfl l_L_66 k_X12_tonight rfl (by rw [hM1]; rfl) c_X12 rfl rfl (Nat.le_of_ble_eq_true rfl) (by omega) (lay_hE hM1) hR ?_
  intro r M2 hQ
  obtain ⟨rfl, hV2⟩ := hQ
  exact lk_icmp_eq C (pc' := 554) dL_551 (by decide) rfl hz hz (fun _ => nx M2 hV2) (fun q => absurd rfl q)
set_option maxRecDepth 20000 in
theorem law_c12 {p : Program} {l : Launch} {e : Env} {s : State} {m : MethodId} {b : Nat} {below : List Frame} {meth : Method} {c : Code} {Ln : Nat} {xs : Nat → Int32} {G : Geo} (C : LCx p l e s m b below meth c Ln xs G) {V V' : Cpl} {i : Int} (h0 : 0 ≤ i) (h1 : i + 6 ≤ Ln) {P : Option Nat} {I : Nat → Nat → Int32} {J : Nat → Nat → Int64} (hV : V I J) (T : Step V V' m_X11_whole m_X12_whole [(xs (i + 1).toNat).toInt]) (nx : ∀ M2, Cpl2 V' M2 → Wl p l e s m b below meth c G 1129 (LL i) [] M2) : Wl p l e s m b below meth c G 556 (LL i) [] (mem (rv0 P) I J) := by
  refine lk_aload_n C (pc' := 557) dL_556 rfl rfl (j := 2) rfl ?_
  refine lk_aload_n C (pc' := 558) dL_557 rfl rfl (j := 3) rfl ?_
  refine lk_iload_n C (pc' := 559) dL_558 rfl rfl (j := 0) rfl ?_
  refine lk_iconst C (pc' := 560) dL_559 rfl ?_
  refine lk_iadd C (pc' := 561) dL_560 rfl ?_
  refine lk_sld C (pc' := 562) dL_561 rfl ⟨by omega, by omega⟩ rfl ?_
  refine lk_callV C (pc' := 565) (kc := 900) (E' := LAY) (cal := m_X11_whole) (n := 1) (a := 0) (ci := 11) (nf := 12) (as := [vI (xs (i + 1).toNat).toInt]) (S := []) dL_562 rfl l_L_67 k_X11_whole rfl rfl c_X11 rfl rfl (Nat.le_of_ble_eq_true rfl) (by omega) (lay_hE rfl) (T P I J hV) ?_
  intro r M1 hQ
  obtain ⟨z, rfl, hz, hM1, hR⟩ := hQ
  refine lk_aload_n C (pc' := 566) dL_565 rfl rfl (j := 1) rfl ?_
  refine lk_aload_n C (pc' := 567) dL_566 rfl rfl (j := 3) rfl ?_
  refine lk_iload_n C (pc' := 568) dL_567 rfl rfl (j := 0) rfl ?_
  refine lk_iconst C (pc' := 569) dL_568 rfl ?_
  refine lk_iadd C (pc' := 570) dL_569 rfl ?_
  refine lk_sld C (pc' := 571) dL_570 rfl ⟨by omega, by omega⟩ rfl ?_
  refine lk_callV C (pc' := 574) (kc := 900) (E' := LAY) (cal := m_X12_whole) (n := 1) (a := 74) (ci := 12) (nf := 88) (as := [vI (xs (i + 1).toNat).toInt]) (S := [vI z]) dL_571 rfl l_L_70 k_X12_whole rfl (by rw [hM1]; rfl) c_X12 rfl rfl (Nat.le_of_ble_eq_true rfl) (by omega) (lay_hE hM1) hR ?_
  intro r M2 hQ
  obtain ⟨rfl, hV2⟩ := hQ
  exact lk_icmp_eq C (pc' := 577) dL_574 (by decide) rfl hz hz (fun _ => nx M2 hV2) (fun q => absurd rfl q)
set_option maxRecDepth 20000 in
theorem law_c13 {p : Program} {l : Launch} {e : Env} {s : State} {m : MethodId} {b : Nat} {below : List Frame} {meth : Method} {c : Code} {Ln : Nat} {xs : Nat → Int32} {G : Geo} (C : LCx p l e s m b below meth c Ln xs G) {V V' : Cpl} {i : Int} (h0 : 0 ≤ i) (h1 : i + 6 ≤ Ln) {P : Option Nat} {I : Nat → Nat → Int32} {J : Nat → Nat → Int64} (hV : V I J) (T : Step V V' m_X11_seat m_X12_seat [(xs (i + 1).toNat).toInt, (xs (i + 2).toNat).toInt]) (nx : ∀ M2, Cpl2 V' M2 → Wl p l e s m b below meth c G 1129 (LL i) [] M2) : Wl p l e s m b below meth c G 579 (LL i) [] (mem (rv0 P) I J) := by
  refine lk_aload_n C (pc' := 580) dL_579 rfl rfl (j := 2) rfl ?_
  refine lk_aload_n C (pc' := 581) dL_580 rfl rfl (j := 3) rfl ?_
  refine lk_iload_n C (pc' := 582) dL_581 rfl rfl (j := 0) rfl ?_
  refine lk_iconst C (pc' := 583) dL_582 rfl ?_
  refine lk_iadd C (pc' := 584) dL_583 rfl ?_
  refine lk_sld C (pc' := 585) dL_584 rfl ⟨by omega, by omega⟩ rfl ?_
  refine lk_aload_n C (pc' := 586) dL_585 rfl rfl (j := 3) rfl ?_
  refine lk_iload_n C (pc' := 587) dL_586 rfl rfl (j := 0) rfl ?_
  refine lk_iconst C (pc' := 588) dL_587 rfl ?_
  refine lk_iadd C (pc' := 589) dL_588 rfl ?_
  refine lk_sld C (pc' := 590) dL_589 rfl ⟨by omega, by omega⟩ rfl ?_
  refine lk_callV C (pc' := 593) (kc := 900) (E' := LAY) (cal := m_X11_seat) (n := 2) (a := 0) (ci := 11) (nf := 12) (as := [vI (xs (i + 1).toNat).toInt, vI (xs (i + 2).toNat).toInt]) (S := []) dL_590 rfl l_L_71 k_X11_seat rfl rfl c_X11 rfl rfl (Nat.le_of_ble_eq_true rfl) (by omega) (lay_hE rfl) (T P I J hV) ?_
  intro r M1 hQ
  obtain ⟨z, rfl, hz, hM1, hR⟩ := hQ
  refine lk_aload_n C (pc' := 594) dL_593 rfl rfl (j := 1) rfl ?_
  refine lk_aload_n C (pc' := 595) dL_594 rfl rfl (j := 3) rfl ?_
  refine lk_iload_n C (pc' := 596) dL_595 rfl rfl (j := 0) rfl ?_
  refine lk_iconst C (pc' := 597) dL_596 rfl ?_
  refine lk_iadd C (pc' := 598) dL_597 rfl ?_
  refine lk_sld C (pc' := 599) dL_598 rfl ⟨by omega, by omega⟩ rfl ?_
  refine lk_aload_n C (pc' := 600) dL_599 rfl rfl (j := 3) rfl ?_
  refine lk_iload_n C (pc' := 601) dL_600 rfl rfl (j := 0) rfl ?_
  refine lk_iconst C (pc' := 602) dL_601 rfl ?_
  refine lk_iadd C (pc' := 603) dL_602 rfl ?_
  refine lk_sld C (pc' := 604) dL_603 rfl ⟨by omega, by omega⟩ rfl ?_
  refine lk_callV C (pc' := 607) (kc := 900) (E' := LAY) (cal := m_X12_seat) (n := 2) (a := 74) (ci := 12) (nf := 88) (as := [vI (xs (i + 1).toNat).toInt, vI (xs (i + 2).toNat).toInt]) (S := [vI z]) dL_604 rfl l_L_75 k_X12_seat rfl (by rw [hM1]; rfl) c_X12 rfl rfl (Nat.le_of_ble_eq_true rfl) (by omega) (lay_hE hM1) hR ?_
  intro r M2 hQ
  obtain ⟨rfl, hV2⟩ := hQ
  exact lk_icmp_eq C (pc' := 610) dL_607 (by decide) rfl hz hz (fun _ => nx M2 hV2) (fun q => absurd rfl q)
set_option maxRecDepth 20000 in
theorem law_c14 {p : Program} {l : Launch} {e : Env} {s : State} {m : MethodId} {b : Nat} {below : List Frame} {meth : Method} {c : Code} {Ln : Nat} {xs : Nat → Int32} {G : Geo} (C : LCx p l e s m b below meth c Ln xs G) {V V' : Cpl} {i : Int} (h0 : 0 ≤ i) (h1 : i + 6 ≤ Ln) {P : Option Nat} {I : Nat → Nat → Int32} {J : Nat → Nat → Int64} (hV : V I J) (T : Step V V' m_X11_list m_X12_list [(xs (i + 1).toNat).toInt, (xs (i + 2).toNat).toInt]) (nx : ∀ M2, Cpl2 V' M2 → Wl p l e s m b below meth c G 1129 (LL i) [] M2) : Wl p l e s m b below meth c G 612 (LL i) [] (mem (rv0 P) I J) := by
  refine lk_aload_n C (pc' := 613) dL_612 rfl rfl (j := 2) rfl ?_
  refine lk_aload_n C (pc' := 614) dL_613 rfl rfl (j := 3) rfl ?_
  refine lk_iload_n C (pc' := 615) dL_614 rfl rfl (j := 0) rfl ?_
  refine lk_iconst C (pc' := 616) dL_615 rfl ?_
  refine lk_iadd C (pc' := 617) dL_616 rfl ?_
  refine lk_sld C (pc' := 618) dL_617 rfl ⟨by omega, by omega⟩ rfl ?_
  refine lk_aload_n C (pc' := 619) dL_618 rfl rfl (j := 3) rfl ?_
  refine lk_iload_n C (pc' := 620) dL_619 rfl rfl (j := 0) rfl ?_
  refine lk_iconst C (pc' := 621) dL_620 rfl ?_
  refine lk_iadd C (pc' := 622) dL_621 rfl ?_
  refine lk_sld C (pc' := 623) dL_622 rfl ⟨by omega, by omega⟩ rfl ?_
  refine lk_callV C (pc' := 626) (kc := 900) (E' := LAY) (cal := m_X11_list) (n := 2) (a := 0) (ci := 11) (nf := 12) (as := [vI (xs (i + 1).toNat).toInt, vI (xs (i + 2).toNat).toInt]) (S := []) dL_623 rfl l_L_76 k_X11_list rfl rfl c_X11 rfl rfl (Nat.le_of_ble_eq_true rfl) (by omega) (lay_hE rfl) (T P I J hV) ?_
  intro r M1 hQ
  obtain ⟨z, rfl, hz, hM1, hR⟩ := hQ
  refine lk_aload_n C (pc' := 627) dL_626 rfl rfl (j := 1) rfl ?_
  refine lk_aload_n C (pc' := 628) dL_627 rfl rfl (j := 3) rfl ?_
  refine lk_iload_n C (pc' := 629) dL_628 rfl rfl (j := 0) rfl ?_
  refine lk_iconst C (pc' := 630) dL_629 rfl ?_
  refine lk_iadd C (pc' := 631) dL_630 rfl ?_
  refine lk_sld C (pc' := 632) dL_631 rfl ⟨by omega, by omega⟩ rfl ?_
  refine lk_aload_n C (pc' := 633) dL_632 rfl rfl (j := 3) rfl ?_
  refine lk_iload_n C (pc' := 634) dL_633 rfl rfl (j := 0) rfl ?_
  refine lk_iconst C (pc' := 635) dL_634 rfl ?_
  refine lk_iadd C (pc' := 636) dL_635 rfl ?_
  refine lk_sld C (pc' := 637) dL_636 rfl ⟨by omega, by omega⟩ rfl ?_
  refine lk_callV C (pc' := 640) (kc := 900) (E' := LAY) (cal := m_X12_list) (n := 2) (a := 74) (ci := 12) (nf := 88) (as := [vI (xs (i + 1).toNat).toInt, vI (xs (i + 2).toNat).toInt]) (S := [vI z]) dL_637 rfl l_L_79 k_X12_list rfl (by rw [hM1]; rfl) c_X12 rfl rfl (Nat.le_of_ble_eq_true rfl) (by omega) (lay_hE hM1) hR ?_
  intro r M2 hQ
  obtain ⟨rfl, hV2⟩ := hQ
  exact lk_icmp_eq C (pc' := 643) dL_640 (by decide) rfl hz hz (fun _ => nx M2 hV2) (fun q => absurd rfl q)
set_option maxRecDepth 20000 in
theorem law_c15 {p : Program} {l : Launch} {e : Env} {s : State} {m : MethodId} {b : Nat} {below : List Frame} {meth : Method} {c : Code} {Ln : Nat} {xs : Nat → Int32} {G : Geo} (C : LCx p l e s m b below meth c Ln xs G) {V V' : Cpl} {i : Int} (h0 : 0 ≤ i) (h1 : i + 6 ≤ Ln) {P : Option Nat} {I : Nat → Nat → Int32} {J : Nat → Nat → Int64} (hV : V I J) (T : Step V V' m_X11_drop m_X12_drop [(xs (i + 1).toNat).toInt]) (nx : ∀ M2, Cpl2 V' M2 → Wl p l e s m b below meth c G 1129 (LL i) [] M2) : Wl p l e s m b below meth c G 645 (LL i) [] (mem (rv0 P) I J) := by
  refine lk_aload_n C (pc' := 646) dL_645 rfl rfl (j := 2) rfl ?_
  refine lk_aload_n C (pc' := 647) dL_646 rfl rfl (j := 3) rfl ?_
  refine lk_iload_n C (pc' := 648) dL_647 rfl rfl (j := 0) rfl ?_
  refine lk_iconst C (pc' := 649) dL_648 rfl ?_
  refine lk_iadd C (pc' := 650) dL_649 rfl ?_
  refine lk_sld C (pc' := 651) dL_650 rfl ⟨by omega, by omega⟩ rfl ?_
  refine lk_callV C (pc' := 654) (kc := 900) (E' := LAY) (cal := m_X11_drop) (n := 1) (a := 0) (ci := 11) (nf := 12) (as := [vI (xs (i + 1).toNat).toInt]) (S := []) dL_651 rfl l_L_80 k_X11_drop rfl rfl c_X11 rfl rfl (Nat.le_of_ble_eq_true rfl) (by omega) (lay_hE rfl) (T P I J hV) ?_
  intro r M1 hQ
  obtain ⟨z, rfl, hz, hM1, hR⟩ := hQ
  refine lk_aload_n C (pc' := 655) dL_654 rfl rfl (j := 1) rfl ?_
  refine lk_aload_n C (pc' := 656) dL_655 rfl rfl (j := 3) rfl ?_
  refine lk_iload_n C (pc' := 657) dL_656 rfl rfl (j := 0) rfl ?_
  refine lk_iconst C (pc' := 658) dL_657 rfl ?_
  refine lk_iadd C (pc' := 659) dL_658 rfl ?_
  refine lk_sld C (pc' := 660) dL_659 rfl ⟨by omega, by omega⟩ rfl ?_
  refine lk_callV C (pc' := 663) (kc := 900) (E' := LAY) (cal := m_X12_drop) (n := 1) (a := 74) (ci := 12) (nf := 88) (as := [vI (xs (i + 1).toNat).toInt]) (S := [vI z]) dL_660 rfl l_L_83 k_X12_drop rfl (by rw [hM1]; rfl) c_X12 rfl rfl (Nat.le_of_ble_eq_true rfl) (by omega) (lay_hE hM1) hR ?_
  intro r M2 hQ
  obtain ⟨rfl, hV2⟩ := hQ
  exact lk_icmp_eq C (pc' := 666) dL_663 (by decide) rfl hz hz (fun _ => nx M2 hV2) (fun q => absurd rfl q)
set_option maxRecDepth 20000 in
theorem law_c16 {p : Program} {l : Launch} {e : Env} {s : State} {m : MethodId} {b : Nat} {below : List Frame} {meth : Method} {c : Code} {Ln : Nat} {xs : Nat → Int32} {G : Geo} (C : LCx p l e s m b below meth c Ln xs G) {V V' : Cpl} {i : Int} (h0 : 0 ≤ i) (h1 : i + 6 ≤ Ln) {P : Option Nat} {I : Nat → Nat → Int32} {J : Nat → Nat → Int64} (hV : V I J) (T : Step V V' m_X11_tell m_X12_tell [(xs (i + 1).toNat).toInt, (xs (i + 2).toNat).toInt, (xs (i + 3).toNat).toInt]) (nx : ∀ M2, Cpl2 V' M2 → Wl p l e s m b below meth c G 1129 (LL i) [] M2) : Wl p l e s m b below meth c G 668 (LL i) [] (mem (rv0 P) I J) := by
  refine lk_aload_n C (pc' := 669) dL_668 rfl rfl (j := 2) rfl ?_
  refine lk_aload_n C (pc' := 670) dL_669 rfl rfl (j := 3) rfl ?_
  refine lk_iload_n C (pc' := 671) dL_670 rfl rfl (j := 0) rfl ?_
  refine lk_iconst C (pc' := 672) dL_671 rfl ?_
  refine lk_iadd C (pc' := 673) dL_672 rfl ?_
  refine lk_sld C (pc' := 674) dL_673 rfl ⟨by omega, by omega⟩ rfl ?_
  refine lk_aload_n C (pc' := 675) dL_674 rfl rfl (j := 3) rfl ?_
  refine lk_iload_n C (pc' := 676) dL_675 rfl rfl (j := 0) rfl ?_
  refine lk_iconst C (pc' := 677) dL_676 rfl ?_
  refine lk_iadd C (pc' := 678) dL_677 rfl ?_
  refine lk_sld C (pc' := 679) dL_678 rfl ⟨by omega, by omega⟩ rfl ?_
  refine lk_aload_n C (pc' := 680) dL_679 rfl rfl (j := 3) rfl ?_
  refine lk_iload_n C (pc' := 681) dL_680 rfl rfl (j := 0) rfl ?_
  refine lk_iconst C (pc' := 682) dL_681 rfl ?_
  refine lk_iadd C (pc' := 683) dL_682 rfl ?_
  refine lk_sld C (pc' := 684) dL_683 rfl ⟨by omega, by omega⟩ rfl ?_
  refine lk_callV C (pc' := 687) (kc := 900) (E' := LAY) (cal := m_X11_tell) (n := 3) (a := 0) (ci := 11) (nf := 12) (as := [vI (xs (i + 1).toNat).toInt, vI (xs (i + 2).toNat).toInt, vI (xs (i + 3).toNat).toInt]) (S := []) dL_684 rfl l_L_84 k_X11_tell rfl rfl c_X11 rfl rfl (Nat.le_of_ble_eq_true rfl) (by omega) (lay_hE rfl) (T P I J hV) ?_
  intro r M1 hQ
  obtain ⟨z, rfl, hz, hM1, hR⟩ := hQ
  refine lk_aload_n C (pc' := 688) dL_687 rfl rfl (j := 1) rfl ?_
  refine lk_aload_n C (pc' := 689) dL_688 rfl rfl (j := 3) rfl ?_
  refine lk_iload_n C (pc' := 690) dL_689 rfl rfl (j := 0) rfl ?_
  refine lk_iconst C (pc' := 691) dL_690 rfl ?_
  refine lk_iadd C (pc' := 692) dL_691 rfl ?_
  refine lk_sld C (pc' := 693) dL_692 rfl ⟨by omega, by omega⟩ rfl ?_
  refine lk_aload_n C (pc' := 694) dL_693 rfl rfl (j := 3) rfl ?_
  refine lk_iload_n C (pc' := 695) dL_694 rfl rfl (j := 0) rfl ?_
  refine lk_iconst C (pc' := 696) dL_695 rfl ?_
  refine lk_iadd C (pc' := 697) dL_696 rfl ?_
  refine lk_sld C (pc' := 698) dL_697 rfl ⟨by omega, by omega⟩ rfl ?_
  refine lk_aload_n C (pc' := 699) dL_698 rfl rfl (j := 3) rfl ?_
  refine lk_iload_n C (pc' := 700) dL_699 rfl rfl (j := 0) rfl ?_
  refine lk_iconst C (pc' := 701) dL_700 rfl ?_
  refine lk_iadd C (pc' := 702) dL_701 rfl ?_
  refine lk_sld C (pc' := 703) dL_702 rfl ⟨by omega, by omega⟩ rfl ?_
  refine lk_callV C (pc' := 706) (kc := 900) (E' := LAY) (cal := m_X12_tell) (n := 3) (a := 74) (ci := 12) (nf := 88) (as := [vI (xs (i + 1).toNat).toInt, vI (xs (i + 2).toNat).toInt, vI (xs (i + 3).toNat).toInt]) (S := [vI z]) dL_703 rfl l_L_88 k_X12_tell rfl (by rw [hM1]; rfl) c_X12 rfl rfl (Nat.le_of_ble_eq_true rfl) (by omega) (lay_hE hM1) hR ?_
  intro r M2 hQ
  obtain ⟨rfl, hV2⟩ := hQ
  exact lk_icmp_eq C (pc' := 709) dL_706 (by decide) rfl hz hz (fun _ => nx M2 hV2) (fun q => absurd rfl q)
set_option maxRecDepth 20000 in
theorem law_c17 {p : Program} {l : Launch} {e : Env} {s : State} {m : MethodId} {b : Nat} {below : List Frame} {meth : Method} {c : Code} {Ln : Nat} {xs : Nat → Int32} {G : Geo} (C : LCx p l e s m b below meth c Ln xs G) {V V' : Cpl} {i : Int} (h0 : 0 ≤ i) (h1 : i + 6 ≤ Ln) {P : Option Nat} {I : Nat → Nat → Int32} {J : Nat → Nat → Int64} (hV : V I J) (T : Step V V' m_X11_night m_X12_night []) (nx : ∀ M2, Cpl2 V' M2 → Wl p l e s m b below meth c G 1129 (LL i) [] M2) : Wl p l e s m b below meth c G 711 (LL i) [] (mem (rv0 P) I J) := by
  refine lk_aload_n C (pc' := 712) dL_711 rfl rfl (j := 2) rfl ?_
  refine lk_callV C (pc' := 715) (kc := 900) (E' := LAY) (cal := m_X11_night) (n := 0) (a := 0) (ci := 11) (nf := 12) (as := []) (S := []) dL_712 rfl l_L_89 k_X11_night rfl rfl c_X11 rfl rfl (Nat.le_of_ble_eq_true rfl) (by omega) (lay_hE rfl) (T P I J hV) ?_
  intro r M1 hQ
  obtain ⟨z, rfl, hz, hM1, hR⟩ := hQ
  refine lk_aload_n C (pc' := 716) dL_715 rfl rfl (j := 1) rfl ?_
  refine lk_callV C (pc' := 719) (kc := 900) (E' := LAY) (cal := m_X12_night) (n := 0) (a := 74) (ci := 12) (nf := 88) (as := []) (S := [vI z]) dL_716 rfl l_L_92 k_X12_night rfl (by rw [hM1]; rfl) c_X12 rfl rfl (Nat.le_of_ble_eq_true rfl) (by omega) (lay_hE hM1) hR ?_
  intro r M2 hQ
  obtain ⟨rfl, hV2⟩ := hQ
  exact lk_icmp_eq C (pc' := 722) dL_719 (by decide) rfl hz hz (fun _ => nx M2 hV2) (fun q => absurd rfl q)
set_option maxRecDepth 20000 in
theorem law_c18 {p : Program} {l : Launch} {e : Env} {s : State} {m : MethodId} {b : Nat} {below : List Frame} {meth : Method} {c : Code} {Ln : Nat} {xs : Nat → Int32} {G : Geo} (C : LCx p l e s m b below meth c Ln xs G) {V V' : Cpl} {i : Int} (h0 : 0 ≤ i) (h1 : i + 6 ≤ Ln) {P : Option Nat} {I : Nat → Nat → Int32} {J : Nat → Nat → Int64} (hV : V I J) (T : Step V V' m_X11_winter m_X12_winter [(xs (i + 1).toNat).toInt]) (nx : ∀ M2, Cpl2 V' M2 → Wl p l e s m b below meth c G 1129 (LL i) [] M2) : Wl p l e s m b below meth c G 724 (LL i) [] (mem (rv0 P) I J) := by
  refine lk_aload_n C (pc' := 725) dL_724 rfl rfl (j := 2) rfl ?_
  refine lk_aload_n C (pc' := 726) dL_725 rfl rfl (j := 3) rfl ?_
  refine lk_iload_n C (pc' := 727) dL_726 rfl rfl (j := 0) rfl ?_
  refine lk_iconst C (pc' := 728) dL_727 rfl ?_
  refine lk_iadd C (pc' := 729) dL_728 rfl ?_
  refine lk_sld C (pc' := 730) dL_729 rfl ⟨by omega, by omega⟩ rfl ?_
  refine lk_callV C (pc' := 733) (kc := 900) (E' := LAY) (cal := m_X11_winter) (n := 1) (a := 0) (ci := 11) (nf := 12) (as := [vI (xs (i + 1).toNat).toInt]) (S := []) dL_730 rfl l_L_93 k_X11_winter rfl rfl c_X11 rfl rfl (Nat.le_of_ble_eq_true rfl) (by omega) (lay_hE rfl) (T P I J hV) ?_
  intro r M1 hQ
  obtain ⟨z, rfl, hz, hM1, hR⟩ := hQ
  refine lk_aload_n C (pc' := 734) dL_733 rfl rfl (j := 1) rfl ?_
  refine lk_aload_n C (pc' := 735) dL_734 rfl rfl (j := 3) rfl ?_
  refine lk_iload_n C (pc' := 736) dL_735 rfl rfl (j := 0) rfl ?_
  refine lk_iconst C (pc' := 737) dL_736 rfl ?_
  refine lk_iadd C (pc' := 738) dL_737 rfl ?_
  refine lk_sld C (pc' := 739) dL_738 rfl ⟨by omega, by omega⟩ rfl ?_
  refine lk_callV C (pc' := 742) (kc := 900) (E' := LAY) (cal := m_X12_winter) (n := 1) (a := 74) (ci := 12) (nf := 88) (as := [vI (xs (i + 1).toNat).toInt]) (S := [vI z]) dL_739 rfl l_L_96 k_X12_winter rfl (by rw [hM1]; rfl) c_X12 rfl rfl (Nat.le_of_ble_eq_true rfl) (by omega) (lay_hE hM1) hR ?_
  intro r M2 hQ
  obtain ⟨rfl, hV2⟩ := hQ
  exact lk_icmp_eq C (pc' := 745) dL_742 (by decide) rfl hz hz (fun _ => nx M2 hV2) (fun q => absurd rfl q)
set_option maxRecDepth 20000 in
theorem law_c19 {p : Program} {l : Launch} {e : Env} {s : State} {m : MethodId} {b : Nat} {below : List Frame} {meth : Method} {c : Code} {Ln : Nat} {xs : Nat → Int32} {G : Geo} (C : LCx p l e s m b below meth c Ln xs G) {V V' : Cpl} {i : Int} (h0 : 0 ≤ i) (h1 : i + 6 ≤ Ln) {P : Option Nat} {I : Nat → Nat → Int32} {J : Nat → Nat → Int64} (hV : V I J) (T : Step V V' m_X11_undo m_X12_undo []) (nx : ∀ M2, Cpl2 V' M2 → Wl p l e s m b below meth c G 1129 (LL i) [] M2) : Wl p l e s m b below meth c G 747 (LL i) [] (mem (rv0 P) I J) := by
  refine lk_aload_n C (pc' := 748) dL_747 rfl rfl (j := 2) rfl ?_
  refine lk_callV C (pc' := 751) (kc := 900) (E' := LAY) (cal := m_X11_undo) (n := 0) (a := 0) (ci := 11) (nf := 12) (as := []) (S := []) dL_748 rfl l_L_97 k_X11_undo rfl rfl c_X11 rfl rfl (Nat.le_of_ble_eq_true rfl) (by omega) (lay_hE rfl) (T P I J hV) ?_
  intro r M1 hQ
  obtain ⟨z, rfl, hz, hM1, hR⟩ := hQ
  refine lk_aload_n C (pc' := 752) dL_751 rfl rfl (j := 1) rfl ?_
  refine lk_callV C (pc' := 755) (kc := 900) (E' := LAY) (cal := m_X12_undo) (n := 0) (a := 74) (ci := 12) (nf := 88) (as := []) (S := [vI z]) dL_752 rfl l_L_101 k_X12_undo rfl (by rw [hM1]; rfl) c_X12 rfl rfl (Nat.le_of_ble_eq_true rfl) (by omega) (lay_hE hM1) hR ?_
  intro r M2 hQ
  obtain ⟨rfl, hV2⟩ := hQ
  exact lk_icmp_eq C (pc' := 758) dL_755 (by decide) rfl hz hz (fun _ => nx M2 hV2) (fun q => absurd rfl q)
set_option maxRecDepth 20000 in
theorem law_c20 {p : Program} {l : Launch} {e : Env} {s : State} {m : MethodId} {b : Nat} {below : List Frame} {meth : Method} {c : Code} {Ln : Nat} {xs : Nat → Int32} {G : Geo} (C : LCx p l e s m b below meth c Ln xs G) {V V' : Cpl} {i : Int} (h0 : 0 ≤ i) (h1 : i + 6 ≤ Ln) {P : Option Nat} {I : Nat → Nat → Int32} {J : Nat → Nat → Int64} (hV : V I J) (T : Step V V' m_X11_seed m_X12_seed [(xs (i + 1).toNat).toInt]) (nx : ∀ M2, Cpl2 V' M2 → Wl p l e s m b below meth c G 1129 (LL i) [] M2) : Wl p l e s m b below meth c G 760 (LL i) [] (mem (rv0 P) I J) := by
  refine lk_aload_n C (pc' := 761) dL_760 rfl rfl (j := 2) rfl ?_
  refine lk_aload_n C (pc' := 762) dL_761 rfl rfl (j := 3) rfl ?_
  refine lk_iload_n C (pc' := 763) dL_762 rfl rfl (j := 0) rfl ?_
  refine lk_iconst C (pc' := 764) dL_763 rfl ?_
  refine lk_iadd C (pc' := 765) dL_764 rfl ?_
  refine lk_sld C (pc' := 766) dL_765 rfl ⟨by omega, by omega⟩ rfl ?_
  refine lk_callV C (pc' := 769) (kc := 900) (E' := LAY) (cal := m_X11_seed) (n := 1) (a := 0) (ci := 11) (nf := 12) (as := [vI (xs (i + 1).toNat).toInt]) (S := []) dL_766 rfl l_L_102 k_X11_seed rfl rfl c_X11 rfl rfl (Nat.le_of_ble_eq_true rfl) (by omega) (lay_hE rfl) (T P I J hV) ?_
  intro r M1 hQ
  obtain ⟨z, rfl, hz, hM1, hR⟩ := hQ
  refine lk_aload_n C (pc' := 770) dL_769 rfl rfl (j := 1) rfl ?_
  refine lk_aload_n C (pc' := 771) dL_770 rfl rfl (j := 3) rfl ?_
  refine lk_iload_n C (pc' := 772) dL_771 rfl rfl (j := 0) rfl ?_
  refine lk_iconst C (pc' := 773) dL_772 rfl ?_
  refine lk_iadd C (pc' := 774) dL_773 rfl ?_
  refine lk_sld C (pc' := 775) dL_774 rfl ⟨by omega, by omega⟩ rfl ?_
  refine lk_callV C (pc' := 778) (kc := 900) (E' := LAY) (cal := m_X12_seed) (n := 1) (a := 74) (ci := 12) (nf := 88) (as := [vI (xs (i + 1).toNat).toInt]) (S := [vI z]) dL_775 rfl l_L_105 k_X12_seed rfl (by rw [hM1]; rfl) c_X12 rfl rfl (Nat.le_of_ble_eq_true rfl) (by omega) (lay_hE hM1) hR ?_
  intro r M2 hQ
  obtain ⟨rfl, hV2⟩ := hQ
  exact lk_icmp_eq C (pc' := 781) dL_778 (by decide) rfl hz hz (fun _ => nx M2 hV2) (fun q => absurd rfl q)
set_option maxRecDepth 20000 in
theorem law_c21 {p : Program} {l : Launch} {e : Env} {s : State} {m : MethodId} {b : Nat} {below : List Frame} {meth : Method} {c : Code} {Ln : Nat} {xs : Nat → Int32} {G : Geo} (C : LCx p l e s m b below meth c Ln xs G) {V V' : Cpl} {i : Int} (h0 : 0 ≤ i) (h1 : i + 6 ≤ Ln) {P : Option Nat} {I : Nat → Nat → Int32} {J : Nat → Nat → Int64} (hV : V I J) (T : Step V V' m_X11_kept m_X12_kept [(xs (i + 1).toNat).toInt, (xs (i + 2).toNat).toInt]) (nx : ∀ M2, Cpl2 V' M2 → Wl p l e s m b below meth c G 1129 (LL i) [] M2) : Wl p l e s m b below meth c G 783 (LL i) [] (mem (rv0 P) I J) := by
  refine lk_aload_n C (pc' := 784) dL_783 rfl rfl (j := 2) rfl ?_
  refine lk_aload_n C (pc' := 785) dL_784 rfl rfl (j := 3) rfl ?_
  refine lk_iload_n C (pc' := 786) dL_785 rfl rfl (j := 0) rfl ?_
  refine lk_iconst C (pc' := 787) dL_786 rfl ?_
  refine lk_iadd C (pc' := 788) dL_787 rfl ?_
  refine lk_sld C (pc' := 789) dL_788 rfl ⟨by omega, by omega⟩ rfl ?_
  refine lk_aload_n C (pc' := 790) dL_789 rfl rfl (j := 3) rfl ?_
  refine lk_iload_n C (pc' := 791) dL_790 rfl rfl (j := 0) rfl ?_
  refine lk_iconst C (pc' := 792) dL_791 rfl ?_
  refine lk_iadd C (pc' := 793) dL_792 rfl ?_
  refine lk_sld C (pc' := 794) dL_793 rfl ⟨by omega, by omega⟩ rfl ?_
  refine lk_callV C (pc' := 797) (kc := 900) (E' := LAY) (cal := m_X11_kept) (n := 2) (a := 0) (ci := 11) (nf := 12) (as := [vI (xs (i + 1).toNat).toInt, vI (xs (i + 2).toNat).toInt]) (S := []) dL_794 rfl l_L_106 k_X11_kept rfl rfl c_X11 rfl rfl (Nat.le_of_ble_eq_true rfl) (by omega) (lay_hE rfl) (T P I J hV) ?_
  intro r M1 hQ
  obtain ⟨z, rfl, hz, hM1, hR⟩ := hQ
  refine lk_aload_n C (pc' := 798) dL_797 rfl rfl (j := 1) rfl ?_
  refine lk_aload_n C (pc' := 799) dL_798 rfl rfl (j := 3) rfl ?_
  refine lk_iload_n C (pc' := 800) dL_799 rfl rfl (j := 0) rfl ?_
  refine lk_iconst C (pc' := 801) dL_800 rfl ?_
  refine lk_iadd C (pc' := 802) dL_801 rfl ?_
  refine lk_sld C (pc' := 803) dL_802 rfl ⟨by omega, by omega⟩ rfl ?_
  refine lk_aload_n C (pc' := 804) dL_803 rfl rfl (j := 3) rfl ?_
  refine lk_iload_n C (pc' := 805) dL_804 rfl rfl (j := 0) rfl ?_
  refine lk_iconst C (pc' := 806) dL_805 rfl ?_
  refine lk_iadd C (pc' := 807) dL_806 rfl ?_
  refine lk_sld C (pc' := 808) dL_807 rfl ⟨by omega, by omega⟩ rfl ?_
  refine lk_callV C (pc' := 811) (kc := 900) (E' := LAY) (cal := m_X12_kept) (n := 2) (a := 74) (ci := 12) (nf := 88) (as := [vI (xs (i + 1).toNat).toInt, vI (xs (i + 2).toNat).toInt]) (S := [vI z]) dL_808 rfl l_L_109 k_X12_kept rfl (by rw [hM1]; rfl) c_X12 rfl rfl (Nat.le_of_ble_eq_true rfl) (by omega) (lay_hE hM1) hR ?_
  intro r M2 hQ
  obtain ⟨rfl, hV2⟩ := hQ
  exact lk_icmp_eq C (pc' := 814) dL_811 (by decide) rfl hz hz (fun _ => nx M2 hV2) (fun q => absurd rfl q)
set_option maxRecDepth 20000 in
theorem law_c22 {p : Program} {l : Launch} {e : Env} {s : State} {m : MethodId} {b : Nat} {below : List Frame} {meth : Method} {c : Code} {Ln : Nat} {xs : Nat → Int32} {G : Geo} (C : LCx p l e s m b below meth c Ln xs G) {V V' : Cpl} {i : Int} (h0 : 0 ≤ i) (h1 : i + 6 ≤ Ln) {P : Option Nat} {I : Nat → Nat → Int32} {J : Nat → Nat → Int64} (hV : V I J) (T : Step V V' m_X11_work m_X12_work [(xs (i + 1).toNat).toInt, (xs (i + 2).toNat).toInt, (xs (i + 3).toNat).toInt]) (nx : ∀ M2, Cpl2 V' M2 → Wl p l e s m b below meth c G 1129 (LL i) [] M2) : Wl p l e s m b below meth c G 816 (LL i) [] (mem (rv0 P) I J) := by
  refine lk_aload_n C (pc' := 817) dL_816 rfl rfl (j := 2) rfl ?_
  refine lk_aload_n C (pc' := 818) dL_817 rfl rfl (j := 3) rfl ?_
  refine lk_iload_n C (pc' := 819) dL_818 rfl rfl (j := 0) rfl ?_
  refine lk_iconst C (pc' := 820) dL_819 rfl ?_
  refine lk_iadd C (pc' := 821) dL_820 rfl ?_
  refine lk_sld C (pc' := 822) dL_821 rfl ⟨by omega, by omega⟩ rfl ?_
  refine lk_aload_n C (pc' := 823) dL_822 rfl rfl (j := 3) rfl ?_
  refine lk_iload_n C (pc' := 824) dL_823 rfl rfl (j := 0) rfl ?_
  refine lk_iconst C (pc' := 825) dL_824 rfl ?_
  refine lk_iadd C (pc' := 826) dL_825 rfl ?_
  refine lk_sld C (pc' := 827) dL_826 rfl ⟨by omega, by omega⟩ rfl ?_
  refine lk_aload_n C (pc' := 828) dL_827 rfl rfl (j := 3) rfl ?_
  refine lk_iload_n C (pc' := 829) dL_828 rfl rfl (j := 0) rfl ?_
  refine lk_iconst C (pc' := 830) dL_829 rfl ?_
  refine lk_iadd C (pc' := 831) dL_830 rfl ?_
  refine lk_sld C (pc' := 832) dL_831 rfl ⟨by omega, by omega⟩ rfl ?_
  refine lk_callV C (pc' := 835) (kc := 900) (E' := LAY) (cal := m_X11_work) (n := 3) (a := 0) (ci := 11) (nf := 12) (as := [vI (xs (i + 1).toNat).toInt, vI (xs (i + 2).toNat).toInt, vI (xs (i + 3).toNat).toInt]) (S := []) dL_832 rfl l_L_110 k_X11_work rfl rfl c_X11 rfl rfl (Nat.le_of_ble_eq_true rfl) (by omega) (lay_hE rfl) (T P I J hV) ?_
  intro r M1 hQ
  obtain ⟨z, rfl, hz, hM1, hR⟩ := hQ
  refine lk_aload_n C (pc' := 836) dL_835 rfl rfl (j := 1) rfl ?_
  refine lk_aload_n C (pc' := 837) dL_836 rfl rfl (j := 3) rfl ?_
  refine lk_iload_n C (pc' := 838) dL_837 rfl rfl (j := 0) rfl ?_
  refine lk_iconst C (pc' := 839) dL_838 rfl ?_
  refine lk_iadd C (pc' := 840) dL_839 rfl ?_
  refine lk_sld C (pc' := 841) dL_840 rfl ⟨by omega, by omega⟩ rfl ?_
  refine lk_aload_n C (pc' := 842) dL_841 rfl rfl (j := 3) rfl ?_
  refine lk_iload_n C (pc' := 843) dL_842 rfl rfl (j := 0) rfl ?_
  refine lk_iconst C (pc' := 844) dL_843 rfl ?_
  refine lk_iadd C (pc' := 845) dL_844 rfl ?_
  refine lk_sld C (pc' := 846) dL_845 rfl ⟨by omega, by omega⟩ rfl ?_
  refine lk_aload_n C (pc' := 847) dL_846 rfl rfl (j := 3) rfl ?_
  refine lk_iload_n C (pc' := 848) dL_847 rfl rfl (j := 0) rfl ?_
  refine lk_iconst C (pc' := 849) dL_848 rfl ?_
  refine lk_iadd C (pc' := 850) dL_849 rfl ?_
  refine lk_sld C (pc' := 851) dL_850 rfl ⟨by omega, by omega⟩ rfl ?_
  refine lk_callV C (pc' := 854) (kc := 900) (E' := LAY) (cal := m_X12_work) (n := 3) (a := 74) (ci := 12) (nf := 88) (as := [vI (xs (i + 1).toNat).toInt, vI (xs (i + 2).toNat).toInt, vI (xs (i + 3).toNat).toInt]) (S := [vI z]) dL_851 rfl l_L_113 k_X12_work rfl (by rw [hM1]; rfl) c_X12 rfl rfl (Nat.le_of_ble_eq_true rfl) (by omega) (lay_hE hM1) hR ?_
  intro r M2 hQ
  obtain ⟨rfl, hV2⟩ := hQ
  exact lk_icmp_eq C (pc' := 857) dL_854 (by decide) rfl hz hz (fun _ => nx M2 hV2) (fun q => absurd rfl q)
set_option maxRecDepth 20000 in
theorem law_c23 {p : Program} {l : Launch} {e : Env} {s : State} {m : MethodId} {b : Nat} {below : List Frame} {meth : Method} {c : Code} {Ln : Nat} {xs : Nat → Int32} {G : Geo} (C : LCx p l e s m b below meth c Ln xs G) {V V' : Cpl} {i : Int} (h0 : 0 ≤ i) (h1 : i + 6 ≤ Ln) {P : Option Nat} {I : Nat → Nat → Int32} {J : Nat → Nat → Int64} (hV : V I J) (T : Step V V' m_X11_scholar m_X12_scholar [(xs (i + 1).toNat).toInt]) (nx : ∀ M2, Cpl2 V' M2 → Wl p l e s m b below meth c G 1129 (LL i) [] M2) : Wl p l e s m b below meth c G 859 (LL i) [] (mem (rv0 P) I J) := by
  refine lk_aload_n C (pc' := 860) dL_859 rfl rfl (j := 2) rfl ?_
  refine lk_aload_n C (pc' := 861) dL_860 rfl rfl (j := 3) rfl ?_
  refine lk_iload_n C (pc' := 862) dL_861 rfl rfl (j := 0) rfl ?_
  refine lk_iconst C (pc' := 863) dL_862 rfl ?_
  refine lk_iadd C (pc' := 864) dL_863 rfl ?_
  refine lk_sld C (pc' := 865) dL_864 rfl ⟨by omega, by omega⟩ rfl ?_
  refine lk_callV C (pc' := 868) (kc := 900) (E' := LAY) (cal := m_X11_scholar) (n := 1) (a := 0) (ci := 11) (nf := 12) (as := [vI (xs (i + 1).toNat).toInt]) (S := []) dL_865 rfl l_L_114 k_X11_scholar rfl rfl c_X11 rfl rfl (Nat.le_of_ble_eq_true rfl) (by omega) (lay_hE rfl) (T P I J hV) ?_
  intro r M1 hQ
  obtain ⟨z, rfl, hz, hM1, hR⟩ := hQ
  refine lk_aload_n C (pc' := 869) dL_868 rfl rfl (j := 1) rfl ?_
  refine lk_aload_n C (pc' := 870) dL_869 rfl rfl (j := 3) rfl ?_
  refine lk_iload_n C (pc' := 871) dL_870 rfl rfl (j := 0) rfl ?_
  refine lk_iconst C (pc' := 872) dL_871 rfl ?_
  refine lk_iadd C (pc' := 873) dL_872 rfl ?_
  refine lk_sld C (pc' := 874) dL_873 rfl ⟨by omega, by omega⟩ rfl ?_
  refine lk_callV C (pc' := 877) (kc := 900) (E' := LAY) (cal := m_X12_scholar) (n := 1) (a := 74) (ci := 12) (nf := 88) (as := [vI (xs (i + 1).toNat).toInt]) (S := [vI z]) dL_874 rfl l_L_117 k_X12_scholar rfl (by rw [hM1]; rfl) c_X12 rfl rfl (Nat.le_of_ble_eq_true rfl) (by omega) (lay_hE hM1) hR ?_
  intro r M2 hQ
  obtain ⟨rfl, hV2⟩ := hQ
  exact lk_icmp_eq C (pc' := 880) dL_877 (by decide) rfl hz hz (fun _ => nx M2 hV2) (fun q => absurd rfl q)
set_option maxRecDepth 20000 in
theorem law_c24 {p : Program} {l : Launch} {e : Env} {s : State} {m : MethodId} {b : Nat} {below : List Frame} {meth : Method} {c : Code} {Ln : Nat} {xs : Nat → Int32} {G : Geo} (C : LCx p l e s m b below meth c Ln xs G) {V V' : Cpl} {i : Int} (h0 : 0 ≤ i) (h1 : i + 6 ≤ Ln) {P : Option Nat} {I : Nat → Nat → Int32} {J : Nat → Nat → Int64} (hV : V I J) (T : Step V V' m_X11_shared m_X12_shared [(xs (i + 1).toNat).toInt, (xs (i + 2).toNat).toInt]) (nx : ∀ M2, Cpl2 V' M2 → Wl p l e s m b below meth c G 1129 (LL i) [] M2) : Wl p l e s m b below meth c G 882 (LL i) [] (mem (rv0 P) I J) := by
  refine lk_aload_n C (pc' := 883) dL_882 rfl rfl (j := 2) rfl ?_
  refine lk_aload_n C (pc' := 884) dL_883 rfl rfl (j := 3) rfl ?_
  refine lk_iload_n C (pc' := 885) dL_884 rfl rfl (j := 0) rfl ?_
  refine lk_iconst C (pc' := 886) dL_885 rfl ?_
  refine lk_iadd C (pc' := 887) dL_886 rfl ?_
  refine lk_sld C (pc' := 888) dL_887 rfl ⟨by omega, by omega⟩ rfl ?_
  refine lk_aload_n C (pc' := 889) dL_888 rfl rfl (j := 3) rfl ?_
  refine lk_iload_n C (pc' := 890) dL_889 rfl rfl (j := 0) rfl ?_
  refine lk_iconst C (pc' := 891) dL_890 rfl ?_
  refine lk_iadd C (pc' := 892) dL_891 rfl ?_
  refine lk_sld C (pc' := 893) dL_892 rfl ⟨by omega, by omega⟩ rfl ?_
  refine lk_callV C (pc' := 896) (kc := 900) (E' := LAY) (cal := m_X11_shared) (n := 2) (a := 0) (ci := 11) (nf := 12) (as := [vI (xs (i + 1).toNat).toInt, vI (xs (i + 2).toNat).toInt]) (S := []) dL_893 rfl l_L_118 k_X11_shared rfl rfl c_X11 rfl rfl (Nat.le_of_ble_eq_true rfl) (by omega) (lay_hE rfl) (T P I J hV) ?_
  intro r M1 hQ
  obtain ⟨z, rfl, hz, hM1, hR⟩ := hQ
  refine lk_aload_n C (pc' := 897) dL_896 rfl rfl (j := 1) rfl ?_
  refine lk_aload_n C (pc' := 898) dL_897 rfl rfl (j := 3) rfl ?_
  refine lk_iload_n C (pc' := 899) dL_898 rfl rfl (j := 0) rfl ?_
  refine lk_iconst C (pc' := 900) dL_899 rfl ?_
  refine lk_iadd C (pc' := 901) dL_900 rfl ?_
  refine lk_sld C (pc' := 902) dL_901 rfl ⟨by omega, by omega⟩ rfl ?_
  refine lk_aload_n C (pc' := 903) dL_902 rfl rfl (j := 3) rfl ?_
  refine lk_iload_n C (pc' := 904) dL_903 rfl rfl (j := 0) rfl ?_
  refine lk_iconst C (pc' := 905) dL_904 rfl ?_
  refine lk_iadd C (pc' := 906) dL_905 rfl ?_
  refine lk_sld C (pc' := 907) dL_906 rfl ⟨by omega, by omega⟩ rfl ?_
  refine lk_callV C (pc' := 910) (kc := 900) (E' := LAY) (cal := m_X12_shared) (n := 2) (a := 74) (ci := 12) (nf := 88) (as := [vI (xs (i + 1).toNat).toInt, vI (xs (i + 2).toNat).toInt]) (S := [vI z]) dL_907 rfl l_L_121 k_X12_shared rfl (by rw [hM1]; rfl) c_X12 rfl rfl (Nat.le_of_ble_eq_true rfl) (by omega) (lay_hE hM1) hR ?_
  intro r M2 hQ
  obtain ⟨rfl, hV2⟩ := hQ
  exact lk_icmp_eq C (pc' := 913) dL_910 (by decide) rfl hz hz (fun _ => nx M2 hV2) (fun q => absurd rfl q)
set_option maxRecDepth 20000 in
theorem law_c25 {p : Program} {l : Launch} {e : Env} {s : State} {m : MethodId} {b : Nat} {below : List Frame} {meth : Method} {c : Code} {Ln : Nat} {xs : Nat → Int32} {G : Geo} (C : LCx p l e s m b below meth c Ln xs G) {V V' : Cpl} {i : Int} (h0 : 0 ≤ i) (h1 : i + 6 ≤ Ln) {P : Option Nat} {I : Nat → Nat → Int32} {J : Nat → Nat → Int64} (hV : V I J) (T : Step V V' m_X11_seated m_X12_seated [(xs (i + 1).toNat).toInt]) (nx : ∀ M2, Cpl2 V' M2 → Wl p l e s m b below meth c G 1129 (LL i) [] M2) : Wl p l e s m b below meth c G 915 (LL i) [] (mem (rv0 P) I J) := by
  refine lk_aload_n C (pc' := 916) dL_915 rfl rfl (j := 2) rfl ?_
  refine lk_aload_n C (pc' := 917) dL_916 rfl rfl (j := 3) rfl ?_
  refine lk_iload_n C (pc' := 918) dL_917 rfl rfl (j := 0) rfl ?_
  refine lk_iconst C (pc' := 919) dL_918 rfl ?_
  refine lk_iadd C (pc' := 920) dL_919 rfl ?_
  refine lk_sld C (pc' := 921) dL_920 rfl ⟨by omega, by omega⟩ rfl ?_
  refine lk_callV C (pc' := 924) (kc := 900) (E' := LAY) (cal := m_X11_seated) (n := 1) (a := 0) (ci := 11) (nf := 12) (as := [vI (xs (i + 1).toNat).toInt]) (S := []) dL_921 rfl l_L_122 k_X11_seated rfl rfl c_X11 rfl rfl (Nat.le_of_ble_eq_true rfl) (by omega) (lay_hE rfl) (T P I J hV) ?_
  intro r M1 hQ
  obtain ⟨z, rfl, hz, hM1, hR⟩ := hQ
  refine lk_aload_n C (pc' := 925) dL_924 rfl rfl (j := 1) rfl ?_
  refine lk_aload_n C (pc' := 926) dL_925 rfl rfl (j := 3) rfl ?_
  refine lk_iload_n C (pc' := 927) dL_926 rfl rfl (j := 0) rfl ?_
  refine lk_iconst C (pc' := 928) dL_927 rfl ?_
  refine lk_iadd C (pc' := 929) dL_928 rfl ?_
  refine lk_sld C (pc' := 930) dL_929 rfl ⟨by omega, by omega⟩ rfl ?_
  refine lk_callV C (pc' := 933) (kc := 900) (E' := LAY) (cal := m_X12_seated) (n := 1) (a := 74) (ci := 12) (nf := 88) (as := [vI (xs (i + 1).toNat).toInt]) (S := [vI z]) dL_930 rfl l_L_125 k_X12_seated rfl (by rw [hM1]; rfl) c_X12 rfl rfl (Nat.le_of_ble_eq_true rfl) (by omega) (lay_hE hM1) hR ?_
  intro r M2 hQ
  obtain ⟨rfl, hV2⟩ := hQ
  exact lk_icmp_eq C (pc' := 936) dL_933 (by decide) rfl hz hz (fun _ => nx M2 hV2) (fun q => absurd rfl q)
set_option maxRecDepth 20000 in
theorem law_c26 {p : Program} {l : Launch} {e : Env} {s : State} {m : MethodId} {b : Nat} {below : List Frame} {meth : Method} {c : Code} {Ln : Nat} {xs : Nat → Int32} {G : Geo} (C : LCx p l e s m b below meth c Ln xs G) {V V' : Cpl} {i : Int} (h0 : 0 ≤ i) (h1 : i + 6 ≤ Ln) {P : Option Nat} {I : Nat → Nat → Int32} {J : Nat → Nat → Int64} (hV : V I J) (T : Step V V' m_X11_most m_X12_most [(xs (i + 1).toNat).toInt, (xs (i + 2).toNat).toInt, (xs (i + 3).toNat).toInt]) (nx : ∀ M2, Cpl2 V' M2 → Wl p l e s m b below meth c G 1129 (LL i) [] M2) : Wl p l e s m b below meth c G 938 (LL i) [] (mem (rv0 P) I J) := by
  refine lk_aload_n C (pc' := 939) dL_938 rfl rfl (j := 2) rfl ?_
  refine lk_aload_n C (pc' := 940) dL_939 rfl rfl (j := 3) rfl ?_
  refine lk_iload_n C (pc' := 941) dL_940 rfl rfl (j := 0) rfl ?_
  refine lk_iconst C (pc' := 942) dL_941 rfl ?_
  refine lk_iadd C (pc' := 943) dL_942 rfl ?_
  refine lk_sld C (pc' := 944) dL_943 rfl ⟨by omega, by omega⟩ rfl ?_
  refine lk_aload_n C (pc' := 945) dL_944 rfl rfl (j := 3) rfl ?_
  refine lk_iload_n C (pc' := 946) dL_945 rfl rfl (j := 0) rfl ?_
  refine lk_iconst C (pc' := 947) dL_946 rfl ?_
  refine lk_iadd C (pc' := 948) dL_947 rfl ?_
  refine lk_sld C (pc' := 949) dL_948 rfl ⟨by omega, by omega⟩ rfl ?_
  refine lk_aload_n C (pc' := 950) dL_949 rfl rfl (j := 3) rfl ?_
  refine lk_iload_n C (pc' := 951) dL_950 rfl rfl (j := 0) rfl ?_
  refine lk_iconst C (pc' := 952) dL_951 rfl ?_
  refine lk_iadd C (pc' := 953) dL_952 rfl ?_
  refine lk_sld C (pc' := 954) dL_953 rfl ⟨by omega, by omega⟩ rfl ?_
  refine lk_callV C (pc' := 957) (kc := 900) (E' := LAY) (cal := m_X11_most) (n := 3) (a := 0) (ci := 11) (nf := 12) (as := [vI (xs (i + 1).toNat).toInt, vI (xs (i + 2).toNat).toInt, vI (xs (i + 3).toNat).toInt]) (S := []) dL_954 rfl l_L_126 k_X11_most rfl rfl c_X11 rfl rfl (Nat.le_of_ble_eq_true rfl) (by omega) (lay_hE rfl) (T P I J hV) ?_
  intro r M1 hQ
  obtain ⟨z, rfl, hz, hM1, hR⟩ := hQ
  refine lk_aload_n C (pc' := 958) dL_957 rfl rfl (j := 1) rfl ?_
  refine lk_aload_n C (pc' := 959) dL_958 rfl rfl (j := 3) rfl ?_
  refine lk_iload_n C (pc' := 960) dL_959 rfl rfl (j := 0) rfl ?_
  refine lk_iconst C (pc' := 961) dL_960 rfl ?_
  refine lk_iadd C (pc' := 962) dL_961 rfl ?_
  refine lk_sld C (pc' := 963) dL_962 rfl ⟨by omega, by omega⟩ rfl ?_
  refine lk_aload_n C (pc' := 964) dL_963 rfl rfl (j := 3) rfl ?_
  refine lk_iload_n C (pc' := 965) dL_964 rfl rfl (j := 0) rfl ?_
  refine lk_iconst C (pc' := 966) dL_965 rfl ?_
  refine lk_iadd C (pc' := 967) dL_966 rfl ?_
  refine lk_sld C (pc' := 968) dL_967 rfl ⟨by omega, by omega⟩ rfl ?_
  refine lk_aload_n C (pc' := 969) dL_968 rfl rfl (j := 3) rfl ?_
  refine lk_iload_n C (pc' := 970) dL_969 rfl rfl (j := 0) rfl ?_
  refine lk_iconst C (pc' := 971) dL_970 rfl ?_
  refine lk_iadd C (pc' := 972) dL_971 rfl ?_
  refine lk_sld C (pc' := 973) dL_972 rfl ⟨by omega, by omega⟩ rfl ?_
  refine lk_callV C (pc' := 976) (kc := 900) (E' := LAY) (cal := m_X12_most) (n := 3) (a := 74) (ci := 12) (nf := 88) (as := [vI (xs (i + 1).toNat).toInt, vI (xs (i + 2).toNat).toInt, vI (xs (i + 3).toNat).toInt]) (S := [vI z]) dL_973 rfl l_L_129 k_X12_most rfl (by rw [hM1]; rfl) c_X12 rfl rfl (Nat.le_of_ble_eq_true rfl) (by omega) (lay_hE hM1) hR ?_
  intro r M2 hQ
  obtain ⟨rfl, hV2⟩ := hQ
  exact lk_icmp_eq C (pc' := 979) dL_976 (by decide) rfl hz hz (fun _ => nx M2 hV2) (fun q => absurd rfl q)
set_option maxRecDepth 20000 in
theorem law_c27 {p : Program} {l : Launch} {e : Env} {s : State} {m : MethodId} {b : Nat} {below : List Frame} {meth : Method} {c : Code} {Ln : Nat} {xs : Nat → Int32} {G : Geo} (C : LCx p l e s m b below meth c Ln xs G) {V V' : Cpl} {i : Int} (h0 : 0 ≤ i) (h1 : i + 6 ≤ Ln) {P : Option Nat} {I : Nat → Nat → Int32} {J : Nat → Nat → Int64} (hV : V I J) (T : Step V V' m_X11_wax m_X12_wax [(xs (i + 1).toNat).toInt, (xs (i + 2).toNat).toInt, (xs (i + 3).toNat).toInt]) (nx : ∀ M2, Cpl2 V' M2 → Wl p l e s m b below meth c G 1129 (LL i) [] M2) : Wl p l e s m b below meth c G 981 (LL i) [] (mem (rv0 P) I J) := by
  refine lk_aload_n C (pc' := 982) dL_981 rfl rfl (j := 2) rfl ?_
  refine lk_aload_n C (pc' := 983) dL_982 rfl rfl (j := 3) rfl ?_
  refine lk_iload_n C (pc' := 984) dL_983 rfl rfl (j := 0) rfl ?_
  refine lk_iconst C (pc' := 985) dL_984 rfl ?_
  refine lk_iadd C (pc' := 986) dL_985 rfl ?_
  refine lk_sld C (pc' := 987) dL_986 rfl ⟨by omega, by omega⟩ rfl ?_
  refine lk_aload_n C (pc' := 988) dL_987 rfl rfl (j := 3) rfl ?_
  refine lk_iload_n C (pc' := 989) dL_988 rfl rfl (j := 0) rfl ?_
  refine lk_iconst C (pc' := 990) dL_989 rfl ?_
  refine lk_iadd C (pc' := 991) dL_990 rfl ?_
  refine lk_sld C (pc' := 992) dL_991 rfl ⟨by omega, by omega⟩ rfl ?_
  refine lk_aload_n C (pc' := 993) dL_992 rfl rfl (j := 3) rfl ?_
  refine lk_iload_n C (pc' := 994) dL_993 rfl rfl (j := 0) rfl ?_
  refine lk_iconst C (pc' := 995) dL_994 rfl ?_
  refine lk_iadd C (pc' := 996) dL_995 rfl ?_
  refine lk_sld C (pc' := 997) dL_996 rfl ⟨by omega, by omega⟩ rfl ?_
  refine lk_callV C (pc' := 1000) (kc := 900) (E' := LAY) (cal := m_X11_wax) (n := 3) (a := 0) (ci := 11) (nf := 12) (as := [vI (xs (i + 1).toNat).toInt, vI (xs (i + 2).toNat).toInt, vI (xs (i + 3).toNat).toInt]) (S := []) dL_997 rfl l_L_130 k_X11_wax rfl rfl c_X11 rfl rfl (Nat.le_of_ble_eq_true rfl) (by omega) (lay_hE rfl) (T P I J hV) ?_
  intro r M1 hQ
  obtain ⟨z, rfl, hz, hM1, hR⟩ := hQ
  refine lk_aload_n C (pc' := 1001) dL_1000 rfl rfl (j := 1) rfl ?_
  refine lk_aload_n C (pc' := 1002) dL_1001 rfl rfl (j := 3) rfl ?_
  refine lk_iload_n C (pc' := 1003) dL_1002 rfl rfl (j := 0) rfl ?_
  refine lk_iconst C (pc' := 1004) dL_1003 rfl ?_
  refine lk_iadd C (pc' := 1005) dL_1004 rfl ?_
  refine lk_sld C (pc' := 1006) dL_1005 rfl ⟨by omega, by omega⟩ rfl ?_
  refine lk_aload_n C (pc' := 1007) dL_1006 rfl rfl (j := 3) rfl ?_
  refine lk_iload_n C (pc' := 1008) dL_1007 rfl rfl (j := 0) rfl ?_
  refine lk_iconst C (pc' := 1009) dL_1008 rfl ?_
  refine lk_iadd C (pc' := 1010) dL_1009 rfl ?_
  refine lk_sld C (pc' := 1011) dL_1010 rfl ⟨by omega, by omega⟩ rfl ?_
  refine lk_aload_n C (pc' := 1012) dL_1011 rfl rfl (j := 3) rfl ?_
  refine lk_iload_n C (pc' := 1013) dL_1012 rfl rfl (j := 0) rfl ?_
  refine lk_iconst C (pc' := 1014) dL_1013 rfl ?_
  refine lk_iadd C (pc' := 1015) dL_1014 rfl ?_
  refine lk_sld C (pc' := 1016) dL_1015 rfl ⟨by omega, by omega⟩ rfl ?_
  refine lk_callV C (pc' := 1019) (kc := 900) (E' := LAY) (cal := m_X12_wax) (n := 3) (a := 74) (ci := 12) (nf := 88) (as := [vI (xs (i + 1).toNat).toInt, vI (xs (i + 2).toNat).toInt, vI (xs (i + 3).toNat).toInt]) (S := [vI z]) dL_1016 rfl l_L_133 k_X12_wax rfl (by rw [hM1]; rfl) c_X12 rfl rfl (Nat.le_of_ble_eq_true rfl) (by omega) (lay_hE hM1) hR ?_
  intro r M2 hQ
  obtain ⟨rfl, hV2⟩ := hQ
  exact lk_icmp_eq C (pc' := 1022) dL_1019 (by decide) rfl hz hz (fun _ => nx M2 hV2) (fun q => absurd rfl q)
set_option maxRecDepth 20000 in
theorem law_c28 {p : Program} {l : Launch} {e : Env} {s : State} {m : MethodId} {b : Nat} {below : List Frame} {meth : Method} {c : Code} {Ln : Nat} {xs : Nat → Int32} {G : Geo} (C : LCx p l e s m b below meth c Ln xs G) {V V' : Cpl} {i : Int} (h0 : 0 ≤ i) (h1 : i + 6 ≤ Ln) {P : Option Nat} {I : Nat → Nat → Int32} {J : Nat → Nat → Int64} (hV : V I J) (T : Step V V' m_X11_index m_X12_index [(xs (i + 1).toNat).toInt, (xs (i + 2).toNat).toInt]) (nx : ∀ M2, Cpl2 V' M2 → Wl p l e s m b below meth c G 1129 (LL i) [] M2) : Wl p l e s m b below meth c G 1024 (LL i) [] (mem (rv0 P) I J) := by
  refine lk_aload_n C (pc' := 1025) dL_1024 rfl rfl (j := 2) rfl ?_
  refine lk_aload_n C (pc' := 1026) dL_1025 rfl rfl (j := 3) rfl ?_
  refine lk_iload_n C (pc' := 1027) dL_1026 rfl rfl (j := 0) rfl ?_
  refine lk_iconst C (pc' := 1028) dL_1027 rfl ?_
  refine lk_iadd C (pc' := 1029) dL_1028 rfl ?_
  refine lk_sld C (pc' := 1030) dL_1029 rfl ⟨by omega, by omega⟩ rfl ?_
  refine lk_aload_n C (pc' := 1031) dL_1030 rfl rfl (j := 3) rfl ?_
  refine lk_iload_n C (pc' := 1032) dL_1031 rfl rfl (j := 0) rfl ?_
  refine lk_iconst C (pc' := 1033) dL_1032 rfl ?_
  refine lk_iadd C (pc' := 1034) dL_1033 rfl ?_
  refine lk_sld C (pc' := 1035) dL_1034 rfl ⟨by omega, by omega⟩ rfl ?_
  refine lk_callV C (pc' := 1038) (kc := 900) (E' := LAY) (cal := m_X11_index) (n := 2) (a := 0) (ci := 11) (nf := 12) (as := [vI (xs (i + 1).toNat).toInt, vI (xs (i + 2).toNat).toInt]) (S := []) dL_1035 rfl l_L_134 k_X11_index rfl rfl c_X11 rfl rfl (Nat.le_of_ble_eq_true rfl) (by omega) (lay_hE rfl) (T P I J hV) ?_
  intro r M1 hQ
  obtain ⟨z, rfl, hz, hM1, hR⟩ := hQ
  refine lk_aload_n C (pc' := 1039) dL_1038 rfl rfl (j := 1) rfl ?_
  refine lk_aload_n C (pc' := 1040) dL_1039 rfl rfl (j := 3) rfl ?_
  refine lk_iload_n C (pc' := 1041) dL_1040 rfl rfl (j := 0) rfl ?_
  refine lk_iconst C (pc' := 1042) dL_1041 rfl ?_
  refine lk_iadd C (pc' := 1043) dL_1042 rfl ?_
  refine lk_sld C (pc' := 1044) dL_1043 rfl ⟨by omega, by omega⟩ rfl ?_
  refine lk_aload_n C (pc' := 1045) dL_1044 rfl rfl (j := 3) rfl ?_
  refine lk_iload_n C (pc' := 1046) dL_1045 rfl rfl (j := 0) rfl ?_
  refine lk_iconst C (pc' := 1047) dL_1046 rfl ?_
  refine lk_iadd C (pc' := 1048) dL_1047 rfl ?_
  refine lk_sld C (pc' := 1049) dL_1048 rfl ⟨by omega, by omega⟩ rfl ?_
  refine lk_callV C (pc' := 1052) (kc := 900) (E' := LAY) (cal := m_X12_index) (n := 2) (a := 74) (ci := 12) (nf := 88) (as := [vI (xs (i + 1).toNat).toInt, vI (xs (i + 2).toNat).toInt]) (S := [vI z]) dL_1049 rfl l_L_137 k_X12_index rfl (by rw [hM1]; rfl) c_X12 rfl rfl (Nat.le_of_ble_eq_true rfl) (by omega) (lay_hE hM1) hR ?_
  intro r M2 hQ
  obtain ⟨rfl, hV2⟩ := hQ
  exact lk_icmp_eq C (pc' := 1055) dL_1052 (by decide) rfl hz hz (fun _ => nx M2 hV2) (fun q => absurd rfl q)
set_option maxRecDepth 20000 in
theorem law_c29 {p : Program} {l : Launch} {e : Env} {s : State} {m : MethodId} {b : Nat} {below : List Frame} {meth : Method} {c : Code} {Ln : Nat} {xs : Nat → Int32} {G : Geo} (C : LCx p l e s m b below meth c Ln xs G) {V V' : Cpl} {i : Int} (h0 : 0 ≤ i) (h1 : i + 6 ≤ Ln) {P : Option Nat} {I : Nat → Nat → Int32} {J : Nat → Nat → Int64} (hV : V I J) (T : Step V V' m_X11_image m_X12_image []) (nx : ∀ M2, Cpl2 V' M2 → Wl p l e s m b below meth c G 1129 (LL i) [] M2) : Wl p l e s m b below meth c G 1057 (LL i) [] (mem (rv0 P) I J) := by
  refine lk_aload_n C (pc' := 1058) dL_1057 rfl rfl (j := 2) rfl ?_
  refine lk_callV C (pc' := 1061) (kc := 900) (E' := LAY) (cal := m_X11_image) (n := 0) (a := 0) (ci := 11) (nf := 12) (as := []) (S := []) dL_1058 rfl l_L_138 k_X11_image rfl rfl c_X11 rfl rfl (Nat.le_of_ble_eq_true rfl) (by omega) (lay_hE rfl) (T P I J hV) ?_
  intro r M1 hQ
  obtain ⟨z, rfl, hz, hM1, hR⟩ := hQ
  refine lk_aload_n C (pc' := 1062) dL_1061 rfl rfl (j := 1) rfl ?_
  refine lk_callV C (pc' := 1065) (kc := 900) (E' := LAY) (cal := m_X12_image) (n := 0) (a := 74) (ci := 12) (nf := 88) (as := []) (S := [vI z]) dL_1062 rfl l_L_141 k_X12_image rfl (by rw [hM1]; rfl) c_X12 rfl rfl (Nat.le_of_ble_eq_true rfl) (by omega) (lay_hE hM1) hR ?_
  intro r M2 hQ
  obtain ⟨rfl, hV2⟩ := hQ
  exact lk_icmp_eq C (pc' := 1068) dL_1065 (by decide) rfl hz hz (fun _ => nx M2 hV2) (fun q => absurd rfl q)
set_option maxRecDepth 20000 in
theorem law_c30 {p : Program} {l : Launch} {e : Env} {s : State} {m : MethodId} {b : Nat} {below : List Frame} {meth : Method} {c : Code} {Ln : Nat} {xs : Nat → Int32} {G : Geo} (C : LCx p l e s m b below meth c Ln xs G) {V V' : Cpl} {i : Int} (h0 : 0 ≤ i) (h1 : i + 6 ≤ Ln) {P : Option Nat} {I : Nat → Nat → Int32} {J : Nat → Nat → Int64} (hV : V I J) (T : Step V V' m_X11_octet m_X12_octet [(xs (i + 1).toNat).toInt]) (nx : ∀ M2, Cpl2 V' M2 → Wl p l e s m b below meth c G 1129 (LL i) [] M2) : Wl p l e s m b below meth c G 1070 (LL i) [] (mem (rv0 P) I J) := by
  refine lk_aload_n C (pc' := 1071) dL_1070 rfl rfl (j := 2) rfl ?_
  refine lk_aload_n C (pc' := 1072) dL_1071 rfl rfl (j := 3) rfl ?_
  refine lk_iload_n C (pc' := 1073) dL_1072 rfl rfl (j := 0) rfl ?_
  refine lk_iconst C (pc' := 1074) dL_1073 rfl ?_
  refine lk_iadd C (pc' := 1075) dL_1074 rfl ?_
  refine lk_sld C (pc' := 1076) dL_1075 rfl ⟨by omega, by omega⟩ rfl ?_
  refine lk_callV C (pc' := 1079) (kc := 900) (E' := LAY) (cal := m_X11_octet) (n := 1) (a := 0) (ci := 11) (nf := 12) (as := [vI (xs (i + 1).toNat).toInt]) (S := []) dL_1076 rfl l_L_142 k_X11_octet rfl rfl c_X11 rfl rfl (Nat.le_of_ble_eq_true rfl) (by omega) (lay_hE rfl) (T P I J hV) ?_
  intro r M1 hQ
  obtain ⟨z, rfl, hz, hM1, hR⟩ := hQ
  refine lk_aload_n C (pc' := 1080) dL_1079 rfl rfl (j := 1) rfl ?_
  refine lk_aload_n C (pc' := 1081) dL_1080 rfl rfl (j := 3) rfl ?_
  refine lk_iload_n C (pc' := 1082) dL_1081 rfl rfl (j := 0) rfl ?_
  refine lk_iconst C (pc' := 1083) dL_1082 rfl ?_
  refine lk_iadd C (pc' := 1084) dL_1083 rfl ?_
  refine lk_sld C (pc' := 1085) dL_1084 rfl ⟨by omega, by omega⟩ rfl ?_
  refine lk_callV C (pc' := 1088) (kc := 900) (E' := LAY) (cal := m_X12_octet) (n := 1) (a := 74) (ci := 12) (nf := 88) (as := [vI (xs (i + 1).toNat).toInt]) (S := [vI z]) dL_1085 rfl l_L_145 k_X12_octet rfl (by rw [hM1]; rfl) c_X12 rfl rfl (Nat.le_of_ble_eq_true rfl) (by omega) (lay_hE hM1) hR ?_
  intro r M2 hQ
  obtain ⟨rfl, hV2⟩ := hQ
  exact lk_icmp_eq C (pc' := 1091) dL_1088 (by decide) rfl hz hz (fun _ => nx M2 hV2) (fun q => absurd rfl q)
set_option maxRecDepth 20000 in
theorem law_c31 {p : Program} {l : Launch} {e : Env} {s : State} {m : MethodId} {b : Nat} {below : List Frame} {meth : Method} {c : Code} {Ln : Nat} {xs : Nat → Int32} {G : Geo} (C : LCx p l e s m b below meth c Ln xs G) {V V' : Cpl} {i : Int} (h0 : 0 ≤ i) (h1 : i + 6 ≤ Ln) {P : Option Nat} {I : Nat → Nat → Int32} {J : Nat → Nat → Int64} (hV : V I J) (T : Step V V' m_X11_on m_X12_on []) (nx : ∀ M2, Cpl2 V' M2 → Wl p l e s m b below meth c G 1129 (LL i) [] M2) : Wl p l e s m b below meth c G 1093 (LL i) [] (mem (rv0 P) I J) := by
  refine lk_aload_n C (pc' := 1094) dL_1093 rfl rfl (j := 2) rfl ?_
  refine lk_callV C (pc' := 1097) (kc := 900) (E' := LAY) (cal := m_X11_on) (n := 0) (a := 0) (ci := 11) (nf := 12) (as := []) (S := []) dL_1094 rfl l_L_146 k_X11_on rfl rfl c_X11 rfl rfl (Nat.le_of_ble_eq_true rfl) (by omega) (lay_hE rfl) (T P I J hV) ?_
  intro r M1 hQ
  obtain ⟨z, rfl, hz, hM1, hR⟩ := hQ
  refine lk_aload_n C (pc' := 1098) dL_1097 rfl rfl (j := 1) rfl ?_
  refine lk_callV C (pc' := 1101) (kc := 900) (E' := LAY) (cal := m_X12_on) (n := 0) (a := 74) (ci := 12) (nf := 88) (as := []) (S := [vI z]) dL_1098 rfl l_L_149 k_X12_on rfl (by rw [hM1]; rfl) c_X12 rfl rfl (Nat.le_of_ble_eq_true rfl) (by omega) (lay_hE hM1) hR ?_
  intro r M2 hQ
  obtain ⟨rfl, hV2⟩ := hQ
  exact lk_icmp_eq C (pc' := 1104) dL_1101 (by decide) rfl hz hz (fun _ => nx M2 hV2) (fun q => absurd rfl q)
set_option maxRecDepth 20000 in
theorem law_c32 {p : Program} {l : Launch} {e : Env} {s : State} {m : MethodId} {b : Nat} {below : List Frame} {meth : Method} {c : Code} {Ln : Nat} {xs : Nat → Int32} {G : Geo} (C : LCx p l e s m b below meth c Ln xs G) {V V' : Cpl} {i : Int} (h0 : 0 ≤ i) (h1 : i + 6 ≤ Ln) {P : Option Nat} {I : Nat → Nat → Int32} {J : Nat → Nat → Int64} (hV : V I J) (T : Step V V' m_X11_status m_X12_status [(xs (i + 1).toNat).toInt]) (nx : ∀ M2, Cpl2 V' M2 → Wl p l e s m b below meth c G 1129 (LL i) [] M2) : Wl p l e s m b below meth c G 1106 (LL i) [] (mem (rv0 P) I J) := by
  refine lk_aload_n C (pc' := 1107) dL_1106 rfl rfl (j := 2) rfl ?_
  refine lk_aload_n C (pc' := 1108) dL_1107 rfl rfl (j := 3) rfl ?_
  refine lk_iload_n C (pc' := 1109) dL_1108 rfl rfl (j := 0) rfl ?_
  refine lk_iconst C (pc' := 1110) dL_1109 rfl ?_
  refine lk_iadd C (pc' := 1111) dL_1110 rfl ?_
  refine lk_sld C (pc' := 1112) dL_1111 rfl ⟨by omega, by omega⟩ rfl ?_
  refine lk_callV C (pc' := 1115) (kc := 900) (E' := LAY) (cal := m_X11_status) (n := 1) (a := 0) (ci := 11) (nf := 12) (as := [vI (xs (i + 1).toNat).toInt]) (S := []) dL_1112 rfl l_L_150 k_X11_status rfl rfl c_X11 rfl rfl (Nat.le_of_ble_eq_true rfl) (by omega) (lay_hE rfl) (T P I J hV) ?_
  intro r M1 hQ
  obtain ⟨z, rfl, hz, hM1, hR⟩ := hQ
  refine lk_aload_n C (pc' := 1116) dL_1115 rfl rfl (j := 1) rfl ?_
  refine lk_aload_n C (pc' := 1117) dL_1116 rfl rfl (j := 3) rfl ?_
  refine lk_iload_n C (pc' := 1118) dL_1117 rfl rfl (j := 0) rfl ?_
  refine lk_iconst C (pc' := 1119) dL_1118 rfl ?_
  refine lk_iadd C (pc' := 1120) dL_1119 rfl ?_
  refine lk_sld C (pc' := 1121) dL_1120 rfl ⟨by omega, by omega⟩ rfl ?_
  refine lk_callV C (pc' := 1124) (kc := 900) (E' := LAY) (cal := m_X12_status) (n := 1) (a := 74) (ci := 12) (nf := 88) (as := [vI (xs (i + 1).toNat).toInt]) (S := [vI z]) dL_1121 rfl l_L_153 k_X12_status rfl (by rw [hM1]; rfl) c_X12 rfl rfl (Nat.le_of_ble_eq_true rfl) (by omega) (lay_hE hM1) hR ?_
  intro r M2 hQ
  obtain ⟨rfl, hV2⟩ := hQ
  exact lk_icmp_eq C (pc' := 1127) dL_1124 (by decide) rfl hz hz (fun _ => nx M2 hV2) (fun q => absurd rfl q)
theorem and63 (x : Int) : 0 ≤ and32 x 63 ∧ and32 x 63 ≤ 63 := by
  have h : (iI x &&& iI 63).toBitVec.toNat ≤ 63 := by
    have e : (iI x &&& iI 63).toBitVec = (iI x).toBitVec &&& (iI 63).toBitVec := rfl
    have e2 : (iI 63).toBitVec.toNat = 63 := by decide
    rw [e, BitVec.toNat_and, e2]
    exact Nat.and_le_right
  have e : and32 x 63 = ((iI x &&& iI 63).toBitVec.toNat : Int) := BitVec.toInt_eq_toNat_of_lt (by omega)
  rw [e]
  omega
set_option maxRecDepth 20000 in
set_option maxHeartbeats 4000000 in
theorem law_sw {p : Program} {l : Launch} {e : Env} {s : State} {m : MethodId} {b : Nat} {below : List Frame} {meth : Method} {c : Code} {Ln : Nat} {xs : Nat → Int32} {G : Geo} (C : LCx p l e s m b below meth c Ln xs G) {V V' : Cpl} (hm : ∀ I J, V I J → V' I J) (T : Steps V V') {i : Int} (h0 : 0 ≤ i) (h1 : i + 6 ≤ Ln) {P : Option Nat} {I : Nat → Nat → Int32} {J : Nat → Nat → Int64} (hV : V I J) (nx : ∀ M2, Cpl2 V' M2 → Wl p l e s m b below meth c G 1129 (LL i) [] M2) (z : Int) (hz : 0 ≤ z ∧ z ≤ 63) : Wl p l e s m b below meth c G 33 (LL i) [vI z] (mem (rv0 P) I J) := by
    by_cases q0 : z = 0
    · subst q0
      exact lk_tblIn C (pc' := 180) (off := 147) dL_33 (by decide) (by decide) rfl (by decide) (law_c0 C h0 h1 hV (T.1 _ _ _ _ _ (i32_in _) (i32_in _) (i32_in _) (i32_in _) (i32_in _)) nx)
    by_cases q1 : z = 1
    · subst q1
      exact lk_tblIn C (pc' := 243) (off := 210) dL_33 (by decide) (by decide) rfl (by decide) (law_c1 C h0 h1 hV (T.2.1 _ (i32_in _)) nx)
    by_cases q2 : z = 2
    · subst q2
      exact lk_tblIn C (pc' := 266) (off := 233) dL_33 (by decide) (by decide) rfl (by decide) (law_c2 C h0 h1 hV (T.2.2.1 ) nx)
    by_cases q3 : z = 3
    · subst q3
      exact lk_tblIn C (pc' := 279) (off := 246) dL_33 (by decide) (by decide) rfl (by decide) (law_c3 C h0 h1 hV (T.2.2.2.1 _ (i32_in _)) nx)
    by_cases q4 : z = 4
    · subst q4
      exact lk_tblIn C (pc' := 302) (off := 269) dL_33 (by decide) (by decide) rfl (by decide) (law_c4 C h0 h1 hV (T.2.2.2.2.1 _ (i32_in _)) nx)
    by_cases q5 : z = 5
    · subst q5
      exact lk_tblIn C (pc' := 325) (off := 292) dL_33 (by decide) (by decide) rfl (by decide) (law_c5 C h0 h1 hV (T.2.2.2.2.2.1 _ _ _ (i32_in _) (i32_in _) (i32_in _)) nx)
    by_cases q6 : z = 6
    · subst q6
      exact lk_tblIn C (pc' := 368) (off := 335) dL_33 (by decide) (by decide) rfl (by decide) (law_c6 C h0 h1 hV (T.2.2.2.2.2.2.1 _ _ (i32_in _) (i32_in _)) nx)
    by_cases q7 : z = 7
    · subst q7
      exact lk_tblIn C (pc' := 401) (off := 368) dL_33 (by decide) (by decide) rfl (by decide) (law_c7 C h0 h1 hV (T.2.2.2.2.2.2.2.1 _ _ (i32_in _) (i32_in _)) nx)
    by_cases q8 : z = 8
    · subst q8
      exact lk_tblIn C (pc' := 434) (off := 401) dL_33 (by decide) (by decide) rfl (by decide) (law_c8 C h0 h1 hV (T.2.2.2.2.2.2.2.2.1 _ _ (i32_in _) (i32_in _)) nx)
    by_cases q9 : z = 9
    · subst q9
      exact lk_tblIn C (pc' := 467) (off := 434) dL_33 (by decide) (by decide) rfl (by decide) (law_c9 C h0 h1 hV (T.2.2.2.2.2.2.2.2.2.1 _ _ (i32_in _) (i32_in _)) nx)
    by_cases q10 : z = 10
    · subst q10
      exact lk_tblIn C (pc' := 500) (off := 467) dL_33 (by decide) (by decide) rfl (by decide) (law_c10 C h0 h1 hV (T.2.2.2.2.2.2.2.2.2.2.1 _ (i32_in _)) nx)
    by_cases q11 : z = 11
    · subst q11
      exact lk_tblIn C (pc' := 523) (off := 490) dL_33 (by decide) (by decide) rfl (by decide) (law_c11 C h0 h1 hV (T.2.2.2.2.2.2.2.2.2.2.2.1 _ _ (i32_in _) (i32_in _)) nx)
    by_cases q12 : z = 12
    · subst q12
      exact lk_tblIn C (pc' := 556) (off := 523) dL_33 (by decide) (by decide) rfl (by decide) (law_c12 C h0 h1 hV (T.2.2.2.2.2.2.2.2.2.2.2.2.1 _ (i32_in _)) nx)
    by_cases q13 : z = 13
    · subst q13
      exact lk_tblIn C (pc' := 579) (off := 546) dL_33 (by decide) (by decide) rfl (by decide) (law_c13 C h0 h1 hV (T.2.2.2.2.2.2.2.2.2.2.2.2.2.1 _ _ (i32_in _) (i32_in _)) nx)
    by_cases q14 : z = 14
    · subst q14
      exact lk_tblIn C (pc' := 612) (off := 579) dL_33 (by decide) (by decide) rfl (by decide) (law_c14 C h0 h1 hV (T.2.2.2.2.2.2.2.2.2.2.2.2.2.2.1 _ _ (i32_in _) (i32_in _)) nx)
    by_cases q15 : z = 15
    · subst q15
      exact lk_tblIn C (pc' := 645) (off := 612) dL_33 (by decide) (by decide) rfl (by decide) (law_c15 C h0 h1 hV (T.2.2.2.2.2.2.2.2.2.2.2.2.2.2.2.1 _ (i32_in _)) nx)
    by_cases q16 : z = 16
    · subst q16
      exact lk_tblIn C (pc' := 668) (off := 635) dL_33 (by decide) (by decide) rfl (by decide) (law_c16 C h0 h1 hV (T.2.2.2.2.2.2.2.2.2.2.2.2.2.2.2.2.1 _ _ _ (i32_in _) (i32_in _) (i32_in _)) nx)
    by_cases q17 : z = 17
    · subst q17
      exact lk_tblIn C (pc' := 711) (off := 678) dL_33 (by decide) (by decide) rfl (by decide) (law_c17 C h0 h1 hV (T.2.2.2.2.2.2.2.2.2.2.2.2.2.2.2.2.2.1 ) nx)
    by_cases q18 : z = 18
    · subst q18
      exact lk_tblIn C (pc' := 724) (off := 691) dL_33 (by decide) (by decide) rfl (by decide) (law_c18 C h0 h1 hV (T.2.2.2.2.2.2.2.2.2.2.2.2.2.2.2.2.2.2.1 _ (i32_in _)) nx)
    by_cases q19 : z = 19
    · subst q19
      exact lk_tblIn C (pc' := 747) (off := 714) dL_33 (by decide) (by decide) rfl (by decide) (law_c19 C h0 h1 hV (T.2.2.2.2.2.2.2.2.2.2.2.2.2.2.2.2.2.2.2.1 ) nx)
    by_cases q20 : z = 20
    · subst q20
      exact lk_tblIn C (pc' := 760) (off := 727) dL_33 (by decide) (by decide) rfl (by decide) (law_c20 C h0 h1 hV (T.2.2.2.2.2.2.2.2.2.2.2.2.2.2.2.2.2.2.2.2.1 _ (i32_in _)) nx)
    by_cases q21 : z = 21
    · subst q21
      exact lk_tblIn C (pc' := 783) (off := 750) dL_33 (by decide) (by decide) rfl (by decide) (law_c21 C h0 h1 hV (T.2.2.2.2.2.2.2.2.2.2.2.2.2.2.2.2.2.2.2.2.2.1 _ _ (i32_in _) (i32_in _)) nx)
    by_cases q22 : z = 22
    · subst q22
      exact lk_tblIn C (pc' := 816) (off := 783) dL_33 (by decide) (by decide) rfl (by decide) (law_c22 C h0 h1 hV (T.2.2.2.2.2.2.2.2.2.2.2.2.2.2.2.2.2.2.2.2.2.2.1 _ _ _ (i32_in _) (i32_in _) (i32_in _)) nx)
    by_cases q23 : z = 23
    · subst q23
      exact lk_tblIn C (pc' := 859) (off := 826) dL_33 (by decide) (by decide) rfl (by decide) (law_c23 C h0 h1 hV (T.2.2.2.2.2.2.2.2.2.2.2.2.2.2.2.2.2.2.2.2.2.2.2.1 _ (i32_in _)) nx)
    by_cases q24 : z = 24
    · subst q24
      exact lk_tblIn C (pc' := 882) (off := 849) dL_33 (by decide) (by decide) rfl (by decide) (law_c24 C h0 h1 hV (T.2.2.2.2.2.2.2.2.2.2.2.2.2.2.2.2.2.2.2.2.2.2.2.2.1 _ _ (i32_in _) (i32_in _)) nx)
    by_cases q25 : z = 25
    · subst q25
      exact lk_tblIn C (pc' := 915) (off := 882) dL_33 (by decide) (by decide) rfl (by decide) (law_c25 C h0 h1 hV (T.2.2.2.2.2.2.2.2.2.2.2.2.2.2.2.2.2.2.2.2.2.2.2.2.2.1 _ (i32_in _)) nx)
    by_cases q26 : z = 26
    · subst q26
      exact lk_tblIn C (pc' := 938) (off := 905) dL_33 (by decide) (by decide) rfl (by decide) (law_c26 C h0 h1 hV (T.2.2.2.2.2.2.2.2.2.2.2.2.2.2.2.2.2.2.2.2.2.2.2.2.2.2.1 _ _ _ (i32_in _) (i32_in _) (i32_in _)) nx)
    by_cases q27 : z = 27
    · subst q27
      exact lk_tblIn C (pc' := 981) (off := 948) dL_33 (by decide) (by decide) rfl (by decide) (law_c27 C h0 h1 hV (T.2.2.2.2.2.2.2.2.2.2.2.2.2.2.2.2.2.2.2.2.2.2.2.2.2.2.2.1 _ _ _ (i32_in _) (i32_in _) (i32_in _)) nx)
    by_cases q28 : z = 28
    · subst q28
      exact lk_tblIn C (pc' := 1024) (off := 991) dL_33 (by decide) (by decide) rfl (by decide) (law_c28 C h0 h1 hV (T.2.2.2.2.2.2.2.2.2.2.2.2.2.2.2.2.2.2.2.2.2.2.2.2.2.2.2.2.1 _ _ (i32_in _) (i32_in _)) nx)
    by_cases q29 : z = 29
    · subst q29
      exact lk_tblIn C (pc' := 1057) (off := 1024) dL_33 (by decide) (by decide) rfl (by decide) (law_c29 C h0 h1 hV (T.2.2.2.2.2.2.2.2.2.2.2.2.2.2.2.2.2.2.2.2.2.2.2.2.2.2.2.2.2.1 ) nx)
    by_cases q30 : z = 30
    · subst q30
      exact lk_tblIn C (pc' := 1070) (off := 1037) dL_33 (by decide) (by decide) rfl (by decide) (law_c30 C h0 h1 hV (T.2.2.2.2.2.2.2.2.2.2.2.2.2.2.2.2.2.2.2.2.2.2.2.2.2.2.2.2.2.2.1 _ (i32_in _)) nx)
    by_cases q31 : z = 31
    · subst q31
      exact lk_tblIn C (pc' := 1093) (off := 1060) dL_33 (by decide) (by decide) rfl (by decide) (law_c31 C h0 h1 hV (T.2.2.2.2.2.2.2.2.2.2.2.2.2.2.2.2.2.2.2.2.2.2.2.2.2.2.2.2.2.2.2.1 ) nx)
    by_cases q32 : z = 32
    · subst q32
      exact lk_tblIn C (pc' := 1106) (off := 1073) dL_33 (by decide) (by decide) rfl (by decide) (law_c32 C h0 h1 hV (T.2.2.2.2.2.2.2.2.2.2.2.2.2.2.2.2.2.2.2.2.2.2.2.2.2.2.2.2.2.2.2.2 _ (i32_in _)) nx)
    refine lk_tblOut C (pc' := 1129) dL_33 ⟨by omega, by omega⟩ (Or.inr (by omega)) (by decide) (nx _ (Or.inl ⟨P, I, J, rfl, hm _ _ hV⟩))
theorem law_end {p : Program} {l : Launch} {e : Env} {s : State} {m : MethodId} {b : Nat} {below : List Frame} {meth : Method} {c : Code} {Ln : Nat} {xs : Nat → Int32} {G : Geo} (C : LCx p l e s m b below meth c Ln xs G) {L : List (Nat × AV)} {M : Mem} : Wl p l e s m b below meth c G 1135 L [] M := by
  refine lk_iconst C (pc' := 1136) dL_1135 rfl ?_
  exact lk_ret (pc' := 0) (S := []) C dL_1136
theorem law_loop {p : Program} {l : Launch} {e : Env} {s : State} {m : MethodId} {b : Nat} {below : List Frame} {meth : Method} {c : Code} {Ln : Nat} {xs : Nat → Int32} {V : Nat → Cpl} (hm : ∀ n I J, V n I J → V (n + 6) I J) (T : ∀ n, n ≤ 3072 → Steps (V n) (V (n + 6))) (hLn : Ln ≤ 3072) : ∀ (d : Nat) {G : Geo} (C : LCx p l e s m b below meth c Ln xs G) (i : Nat), Ln ≤ i + 6 * d → ∀ {P : Option Nat} {I : Nat → Nat → Int32} {J : Nat → Nat → Int64}, V i I J → i ≤ 3072 → Wl p l e s m b below meth c G 18 (LL (i : Int)) [] (mem (rv0 P) I J) := by
  intro d
  induction d with
  | zero =>
    intro G C i hi P I J hV hi2
    refine lk_iload_n C (pc' := 19) dL_18 rfl rfl (j := 0) rfl ?_
    refine lk_aload_n C (pc' := 20) dL_19 rfl rfl (j := 3) rfl ?_
    refine lk_slen C (pc' := 21) dL_20 rfl ?_
    refine lk_bipush C (pc' := 23) dL_21 rfl (by decide) ?_
    refine lk_isub C (pc' := 24) dL_23 rfl ?_
    exact lk_icmp_gt C (pc' := 27) (tg := 1135) dL_24 (by decide) rfl ⟨by omega, by omega⟩ ⟨by omega, by omega⟩ (fun _ => law_end C) (fun q => absurd (show (Ln : Int) - 6 < i by omega) q)
  | succ d ih =>
    intro G C i hi P I J hV hi2
    refine lk_iload_n C (pc' := 19) dL_18 rfl rfl (j := 0) rfl ?_
    refine lk_aload_n C (pc' := 20) dL_19 rfl rfl (j := 3) rfl ?_
    refine lk_slen C (pc' := 21) dL_20 rfl ?_
    refine lk_bipush C (pc' := 23) dL_21 rfl (by decide) ?_
    refine lk_isub C (pc' := 24) dL_23 rfl ?_
    refine lk_icmp_gt C (pc' := 27) (tg := 1135) dL_24 (by decide) rfl ⟨by omega, by omega⟩ ⟨by omega, by omega⟩ (fun _ => law_end C) (fun q => ?_)
    have hb : (i : Int) + 6 ≤ Ln := by omega
    refine lk_aload_n C (pc' := 28) dL_27 rfl rfl (j := 3) rfl ?_
    refine lk_iload_n C (pc' := 29) dL_28 rfl rfl (j := 0) rfl ?_
    refine lk_sld C (pc' := 30) dL_29 rfl ⟨by omega, by omega⟩ rfl ?_
    refine lk_bipush C (pc' := 32) dL_30 rfl (by decide) ?_
    refine lk_iand C (pc' := 33) (z := and32 (xs ((i : Int)).toNat).toInt 63) dL_32 rfl rfl ?_
    refine law_sw C (hm i) (T i hi2) (by omega) hb hV (fun M2 hM2 => ?_) _ (and63 _)
    have e6 : ((i + 6 : Nat) : Int) = (i : Int) + 6 := by omega
    rcases hM2 with ⟨P', I', J', rfl, hV'⟩ | ⟨P', I', J', rfl, hV'⟩
    · refine lk_iinc C (pc' := 1132) dL_1129 rfl (by decide) (j := 0) rfl rfl ?_
      refine lk_goto C (pc' := 18) dL_1132 (by decide) ?_
      have h := ih C (i + 6) (by omega) (P := P') hV' (by omega)
      rw [e6] at h
      exact h
    · refine Wl_sw (Ln := Ln) (xs := xs) ?_
      refine lk_iinc C.sw (pc' := 1132) dL_1129 rfl (by decide) (j := 0) rfl rfl ?_
      refine lk_goto C.sw (pc' := 18) dL_1132 (by decide) ?_
      have h := ih C.sw (i + 6) (by omega) (P := P'.map sg) hV' (by omega)
      rw [e6] at h
      exact h
/-- both constructors, and then the loop -/
theorem rc_rf : (List.range 132).all (fun c => decide ((LAY.getD c (0, 0)).1 < 3) || (List.range (LAY.getD c (0, 0)).2).all (fun k => decide (RF (none, some 5, some 22) c k = RC_276 c k))) = true := by decide +kernel
theorem law_go {p : Program} {l : Launch} {e : Env} {s : State} {m : MethodId} {b : Nat} {below : List Frame} {meth : Method} {c : Code} {Ln : Nat} {xs : Nat → Int32} {V : Nat → Cpl} (hm : ∀ n I J, V n I J → V (n + 6) I J) (T : ∀ n, n ≤ 3072 → Steps (V n) (V (n + 6))) (hLn : Ln ≤ 3072) {G : Geo} (C : LCx p l e s m b below meth c Ln xs G) (hV : V 0 IC_197 JC_134) : Wl p l e s m b below meth c G 0 [(0, vR (some 1000005))] [] MC_0 := by
  refine lk_new C (pc' := 3) (q := 0) (M' := MC_1) dL_0 rfl c_X11 n_L_7 i_X11 (by decide +kernel) (by decide +kernel) rfl rfl ?_
  refine lk_dup C (pc' := 4) dL_3 rfl rfl ?_
  refine lk_callI C (pc' := 7) (kc := 900) (E' := LAY.take 74) (cal := m_X11_init) (n := 0) (as := []) (S := [vR (some 0)]) (Q1 := fun r M' => r = none ∧ M' = MC_193) dL_4 rfl l_L_9 k_X11_init rfl rfl rfl rfl (Nat.le_of_ble_eq_true rfl) (by omega) (by decide +kernel) (K_X11_init_0 (by omega) ⟨rfl, rfl⟩) (fun r M' q => ?_)
  obtain ⟨rfl, rfl⟩ := q
  refine lk_astore_n C (pc' := 8) (L' := [(1, vR (some 0)), (0, vR (some 1000005))]) dL_7 rfl rfl (by decide) rfl ?_
  refine lk_new C (pc' := 11) (q := 74) (M' := MC_194) dL_8 rfl c_X12 n_L_10 i_X12 (by decide +kernel) (by decide +kernel) rfl rfl ?_
  refine lk_dup C (pc' := 12) dL_11 rfl rfl ?_
  refine lk_callI C (pc' := 15) (kc := 900) (E' := LAY.take 132) (cal := m_X12_init) (n := 0) (as := []) (S := [vR (some 74)]) (Q1 := fun r M' => r = none ∧ M' = MC_343) dL_12 rfl l_L_12 k_X12_init rfl rfl rfl rfl (Nat.le_of_ble_eq_true rfl) (by omega) (by decide +kernel) (K_X12_init_0 (by omega) ⟨rfl, rfl⟩) (fun r M' q => ?_)
  obtain ⟨rfl, rfl⟩ := q
  refine lk_astore_n C (pc' := 16) (L' := [(2, vR (some 74)), (1, vR (some 0)), (0, vR (some 1000005))]) dL_15 rfl rfl (by decide) rfl ?_
  refine lk_iconst C (pc' := 17) dL_16 rfl ?_
  refine lk_istore_n C (pc' := 18) (L' := LL 0) dL_17 rfl rfl (by decide) rfl ?_
  have h := law_loop hm T hLn Ln C 0 (by omega) (P := none) hV (by omega)
  intro H locs cells slots ls hH hS h1 h2 h3 hl
  have e : LAY.take 132 = LAY := by decide +kernel
  have hM : MC_343 = (LAY, IC_197, JC_134, RC_276) := by unfold MC_343; rw [e]
  rw [hM] at hH h1 h2 h3
  refine h H locs cells slots ls (Hd_refs (R := RC_276) (fun c ci n k hc ht hk => ?_) hH) hS h1 h2 h3 hl
  rw [lay_len] at hc
  have hh := all_at rc_rf hc
  rw [ht] at hh
  rcases Bool.or_eq_true_iff.mp hh with q | q
  · exact absurd (of_decide_eq_true q) (by show ¬ ci + 3 < 3; omega)
  · exact of_decide_eq_true (all_at q hk)
end LAWW

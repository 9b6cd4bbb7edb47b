section STORES
theorem vs_self {A : Nat → Prop} {H0 H : Heap} {locs : List Loc} (h : va_S A H0 H locs) : va_S A H H locs := ⟨Nat.le_refl _, fun _ _ _ => rfl, h.2.2⟩
theorem vs_tr {A : Nat → Prop} {H0 H H1 : Heap} {locs locs1 : List Loc} (h : va_S A H0 H locs) (h1 : va_S A H H1 locs1) : va_S A H0 H1 locs1 := ⟨Nat.le_trans h.1 h1.1, fun q g1 g2 => (h1.2.1 q (Nat.lt_of_lt_of_le g1 h.1) g2).trans (h.2.1 q g1 g2), h1.2.2⟩
theorem W_sz {p : Program} {l : Launch} {e : Env} {R : Room} {s : State} {m : MethodId} {args : Array Value} {below : List Frame} {meth : Method} {c : Code} {H : Heap} {locs : List Loc} {cells slots : Nat} {Z : State → Prop} {g : JFrame} (h : H.size ≤ s.heap.size + cells → W p l e R s m args below meth c H locs cells slots Z g) : W p l e R s m args below meth c H locs cells slots Z g := fun T hT X => h (by rw [← hT]; exact X.heapSize) T hT X
theorem Hd.put {p : Program} {l : Launch} {e : Env} {R : Room} {s : State} {m : MethodId} {args : Array Value} {below : List Frame} {meth : Method} {c : Code} {G : Geo} {n0 z0 k : Nat} {E : List LT} {md : MD} {M M' : Mem} {H H1 : Heap} {locs1 : List Loc} {cells : Nat} (hH : Hd G M H) (C : Cx p l e R s m args below meth c G n0 z0 k E md) (h1 : cells + n0 = M.1.length) (e1 : M'.1 = M.1) (hP1 : va_P (gD G) vwCl (wsC G M') H1) (hS9 : va_S (gF G) H H1 locs1) (hz : H1.size ≤ s.heap.size + cells) : Hd G M' H1 := by
  have a := hH.2.1
  have b := hS9.1
  have d := C.2.2.2.2.2.2.2.2.2.2.2.1
  exact ⟨hP1, by rw [e1]; omega, by rw [e1]; exact hH.2.2⟩
theorem Cx.ts {p : Program} {l : Launch} {e : Env} {R : Room} {s : State} {m : MethodId} {args : Array Value} {below : List Frame} {meth : Method} {c : Code} {G : Geo} {n0 z0 k : Nat} {E : List LT} {md : MD} (C : Cx p l e R s m args below meth c G n0 z0 k E md) {w : Cond} (h : w ∈ wG) : w.before args s = true := C.2.2.2.2.2.1 w (List.mem_cons_of_mem _ h)
theorem encI {G : Geo} {M M' : Mem} {c : Nat} (e1 : M'.2.1 c = M.2.1 c) (e2 : M'.2.2.1 c = M.2.2.1 c) (e3 : M'.2.2.2 c = M.2.2.2 c) (t : LT) : encC G M' c t = encC G M c t := by
  match t with
  | (0, n) => simp [encC, e1]
  | (1, n) => simp [encC, e2]
  | (2, n) => simp [encC, e1]
  | (ci + 3, n) =>
    simp only [encC, fsC]
    congr 2
    apply List.map_congr_left
    intro k _
    cases Ty ci k <;> simp [fv, e1, e2, e3]
theorem up2_ne {α : Type} (f : Nat → Nat → α) {c c' : Nat} (k : Nat) (v : α) (h : c' ≠ c) : up2 f c k v c' = f c' := by simp [up2, h]
theorem up2_eq {α : Type} (f : Nat → Nat → α) (c k : Nat) (v : α) : up2 f c k v c = fun k' => if k' = k then v else f c k' := by simp [up2]
theorem fs_get {ad : Nat → Nat} {M : Mem} {c ci n k : Nat} (h : k < n) : (fsC ad M c ci n)[k]? = some (fv ad M c k (Ty ci k)) := by simp [fsC, h]
theorem fs_set {ad : Nat → Nat} {M M' : Mem} {c ci n k : Nat} {v : Value} (hv : fv ad M' c k (Ty ci k) = v) (ho : ∀ j, j ≠ k → fv ad M' c j (Ty ci j) = fv ad M c j (Ty ci j)) : (fsC ad M c ci n).set k v = fsC ad M' c ci n := by
  apply List.ext_getElem?
  intro i
  by_cases hb : i < n
  · by_cases hi : i = k
    · subst hi
      rw [List.getElem?_set_self (by simp [fsC, hb]), fs_get hb, hv]
    · rw [List.getElem?_set_ne (fun q => hi q.symm), fs_get hb, fs_get hb, ho i hi]
  · rw [List.getElem?_eq_none (by simp [fsC]; omega), List.getElem?_eq_none (by simp [fsC]; omega)]
theorem st_getI {k : Nat} {E : List LT} {md : MD} {pc pc' : Nat} {L : List (Nat × AV)} {S : List AV} {M : Mem} {Q : Option AV → Mem → Prop} {a ci n i x : Nat} {r0 : vw_C} {z : Int} (hd : decode md.2.1 pc = .ok (.getfield x, 3)) (hp : pc + 3 = pc') (ha : M.1[a]? = some (ci + 3, n)) (hr : vwCl[ci]? = some r0) (hn : n = r0.2.2) (hi : i < n) (hl0 : Cond.fieldLink md.1.cls x (r0.2.1 i).1 (r0.2.1 i).2.1 (r0.2.1 i).2.2.1 ∈ wG) (hv : ∀ ad, fv ad M a i (Ty ci i) = .int (M.2.1 a i)) (hz : (M.2.1 a i).toInt = z) (h : WP k E md pc' L (vI z :: S) M Q) : WP k E md pc L (vR (some a) :: S) M Q := by
  intro p l e R s m args below meth c G n0 z0 C H locs cells slots ls hH hS h1 h2 h3 hl
  subst hp; subst hz; subst hn
  have hc := cl_ok ci r0 hr
  refine va_get (cc := md.2.1) (D := gD G) (cl := vwCl) (tys := gT G) (ws := wsC G M) (C := r0.1) (T := r0.2.1) (N := r0.2.2) (ci := ci) (own := md.1.cls) C.1 C.2.1 C.2.2.2.2.2.1 (fun w hw => List.mem_cons_of_mem _ (hc.1 w hw)) C.2.2.2.2.1 C.2.2.2.2.2.2.2.2.1 hH.1 a (ws_get ha) hr i hi (C.ts hl0) (fun _ q => q) ((fs_get hi).trans (congrArg some (hv (gA G)))) hd ?_
  have h9 := h p l e R s m args below meth c G n0 z0 C H locs cells slots ls hH hS h1 h2 h3 hl
  change W p l e R s m args below meth c H locs cells slots _ (F0 m (pc + 3) ls (.int (iI (M.2.1 a i).toInt) :: S.map (cv (gA G)))) at h9
  rw [iI_of] at h9
  exact h9
theorem st_getL {k : Nat} {E : List LT} {md : MD} {pc pc' : Nat} {L : List (Nat × AV)} {S : List AV} {M : Mem} {Q : Option AV → Mem → Prop} {a ci n i x : Nat} {r0 : vw_C} {z : Int} (hd : decode md.2.1 pc = .ok (.getfield x, 3)) (hp : pc + 3 = pc') (ha : M.1[a]? = some (ci + 3, n)) (hr : vwCl[ci]? = some r0) (hn : n = r0.2.2) (hi : i < n) (hl0 : Cond.fieldLink md.1.cls x (r0.2.1 i).1 (r0.2.1 i).2.1 (r0.2.1 i).2.2.1 ∈ wG) (hv : ∀ ad, fv ad M a i (Ty ci i) = .long (M.2.2.1 a i)) (hz : (M.2.2.1 a i).toInt = z) (h : WP k E md pc' L (vL z :: S) M Q) : WP k E md pc L (vR (some a) :: S) M Q := by
  intro p l e R s m args below meth c G n0 z0 C H locs cells slots ls hH hS h1 h2 h3 hl
  subst hp; subst hz; subst hn
  have hc := cl_ok ci r0 hr
  refine va_get (cc := md.2.1) (D := gD G) (cl := vwCl) (tys := gT G) (ws := wsC G M) (C := r0.1) (T := r0.2.1) (N := r0.2.2) (ci := ci) (own := md.1.cls) C.1 C.2.1 C.2.2.2.2.2.1 (fun w hw => List.mem_cons_of_mem _ (hc.1 w hw)) C.2.2.2.2.1 C.2.2.2.2.2.2.2.2.1 hH.1 a (ws_get ha) hr i hi (C.ts hl0) (fun _ q => q) ((fs_get hi).trans (congrArg some (hv (gA G)))) hd ?_
  have h9 := h p l e R s m args below meth c G n0 z0 C H locs cells slots ls hH hS h1 h2 h3 hl
  change W p l e R s m args below meth c H locs cells slots _ (F0 m (pc + 3) ls (.long (iL (M.2.2.1 a i).toInt) :: S.map (cv (gA G)))) at h9
  rw [iL_of] at h9
  exact h9
theorem st_getR {k : Nat} {E : List LT} {md : MD} {pc pc' : Nat} {L : List (Nat × AV)} {S : List AV} {M : Mem} {Q : Option AV → Mem → Prop} {a ci n i x : Nat} {r0 : vw_C} {r : Option Nat} (hd : decode md.2.1 pc = .ok (.getfield x, 3)) (hp : pc + 3 = pc') (ha : M.1[a]? = some (ci + 3, n)) (hr : vwCl[ci]? = some r0) (hn : n = r0.2.2) (hi : i < n) (hl0 : Cond.fieldLink md.1.cls x (r0.2.1 i).1 (r0.2.1 i).2.1 (r0.2.1 i).2.2.1 ∈ wG) (hv : ∀ ad, fv ad M a i (Ty ci i) = va_rf ((M.2.2.2 a i).map ad)) (hz : M.2.2.2 a i = r) (h : WP k E md pc' L (vR r :: S) M Q) : WP k E md pc L (vR (some a) :: S) M Q := by
  intro p l e R s m args below meth c G n0 z0 C H locs cells slots ls hH hS h1 h2 h3 hl
  subst hp; subst hz; subst hn
  have hc := cl_ok ci r0 hr
  refine va_get (cc := md.2.1) (D := gD G) (cl := vwCl) (tys := gT G) (ws := wsC G M) (C := r0.1) (T := r0.2.1) (N := r0.2.2) (ci := ci) (own := md.1.cls) C.1 C.2.1 C.2.2.2.2.2.1 (fun w hw => List.mem_cons_of_mem _ (hc.1 w hw)) C.2.2.2.2.1 C.2.2.2.2.2.2.2.2.1 hH.1 a (ws_get ha) hr i hi (C.ts hl0) (fun _ q => q) ((fs_get hi).trans (congrArg some (hv (gA G)))) hd ?_
  have h9 := h p l e R s m args below meth c G n0 z0 C H locs cells slots ls hH hS h1 h2 h3 hl
  change W p l e R s m args below meth c H locs cells slots _ (F0 m (pc + 3) ls (va_rf ((M.2.2.2 a i).map (gA G)) :: S.map (cv (gA G)))) at h9
  skip
  exact h9
theorem st_putI {k : Nat} {E : List LT} {md : MD} {pc pc' : Nat} {L : List (Nat × AV)} {S : List AV} {M : Mem} {Q : Option AV → Mem → Prop} {a ci n i x : Nat} {r0 : vw_C} {M' : Mem} {z : Int} (hd : decode md.2.1 pc = .ok (.putfield x, 3)) (hp : pc + 3 = pc') (ha : M.1[a]? = some (ci + 3, n)) (hr : vwCl[ci]? = some r0) (hn : n = r0.2.2) (hi : i < n) (hf : (r0.2.1 i).2.2.2 = false) (hl0 : Cond.fieldLink md.1.cls x (r0.2.1 i).1 (r0.2.1 i).2.1 (r0.2.1 i).2.2.1 ∈ wG) (ht : Ty ci i = .int) (hM : seI M a i (iI z) = M') (h : WP k E md pc' L S M' Q) : WP k E md pc L (vI z :: vR (some a) :: S) M Q := by
  intro p l e R s m args below meth c G n0 z0 C H locs cells slots ls hH hS h1 h2 h3 hl
  subst hp; subst hM; subst hn
  have hc := cl_ok ci r0 hr
  have hD : va_D (gF G) (wsC G M) := hH.2.2.D
  refine va_put (cc := md.2.1) (D := gD G) (cl := vwCl) (tys := gT G) (ws := wsC G M) (C := r0.1) (T := r0.2.1) (N := r0.2.2) (ci := ci) (own := md.1.cls) (v := .int (iI z)) C.1 C.2.1 C.2.2.2.2.2.1 (fun w hw => List.mem_cons_of_mem _ (hc.1 w hw)) (Ty ci) hc.2.1 hc.2.2.1 C.2.2.2.2.1 C.2.2.2.2.2.2.2.2.1 hH.1 hD (vs_self hS) a (ws_get ha) hr i hi (C.ts hl0) (fun _ q => q) hf (ty := Ty ci i) (hc.2.1 i hi) (by rw [ht]; rfl) (by rw [ht]; rfl) (by simp [fsC, hi]) hd (fun H1 locs1 hP1 hD1 hS9 => W_sz (fun hz9 => ?_))
  rw [fs_set (M' := seI M a i (iI z)) (by rw [ht]; simp [fv, seI, up2, va_rf]) (fun j hj => by cases Ty ci j <;> simp [fv, seI, up2, hj])] at hP1
  have e9 := ws_set (G := G) (M' := seI M a i (iI z)) ha rfl (fun c' hc' t => encI (by simp [seI, up2, hc']) (by simp [seI, up2, hc']) (by simp [seI, up2, hc']) t)
  change va_P _ _ ((wsC G M).set a (gA G a, encC G (seI M a i (iI z)) a (ci + 3, r0.2.2))) H1 at hP1
  rw [e9] at hP1
  exact h p l e R s m args below meth c G n0 z0 C H1 locs1 cells slots ls (hH.put C h1 rfl hP1 hS9 hz9) (vs_tr hS hS9) h1 h2 h3 hl
theorem st_putL {k : Nat} {E : List LT} {md : MD} {pc pc' : Nat} {L : List (Nat × AV)} {S : List AV} {M : Mem} {Q : Option AV → Mem → Prop} {a ci n i x : Nat} {r0 : vw_C} {M' : Mem} {z : Int} (hd : decode md.2.1 pc = .ok (.putfield x, 3)) (hp : pc + 3 = pc') (ha : M.1[a]? = some (ci + 3, n)) (hr : vwCl[ci]? = some r0) (hn : n = r0.2.2) (hi : i < n) (hf : (r0.2.1 i).2.2.2 = false) (hl0 : Cond.fieldLink md.1.cls x (r0.2.1 i).1 (r0.2.1 i).2.1 (r0.2.1 i).2.2.1 ∈ wG) (ht : Ty ci i = .long) (hM : seL M a i (iL z) = M') (h : WP k E md pc' L S M' Q) : WP k E md pc L (vL z :: vR (some a) :: S) M Q := by
  intro p l e R s m args below meth c G n0 z0 C H locs cells slots ls hH hS h1 h2 h3 hl
  subst hp; subst hM; subst hn
  have hc := cl_ok ci r0 hr
  have hD : va_D (gF G) (wsC G M) := hH.2.2.D
  refine va_put (cc := md.2.1) (D := gD G) (cl := vwCl) (tys := gT G) (ws := wsC G M) (C := r0.1) (T := r0.2.1) (N := r0.2.2) (ci := ci) (own := md.1.cls) (v := .long (iL z)) C.1 C.2.1 C.2.2.2.2.2.1 (fun w hw => List.mem_cons_of_mem _ (hc.1 w hw)) (Ty ci) hc.2.1 hc.2.2.1 C.2.2.2.2.1 C.2.2.2.2.2.2.2.2.1 hH.1 hD (vs_self hS) a (ws_get ha) hr i hi (C.ts hl0) (fun _ q => q) hf (ty := Ty ci i) (hc.2.1 i hi) (by rw [ht]; rfl) (by rw [ht]; rfl) (by simp [fsC, hi]) hd (fun H1 locs1 hP1 hD1 hS9 => W_sz (fun hz9 => ?_))
  rw [fs_set (M' := seL M a i (iL z)) (by rw [ht]; simp [fv, seL, up2, va_rf]) (fun j hj => by cases Ty ci j <;> simp [fv, seL, up2, hj])] at hP1
  have e9 := ws_set (G := G) (M' := seL M a i (iL z)) ha rfl (fun c' hc' t => encI (by simp [seL, up2, hc']) (by simp [seL, up2, hc']) (by simp [seL, up2, hc']) t)
  change va_P _ _ ((wsC G M).set a (gA G a, encC G (seL M a i (iL z)) a (ci + 3, r0.2.2))) H1 at hP1
  rw [e9] at hP1
  exact h p l e R s m args below meth c G n0 z0 C H1 locs1 cells slots ls (hH.put C h1 rfl hP1 hS9 hz9) (vs_tr hS hS9) h1 h2 h3 hl
theorem st_putZ {k : Nat} {E : List LT} {md : MD} {pc pc' : Nat} {L : List (Nat × AV)} {S : List AV} {M : Mem} {Q : Option AV → Mem → Prop} {a ci n i x : Nat} {r0 : vw_C} {M' : Mem} {z : Int} (hd : decode md.2.1 pc = .ok (.putfield x, 3)) (hp : pc + 3 = pc') (ha : M.1[a]? = some (ci + 3, n)) (hr : vwCl[ci]? = some r0) (hn : n = r0.2.2) (hi : i < n) (hf : (r0.2.1 i).2.2.2 = false) (hl0 : Cond.fieldLink md.1.cls x (r0.2.1 i).1 (r0.2.1 i).2.1 (r0.2.1 i).2.2.1 ∈ wG) (ht : Ty ci i = .boolean) (hz : z = 0 ∨ z = 1) (hM : seI M a i (iI z) = M') (h : WP k E md pc' L S M' Q) : WP k E md pc L (vI z :: vR (some a) :: S) M Q := by
  intro p l e R s m args below meth c G n0 z0 C H locs cells slots ls hH hS h1 h2 h3 hl
  subst hp; subst hM; subst hn
  have hc := cl_ok ci r0 hr
  have hD : va_D (gF G) (wsC G M) := hH.2.2.D
  refine va_put (cc := md.2.1) (D := gD G) (cl := vwCl) (tys := gT G) (ws := wsC G M) (C := r0.1) (T := r0.2.1) (N := r0.2.2) (ci := ci) (own := md.1.cls) (v := .int (iI z)) C.1 C.2.1 C.2.2.2.2.2.1 (fun w hw => List.mem_cons_of_mem _ (hc.1 w hw)) (Ty ci) hc.2.1 hc.2.2.1 C.2.2.2.2.1 C.2.2.2.2.2.2.2.2.1 hH.1 hD (vs_self hS) a (ws_get ha) hr i hi (C.ts hl0) (fun _ q => q) hf (ty := Ty ci i) (hc.2.1 i hi) (by rw [ht]; rcases hz with rfl | rfl <;> decide) (by rw [ht]; rcases hz with rfl | rfl <;> decide) (by simp [fsC, hi]) hd (fun H1 locs1 hP1 hD1 hS9 => W_sz (fun hz9 => ?_))
  rw [fs_set (M' := seI M a i (iI z)) (by rw [ht]; simp [fv, seI, up2, va_rf]) (fun j hj => by cases Ty ci j <;> simp [fv, seI, up2, hj])] at hP1
  have e9 := ws_set (G := G) (M' := seI M a i (iI z)) ha rfl (fun c' hc' t => encI (by simp [seI, up2, hc']) (by simp [seI, up2, hc']) (by simp [seI, up2, hc']) t)
  change va_P _ _ ((wsC G M).set a (gA G a, encC G (seI M a i (iI z)) a (ci + 3, r0.2.2))) H1 at hP1
  rw [e9] at hP1
  exact h p l e R s m args below meth c G n0 z0 C H1 locs1 cells slots ls (hH.put C h1 rfl hP1 hS9 hz9) (vs_tr hS hS9) h1 h2 h3 hl
theorem st_putA {k : Nat} {E : List LT} {md : MD} {pc pc' : Nat} {L : List (Nat × AV)} {S : List AV} {M : Mem} {Q : Option AV → Mem → Prop} {a ci n i x : Nat} {r0 : vw_C} {M' : Mem} {b : Nat} {C0 : FieldType} (hd : decode md.2.1 pc = .ok (.putfield x, 3)) (hp : pc + 3 = pc') (ha : M.1[a]? = some (ci + 3, n)) (hr : vwCl[ci]? = some r0) (hn : n = r0.2.2) (hi : i < n) (hf : (r0.2.1 i).2.2.2 = false) (hl0 : Cond.fieldLink md.1.cls x (r0.2.1 i).1 (r0.2.1 i).2.1 (r0.2.1 i).2.2.1 ∈ wG) (ht : Ty ci i = .array C0) (hM : seR M a i (some b) = M') (h : WP k E md pc' L S M' Q) : WP k E md pc L (vR (some b) :: vR (some a) :: S) M Q := by
  intro p l e R s m args below meth c G n0 z0 C H locs cells slots ls hH hS h1 h2 h3 hl
  subst hp; subst hM; subst hn
  have hc := cl_ok ci r0 hr
  have hD : va_D (gF G) (wsC G M) := hH.2.2.D
  refine va_put (cc := md.2.1) (D := gD G) (cl := vwCl) (tys := gT G) (ws := wsC G M) (C := r0.1) (T := r0.2.1) (N := r0.2.2) (ci := ci) (own := md.1.cls) (v := .ref (gA G b)) C.1 C.2.1 C.2.2.2.2.2.1 (fun w hw => List.mem_cons_of_mem _ (hc.1 w hw)) (Ty ci) hc.2.1 hc.2.2.1 C.2.2.2.2.1 C.2.2.2.2.2.2.2.2.1 hH.1 hD (vs_self hS) a (ws_get ha) hr i hi (C.ts hl0) (fun _ q => q) hf (ty := Ty ci i) (hc.2.1 i hi) (by rw [ht]; rfl) (by rw [ht]; rfl) (by simp [fsC, hi]) hd (fun H1 locs1 hP1 hD1 hS9 => W_sz (fun hz9 => ?_))
  rw [fs_set (M' := seR M a i (some b)) (by rw [ht]; simp [fv, seR, up2, va_rf]) (fun j hj => by cases Ty ci j <;> simp [fv, seR, up2, hj])] at hP1
  have e9 := ws_set (G := G) (M' := seR M a i (some b)) ha rfl (fun c' hc' t => encI (by simp [seR, up2, hc']) (by simp [seR, up2, hc']) (by simp [seR, up2, hc']) t)
  change va_P _ _ ((wsC G M).set a (gA G a, encC G (seR M a i (some b)) a (ci + 3, r0.2.2))) H1 at hP1
  rw [e9] at hP1
  exact h p l e R s m args below meth c G n0 z0 C H1 locs1 cells slots ls (hH.put C h1 rfl hP1 hS9 hz9) (vs_tr hS hS9) h1 h2 h3 hl
theorem st_putO {k : Nat} {E : List LT} {md : MD} {pc pc' : Nat} {L : List (Nat × AV)} {S : List AV} {M : Mem} {Q : Option AV → Mem → Prop} {a ci n i x : Nat} {r0 : vw_C} {M' : Mem} {b : Nat} {C0 : String} (hd : decode md.2.1 pc = .ok (.putfield x, 3)) (hp : pc + 3 = pc') (ha : M.1[a]? = some (ci + 3, n)) (hr : vwCl[ci]? = some r0) (hn : n = r0.2.2) (hi : i < n) (hf : (r0.2.1 i).2.2.2 = false) (hl0 : Cond.fieldLink md.1.cls x (r0.2.1 i).1 (r0.2.1 i).2.1 (r0.2.1 i).2.2.1 ∈ wG) (ht : Ty ci i = .object C0) (hM : seR M a i (some b) = M') (h : WP k E md pc' L S M' Q) : WP k E md pc L (vR (some b) :: vR (some a) :: S) M Q := by
  intro p l e R s m args below meth c G n0 z0 C H locs cells slots ls hH hS h1 h2 h3 hl
  subst hp; subst hM; subst hn
  have hc := cl_ok ci r0 hr
  have hD : va_D (gF G) (wsC G M) := hH.2.2.D
  refine va_put (cc := md.2.1) (D := gD G) (cl := vwCl) (tys := gT G) (ws := wsC G M) (C := r0.1) (T := r0.2.1) (N := r0.2.2) (ci := ci) (own := md.1.cls) (v := .ref (gA G b)) C.1 C.2.1 C.2.2.2.2.2.1 (fun w hw => List.mem_cons_of_mem _ (hc.1 w hw)) (Ty ci) hc.2.1 hc.2.2.1 C.2.2.2.2.1 C.2.2.2.2.2.2.2.2.1 hH.1 hD (vs_self hS) a (ws_get ha) hr i hi (C.ts hl0) (fun _ q => q) hf (ty := Ty ci i) (hc.2.1 i hi) (by rw [ht]; rfl) (by rw [ht]; rfl) (by simp [fsC, hi]) hd (fun H1 locs1 hP1 hD1 hS9 => W_sz (fun hz9 => ?_))
  rw [fs_set (M' := seR M a i (some b)) (by rw [ht]; simp [fv, seR, up2, va_rf]) (fun j hj => by cases Ty ci j <;> simp [fv, seR, up2, hj])] at hP1
  have e9 := ws_set (G := G) (M' := seR M a i (some b)) ha rfl (fun c' hc' t => encI (by simp [seR, up2, hc']) (by simp [seR, up2, hc']) (by simp [seR, up2, hc']) t)
  change va_P _ _ ((wsC G M).set a (gA G a, encC G (seR M a i (some b)) a (ci + 3, r0.2.2))) H1 at hP1
  rw [e9] at hP1
  exact h p l e R s m args below meth c G n0 z0 C H1 locs1 cells slots ls (hH.put C h1 rfl hP1 hS9 hz9) (vs_tr hS hS9) h1 h2 h3 hl
theorem st_putIF {k : Nat} {E : List LT} {md : MD} {pc pc' : Nat} {L : List (Nat × AV)} {S : List AV} {M : Mem} {Q : Option AV → Mem → Prop} {a ci n i x : Nat} {r0 : vw_C} {M' : Mem} {z : Int} (hd : decode md.2.1 pc = .ok (.putfield x, 3)) (hp : pc + 3 = pc') (ha : M.1[a]? = some (ci + 3, n)) (hr : vwCl[ci]? = some r0) (hn : n = r0.2.2) (hi : i < n) (hf : (r0.2.1 i).2.2.2 = true) (hin : md.1.name = "<init>") (hdc : (r0.2.1 i).1 = md.1.cls) (hl0 : Cond.fieldLink md.1.cls x (r0.2.1 i).1 (r0.2.1 i).2.1 (r0.2.1 i).2.2.1 ∈ wG) (ht : Ty ci i = .int) (hM : seI M a i (iI z) = M') (h : WP k E md pc' L S M' Q) : WP k E md pc L (vI z :: vR (some a) :: S) M Q := by
  intro p l e R s m args below meth c G n0 z0 C H locs cells slots ls hH hS h1 h2 h3 hl
  subst hp; subst hM; subst hn
  have hc := cl_ok ci r0 hr
  have hD : va_D (gF G) (wsC G M) := hH.2.2.D
  refine va_putF (cc := md.2.1) (D := gD G) (cl := vwCl) (tys := gT G) (ws := wsC G M) (C := r0.1) (T := r0.2.1) (N := r0.2.2) (ci := ci) (own := md.1.cls) (v := .int (iI z)) C.1 C.2.1 C.2.2.2.2.2.1 (fun w hw => List.mem_cons_of_mem _ (hc.1 w hw)) (Ty ci) hc.2.1 hc.2.2.1 C.2.2.2.2.1 C.2.2.2.2.2.2.2.2.1 hH.1 hD (vs_self hS) a (ws_get ha) hr i hi (C.ts hl0) (fun _ q => q) hf (C.2.2.2.2.2.2.2.1.1.trans hin) hdc (ty := Ty ci i) (hc.2.1 i hi) (by rw [ht]; rfl) (by rw [ht]; rfl) (by simp [fsC, hi]) hd (fun H1 locs1 hP1 hD1 hS9 => W_sz (fun hz9 => ?_))
  rw [fs_set (M' := seI M a i (iI z)) (by rw [ht]; simp [fv, seI, up2, va_rf]) (fun j hj => by cases Ty ci j <;> simp [fv, seI, up2, hj])] at hP1
  have e9 := ws_set (G := G) (M' := seI M a i (iI z)) ha rfl (fun c' hc' t => encI (by simp [seI, up2, hc']) (by simp [seI, up2, hc']) (by simp [seI, up2, hc']) t)
  change va_P _ _ ((wsC G M).set a (gA G a, encC G (seI M a i (iI z)) a (ci + 3, r0.2.2))) H1 at hP1
  rw [e9] at hP1
  exact h p l e R s m args below meth c G n0 z0 C H1 locs1 cells slots ls (hH.put C h1 rfl hP1 hS9 hz9) (vs_tr hS hS9) h1 h2 h3 hl
theorem st_putLF {k : Nat} {E : List LT} {md : MD} {pc pc' : Nat} {L : List (Nat × AV)} {S : List AV} {M : Mem} {Q : Option AV → Mem → Prop} {a ci n i x : Nat} {r0 : vw_C} {M' : Mem} {z : Int} (hd : decode md.2.1 pc = .ok (.putfield x, 3)) (hp : pc + 3 = pc') (ha : M.1[a]? = some (ci + 3, n)) (hr : vwCl[ci]? = some r0) (hn : n = r0.2.2) (hi : i < n) (hf : (r0.2.1 i).2.2.2 = true) (hin : md.1.name = "<init>") (hdc : (r0.2.1 i).1 = md.1.cls) (hl0 : Cond.fieldLink md.1.cls x (r0.2.1 i).1 (r0.2.1 i).2.1 (r0.2.1 i).2.2.1 ∈ wG) (ht : Ty ci i = .long) (hM : seL M a i (iL z) = M') (h : WP k E md pc' L S M' Q) : WP k E md pc L (vL z :: vR (some a) :: S) M Q := by
  intro p l e R s m args below meth c G n0 z0 C H locs cells slots ls hH hS h1 h2 h3 hl
  subst hp; subst hM; subst hn
  have hc := cl_ok ci r0 hr
  have hD : va_D (gF G) (wsC G M) := hH.2.2.D
  refine va_putF (cc := md.2.1) (D := gD G) (cl := vwCl) (tys := gT G) (ws := wsC G M) (C := r0.1) (T := r0.2.1) (N := r0.2.2) (ci := ci) (own := md.1.cls) (v := .long (iL z)) C.1 C.2.1 C.2.2.2.2.2.1 (fun w hw => List.mem_cons_of_mem _ (hc.1 w hw)) (Ty ci) hc.2.1 hc.2.2.1 C.2.2.2.2.1 C.2.2.2.2.2.2.2.2.1 hH.1 hD (vs_self hS) a (ws_get ha) hr i hi (C.ts hl0) (fun _ q => q) hf (C.2.2.2.2.2.2.2.1.1.trans hin) hdc (ty := Ty ci i) (hc.2.1 i hi) (by rw [ht]; rfl) (by rw [ht]; rfl) (by simp [fsC, hi]) hd (fun H1 locs1 hP1 hD1 hS9 => W_sz (fun hz9 => ?_))
  rw [fs_set (M' := seL M a i (iL z)) (by rw [ht]; simp [fv, seL, up2, va_rf]) (fun j hj => by cases Ty ci j <;> simp [fv, seL, up2, hj])] at hP1
  have e9 := ws_set (G := G) (M' := seL M a i (iL z)) ha rfl (fun c' hc' t => encI (by simp [seL, up2, hc']) (by simp [seL, up2, hc']) (by simp [seL, up2, hc']) t)
  change va_P _ _ ((wsC G M).set a (gA G a, encC G (seL M a i (iL z)) a (ci + 3, r0.2.2))) H1 at hP1
  rw [e9] at hP1
  exact h p l e R s m args below meth c G n0 z0 C H1 locs1 cells slots ls (hH.put C h1 rfl hP1 hS9 hz9) (vs_tr hS hS9) h1 h2 h3 hl
theorem st_putZF {k : Nat} {E : List LT} {md : MD} {pc pc' : Nat} {L : List (Nat × AV)} {S : List AV} {M : Mem} {Q : Option AV → Mem → Prop} {a ci n i x : Nat} {r0 : vw_C} {M' : Mem} {z : Int} (hd : decode md.2.1 pc = .ok (.putfield x, 3)) (hp : pc + 3 = pc') (ha : M.1[a]? = some (ci + 3, n)) (hr : vwCl[ci]? = some r0) (hn : n = r0.2.2) (hi : i < n) (hf : (r0.2.1 i).2.2.2 = true) (hin : md.1.name = "<init>") (hdc : (r0.2.1 i).1 = md.1.cls) (hl0 : Cond.fieldLink md.1.cls x (r0.2.1 i).1 (r0.2.1 i).2.1 (r0.2.1 i).2.2.1 ∈ wG) (ht : Ty ci i = .boolean) (hz : z = 0 ∨ z = 1) (hM : seI M a i (iI z) = M') (h : WP k E md pc' L S M' Q) : WP k E md pc L (vI z :: vR (some a) :: S) M Q := by
  intro p l e R s m args below meth c G n0 z0 C H locs cells slots ls hH hS h1 h2 h3 hl
  subst hp; subst hM; subst hn
  have hc := cl_ok ci r0 hr
  have hD : va_D (gF G) (wsC G M) := hH.2.2.D
  refine va_putF (cc := md.2.1) (D := gD G) (cl := vwCl) (tys := gT G) (ws := wsC G M) (C := r0.1) (T := r0.2.1) (N := r0.2.2) (ci := ci) (own := md.1.cls) (v := .int (iI z)) C.1 C.2.1 C.2.2.2.2.2.1 (fun w hw => List.mem_cons_of_mem _ (hc.1 w hw)) (Ty ci) hc.2.1 hc.2.2.1 C.2.2.2.2.1 C.2.2.2.2.2.2.2.2.1 hH.1 hD (vs_self hS) a (ws_get ha) hr i hi (C.ts hl0) (fun _ q => q) hf (C.2.2.2.2.2.2.2.1.1.trans hin) hdc (ty := Ty ci i) (hc.2.1 i hi) (by rw [ht]; rcases hz with rfl | rfl <;> decide) (by rw [ht]; rcases hz with rfl | rfl <;> decide) (by simp [fsC, hi]) hd (fun H1 locs1 hP1 hD1 hS9 => W_sz (fun hz9 => ?_))
  rw [fs_set (M' := seI M a i (iI z)) (by rw [ht]; simp [fv, seI, up2, va_rf]) (fun j hj => by cases Ty ci j <;> simp [fv, seI, up2, hj])] at hP1
  have e9 := ws_set (G := G) (M' := seI M a i (iI z)) ha rfl (fun c' hc' t => encI (by simp [seI, up2, hc']) (by simp [seI, up2, hc']) (by simp [seI, up2, hc']) t)
  change va_P _ _ ((wsC G M).set a (gA G a, encC G (seI M a i (iI z)) a (ci + 3, r0.2.2))) H1 at hP1
  rw [e9] at hP1
  exact h p l e R s m args below meth c G n0 z0 C H1 locs1 cells slots ls (hH.put C h1 rfl hP1 hS9 hz9) (vs_tr hS hS9) h1 h2 h3 hl
theorem st_putAF {k : Nat} {E : List LT} {md : MD} {pc pc' : Nat} {L : List (Nat × AV)} {S : List AV} {M : Mem} {Q : Option AV → Mem → Prop} {a ci n i x : Nat} {r0 : vw_C} {M' : Mem} {b : Nat} {C0 : FieldType} (hd : decode md.2.1 pc = .ok (.putfield x, 3)) (hp : pc + 3 = pc') (ha : M.1[a]? = some (ci + 3, n)) (hr : vwCl[ci]? = some r0) (hn : n = r0.2.2) (hi : i < n) (hf : (r0.2.1 i).2.2.2 = true) (hin : md.1.name = "<init>") (hdc : (r0.2.1 i).1 = md.1.cls) (hl0 : Cond.fieldLink md.1.cls x (r0.2.1 i).1 (r0.2.1 i).2.1 (r0.2.1 i).2.2.1 ∈ wG) (ht : Ty ci i = .array C0) (hM : seR M a i (some b) = M') (h : WP k E md pc' L S M' Q) : WP k E md pc L (vR (some b) :: vR (some a) :: S) M Q := by
  intro p l e R s m args below meth c G n0 z0 C H locs cells slots ls hH hS h1 h2 h3 hl
  subst hp; subst hM; subst hn
  have hc := cl_ok ci r0 hr
  have hD : va_D (gF G) (wsC G M) := hH.2.2.D
  refine va_putF (cc := md.2.1) (D := gD G) (cl := vwCl) (tys := gT G) (ws := wsC G M) (C := r0.1) (T := r0.2.1) (N := r0.2.2) (ci := ci) (own := md.1.cls) (v := .ref (gA G b)) C.1 C.2.1 C.2.2.2.2.2.1 (fun w hw => List.mem_cons_of_mem _ (hc.1 w hw)) (Ty ci) hc.2.1 hc.2.2.1 C.2.2.2.2.1 C.2.2.2.2.2.2.2.2.1 hH.1 hD (vs_self hS) a (ws_get ha) hr i hi (C.ts hl0) (fun _ q => q) hf (C.2.2.2.2.2.2.2.1.1.trans hin) hdc (ty := Ty ci i) (hc.2.1 i hi) (by rw [ht]; rfl) (by rw [ht]; rfl) (by simp [fsC, hi]) hd (fun H1 locs1 hP1 hD1 hS9 => W_sz (fun hz9 => ?_))
  rw [fs_set (M' := seR M a i (some b)) (by rw [ht]; simp [fv, seR, up2, va_rf]) (fun j hj => by cases Ty ci j <;> simp [fv, seR, up2, hj])] at hP1
  have e9 := ws_set (G := G) (M' := seR M a i (some b)) ha rfl (fun c' hc' t => encI (by simp [seR, up2, hc']) (by simp [seR, up2, hc']) (by simp [seR, up2, hc']) t)
  change va_P _ _ ((wsC G M).set a (gA G a, encC G (seR M a i (some b)) a (ci + 3, r0.2.2))) H1 at hP1
  rw [e9] at hP1
  exact h p l e R s m args below meth c G n0 z0 C H1 locs1 cells slots ls (hH.put C h1 rfl hP1 hS9 hz9) (vs_tr hS hS9) h1 h2 h3 hl
theorem st_putOF {k : Nat} {E : List LT} {md : MD} {pc pc' : Nat} {L : List (Nat × AV)} {S : List AV} {M : Mem} {Q : Option AV → Mem → Prop} {a ci n i x : Nat} {r0 : vw_C} {M' : Mem} {b : Nat} {C0 : String} (hd : decode md.2.1 pc = .ok (.putfield x, 3)) (hp : pc + 3 = pc') (ha : M.1[a]? = some (ci + 3, n)) (hr : vwCl[ci]? = some r0) (hn : n = r0.2.2) (hi : i < n) (hf : (r0.2.1 i).2.2.2 = true) (hin : md.1.name = "<init>") (hdc : (r0.2.1 i).1 = md.1.cls) (hl0 : Cond.fieldLink md.1.cls x (r0.2.1 i).1 (r0.2.1 i).2.1 (r0.2.1 i).2.2.1 ∈ wG) (ht : Ty ci i = .object C0) (hM : seR M a i (some b) = M') (h : WP k E md pc' L S M' Q) : WP k E md pc L (vR (some b) :: vR (some a) :: S) M Q := by
  intro p l e R s m args below meth c G n0 z0 C H locs cells slots ls hH hS h1 h2 h3 hl
  subst hp; subst hM; subst hn
  have hc := cl_ok ci r0 hr
  have hD : va_D (gF G) (wsC G M) := hH.2.2.D
  refine va_putF (cc := md.2.1) (D := gD G) (cl := vwCl) (tys := gT G) (ws := wsC G M) (C := r0.1) (T := r0.2.1) (N := r0.2.2) (ci := ci) (own := md.1.cls) (v := .ref (gA G b)) C.1 C.2.1 C.2.2.2.2.2.1 (fun w hw => List.mem_cons_of_mem _ (hc.1 w hw)) (Ty ci) hc.2.1 hc.2.2.1 C.2.2.2.2.1 C.2.2.2.2.2.2.2.2.1 hH.1 hD (vs_self hS) a (ws_get ha) hr i hi (C.ts hl0) (fun _ q => q) hf (C.2.2.2.2.2.2.2.1.1.trans hin) hdc (ty := Ty ci i) (hc.2.1 i hi) (by rw [ht]; rfl) (by rw [ht]; rfl) (by simp [fsC, hi]) hd (fun H1 locs1 hP1 hD1 hS9 => W_sz (fun hz9 => ?_))
  rw [fs_set (M' := seR M a i (some b)) (by rw [ht]; simp [fv, seR, up2, va_rf]) (fun j hj => by cases Ty ci j <;> simp [fv, seR, up2, hj])] at hP1
  have e9 := ws_set (G := G) (M' := seR M a i (some b)) ha rfl (fun c' hc' t => encI (by simp [seR, up2, hc']) (by simp [seR, up2, hc']) (by simp [seR, up2, hc']) t)
  change va_P _ _ ((wsC G M).set a (gA G a, encC G (seR M a i (some b)) a (ci + 3, r0.2.2))) H1 at hP1
  rw [e9] at hP1
  exact h p l e R s m args below meth c G n0 z0 C H1 locs1 cells slots ls (hH.put C h1 rfl hP1 hS9 hz9) (vs_tr hS hS9) h1 h2 h3 hl
theorem st_iaload {k : Nat} {E : List LT} {md : MD} {pc pc' : Nat} {L : List (Nat × AV)} {S : List AV} {M : Mem} {Q : Option AV → Mem → Prop} {a n : Nat} {z v : Int} (hd : decode md.2.1 pc = .ok (.iaload, 1)) (hp : pc + 1 = pc') (ha : M.1[a]? = some (0, n)) (hn : n < 2147483648) (h0 : 0 ≤ z ∧ z < n) (hv : (M.2.1 a z.toNat).toInt = v) (h : WP k E md pc' L (vI v :: S) M Q) : WP k E md pc L (vI z :: vR (some a) :: S) M Q := by
  intro p l e R s m args below meth c G n0 z0 C H locs cells slots ls hH hS h1 h2 h3 hl
  subst hp; subst hv
  refine va_iald (cc := md.2.1) (D := gD G) (cl := vwCl) (tys := gT G) (ws := wsC G M) C.1 C.2.1 C.2.2.2.2.2.2.2.2.1 hH.1 a 0 (ws_get ha) rfl (i := iI z) (iI_in h0.1 h0.2 hn) hd ?_
  have h9 := h p l e R s m args below meth c G n0 z0 C H locs cells slots ls hH hS h1 h2 h3 hl
  change W p l e R s m args below meth c H locs cells slots _ (F0 m (pc + 1) ls (.int (iI (M.2.1 a z.toNat).toInt) :: S.map (cv (gA G)))) at h9
  rw [iI_of] at h9
  rw [iI_nat h0.1 (by omega)]
  exact h9
theorem st_laload {k : Nat} {E : List LT} {md : MD} {pc pc' : Nat} {L : List (Nat × AV)} {S : List AV} {M : Mem} {Q : Option AV → Mem → Prop} {a n : Nat} {z v : Int} (hd : decode md.2.1 pc = .ok (.laload, 1)) (hp : pc + 1 = pc') (ha : M.1[a]? = some (1, n)) (hn : n < 2147483648) (h0 : 0 ≤ z ∧ z < n) (hv : (M.2.2.1 a z.toNat).toInt = v) (h : WP k E md pc' L (vL v :: S) M Q) : WP k E md pc L (vI z :: vR (some a) :: S) M Q := by
  intro p l e R s m args below meth c G n0 z0 C H locs cells slots ls hH hS h1 h2 h3 hl
  subst hp; subst hv
  refine va_lald (cc := md.2.1) (D := gD G) (cl := vwCl) (tys := gT G) (ws := wsC G M) C.1 C.2.1 C.2.2.2.2.2.2.2.2.1 hH.1 a 1 (ws_get ha) rfl (i := iI z) (iI_in h0.1 h0.2 hn) hd ?_
  have h9 := h p l e R s m args below meth c G n0 z0 C H locs cells slots ls hH hS h1 h2 h3 hl
  change W p l e R s m args below meth c H locs cells slots _ (F0 m (pc + 1) ls (.long (iL (M.2.2.1 a z.toNat).toInt) :: S.map (cv (gA G)))) at h9
  rw [iL_of] at h9
  rw [iI_nat h0.1 (by omega)]
  exact h9
theorem st_zaload {k : Nat} {E : List LT} {md : MD} {pc pc' : Nat} {L : List (Nat × AV)} {S : List AV} {M : Mem} {Q : Option AV → Mem → Prop} {a n : Nat} {z v : Int} (hd : decode md.2.1 pc = .ok (.baload, 1)) (hp : pc + 1 = pc') (ha : M.1[a]? = some (2, n)) (hn : n < 2147483648) (h0 : 0 ≤ z ∧ z < n) (hv : (M.2.1 a z.toNat).toInt = v) (h : WP k E md pc' L (vI v :: S) M Q) : WP k E md pc L (vI z :: vR (some a) :: S) M Q := by
  intro p l e R s m args below meth c G n0 z0 C H locs cells slots ls hH hS h1 h2 h3 hl
  subst hp; subst hv
  refine va_zald (cc := md.2.1) (D := gD G) (cl := vwCl) (tys := gT G) (ws := wsC G M) C.1 C.2.1 C.2.2.2.2.2.2.2.2.1 hH.1 a 2 (ws_get ha) rfl (i := iI z) (iI_in h0.1 h0.2 hn) hd ?_
  have h9 := h p l e R s m args below meth c G n0 z0 C H locs cells slots ls hH hS h1 h2 h3 hl
  change W p l e R s m args below meth c H locs cells slots _ (F0 m (pc + 1) ls (.int (iI (M.2.1 a z.toNat).toInt) :: S.map (cv (gA G)))) at h9
  rw [iI_of] at h9
  rw [iI_nat h0.1 (by omega)]
  exact h9
theorem st_iastore {k : Nat} {E : List LT} {md : MD} {pc pc' : Nat} {L : List (Nat × AV)} {S : List AV} {M : Mem} {Q : Option AV → Mem → Prop} {a n : Nat} {z v : Int} {M' : Mem} (hd : decode md.2.1 pc = .ok (.iastore, 1)) (hp : pc + 1 = pc') (ha : M.1[a]? = some (0, n)) (hn : n < 2147483648) (h0 : 0 ≤ z ∧ z < n) (hM : seI M a z.toNat (iI v) = M') (h : WP k E md pc' L S M' Q) : WP k E md pc L (vI v :: vI z :: vR (some a) :: S) M Q := by
  intro p l e R s m args below meth c G n0 z0 C H locs cells slots ls hH hS h1 h2 h3 hl
  subst hp; subst hM
  have hD : va_D (gF G) (wsC G M) := hH.2.2.D
  refine va_iast (cc := md.2.1) (D := gD G) (cl := vwCl) (tys := gT G) (ws := wsC G M) C.1 C.2.1 C.2.2.2.2.2.2.2.2.1 hH.1 hD (vs_self hS) a 0 (ws_get ha) rfl (i := iI z) (x := iI v) (iI_in h0.1 h0.2 hn) hd (fun H1 locs1 hP1 hD1 hS9 => W_sz (fun hz9 => ?_))
  rw [iI_nat h0.1 (by omega)] at hP1
  have e8 : upd (M.2.1 a) z.toNat (iI v) = (seI M a z.toNat (iI v)).2.1 a := by funext q; simp [seI, upd, up2]
  rw [e8] at hP1
  have e9 := ws_set (G := G) (M' := seI M a z.toNat (iI v)) ha rfl (fun c' hc' t => encI (by simp [seI, up2, hc']) (by simp [seI, up2, hc']) (by simp [seI, up2, hc']) t)
  change va_P _ _ ((wsC G M).set a (gA G a, encC G (seI M a z.toNat (iI v)) a (0, n))) H1 at hP1
  rw [e9] at hP1
  exact h p l e R s m args below meth c G n0 z0 C H1 locs1 cells slots ls (hH.put C h1 rfl hP1 hS9 hz9) (vs_tr hS hS9) h1 h2 h3 hl
theorem st_lastore {k : Nat} {E : List LT} {md : MD} {pc pc' : Nat} {L : List (Nat × AV)} {S : List AV} {M : Mem} {Q : Option AV → Mem → Prop} {a n : Nat} {z v : Int} {M' : Mem} (hd : decode md.2.1 pc = .ok (.lastore, 1)) (hp : pc + 1 = pc') (ha : M.1[a]? = some (1, n)) (hn : n < 2147483648) (h0 : 0 ≤ z ∧ z < n) (hM : seL M a z.toNat (iL v) = M') (h : WP k E md pc' L S M' Q) : WP k E md pc L (vL v :: vI z :: vR (some a) :: S) M Q := by
  intro p l e R s m args below meth c G n0 z0 C H locs cells slots ls hH hS h1 h2 h3 hl
  subst hp; subst hM
  have hD : va_D (gF G) (wsC G M) := hH.2.2.D
  refine va_last (cc := md.2.1) (D := gD G) (cl := vwCl) (tys := gT G) (ws := wsC G M) C.1 C.2.1 C.2.2.2.2.2.2.2.2.1 hH.1 hD (vs_self hS) a 1 (ws_get ha) rfl (i := iI z) (x := iL v) (iI_in h0.1 h0.2 hn) hd (fun H1 locs1 hP1 hD1 hS9 => W_sz (fun hz9 => ?_))
  rw [iI_nat h0.1 (by omega)] at hP1
  have e8 : vp_updL (M.2.2.1 a) z.toNat (iL v) = (seL M a z.toNat (iL v)).2.2.1 a := by funext q; simp [seL, vp_updL, up2]
  rw [e8] at hP1
  have e9 := ws_set (G := G) (M' := seL M a z.toNat (iL v)) ha rfl (fun c' hc' t => encI (by simp [seL, up2, hc']) (by simp [seL, up2, hc']) (by simp [seL, up2, hc']) t)
  change va_P _ _ ((wsC G M).set a (gA G a, encC G (seL M a z.toNat (iL v)) a (1, n))) H1 at hP1
  rw [e9] at hP1
  exact h p l e R s m args below meth c G n0 z0 C H1 locs1 cells slots ls (hH.put C h1 rfl hP1 hS9 hz9) (vs_tr hS hS9) h1 h2 h3 hl
theorem st_zastore {k : Nat} {E : List LT} {md : MD} {pc pc' : Nat} {L : List (Nat × AV)} {S : List AV} {M : Mem} {Q : Option AV → Mem → Prop} {a n : Nat} {z v : Int} {M' : Mem} (hd : decode md.2.1 pc = .ok (.bastore, 1)) (hp : pc + 1 = pc') (ha : M.1[a]? = some (2, n)) (hn : n < 2147483648) (h0 : 0 ≤ z ∧ z < n) (hz : v = 0 ∨ v = 1) (hM : seI M a z.toNat (iI v) = M') (h : WP k E md pc' L S M' Q) : WP k E md pc L (vI v :: vI z :: vR (some a) :: S) M Q := by
  intro p l e R s m args below meth c G n0 z0 C H locs cells slots ls hH hS h1 h2 h3 hl
  subst hp; subst hM
  have hD : va_D (gF G) (wsC G M) := hH.2.2.D
  refine va_zast (cc := md.2.1) (D := gD G) (cl := vwCl) (tys := gT G) (ws := wsC G M) C.1 C.2.1 C.2.2.2.2.2.2.2.2.1 hH.1 hD (vs_self hS) a 2 (ws_get ha) rfl (i := iI z) (x := iI v) (iI_in h0.1 h0.2 hn) hd (fun H1 locs1 hP1 hD1 hS9 => W_sz (fun hz9 => ?_))
  have hz2 : vp_nar .boolean (iI v) = iI v := by rcases hz with rfl | rfl <;> decide
  rw [hz2] at hP1
  rw [iI_nat h0.1 (by omega)] at hP1
  have e8 : upd (M.2.1 a) z.toNat (iI v) = (seI M a z.toNat (iI v)).2.1 a := by funext q; simp [seI, upd, up2]
  rw [e8] at hP1
  have e9 := ws_set (G := G) (M' := seI M a z.toNat (iI v)) ha rfl (fun c' hc' t => encI (by simp [seI, up2, hc']) (by simp [seI, up2, hc']) (by simp [seI, up2, hc']) t)
  change va_P _ _ ((wsC G M).set a (gA G a, encC G (seI M a z.toNat (iI v)) a (2, n))) H1 at hP1
  rw [e9] at hP1
  exact h p l e R s m args below meth c G n0 z0 C H1 locs1 cells slots ls (hH.put C h1 rfl hP1 hS9 hz9) (vs_tr hS hS9) h1 h2 h3 hl
theorem st_alenI {k : Nat} {E : List LT} {md : MD} {pc pc' : Nat} {L : List (Nat × AV)} {S : List AV} {M : Mem} {Q : Option AV → Mem → Prop} {a n : Nat} {z : Int} (hd : decode md.2.1 pc = .ok (.arraylength, 1)) (hp : pc + 1 = pc') (ha : M.1[a]? = some (0, n)) (hz : Int32.ofNat n = iI z) (h : WP k E md pc' L (vI z :: S) M Q) : WP k E md pc L (vR (some a) :: S) M Q := by
  intro p l e R s m args below meth c G n0 z0 C H locs cells slots ls hH hS h1 h2 h3 hl
  subst hp
  exact va_alen (cc := md.2.1) (D := gD G) (cl := vwCl) (tys := gT G) (ws := wsC G M) C.1 C.2.1 C.2.2.2.2.2.2.2.2.1 hH.1 a 0 (ws_get ha) (ty := .int) rfl (v := iI z) hz hd (h p l e R s m args below meth c G n0 z0 C H locs cells slots ls hH hS h1 h2 h3 hl)
theorem st_alenJ {k : Nat} {E : List LT} {md : MD} {pc pc' : Nat} {L : List (Nat × AV)} {S : List AV} {M : Mem} {Q : Option AV → Mem → Prop} {a n : Nat} {z : Int} (hd : decode md.2.1 pc = .ok (.arraylength, 1)) (hp : pc + 1 = pc') (ha : M.1[a]? = some (1, n)) (hz : Int32.ofNat n = iI z) (h : WP k E md pc' L (vI z :: S) M Q) : WP k E md pc L (vR (some a) :: S) M Q := by
  intro p l e R s m args below meth c G n0 z0 C H locs cells slots ls hH hS h1 h2 h3 hl
  subst hp
  exact va_alen (cc := md.2.1) (D := gD G) (cl := vwCl) (tys := gT G) (ws := wsC G M) C.1 C.2.1 C.2.2.2.2.2.2.2.2.1 hH.1 a 1 (ws_get ha) (ty := .long) rfl (v := iI z) hz hd (h p l e R s m args below meth c G n0 z0 C H locs cells slots ls hH hS h1 h2 h3 hl)
theorem st_copy {k : Nat} {E : List LT} {md : MD} {pc pc' : Nat} {L : List (Nat × AV)} {S : List AV} {M : Mem} {Q : Option AV → Mem → Prop} {a b na nb x : Nat} {sp dp n : Int} {M' : Mem} (hd : decode md.2.1 pc = .ok (.invokestatic x, 3)) (hp : pc + 3 = pc') (hl0 : Cond.methodLink md.1.cls x arraycopyName ∈ wG) (hw : Cond.native arraycopyName ∈ wG ∧ Cond.static arraycopyName ∈ wG ∧ Cond.initialized "java/lang/System" ∈ wG) (ha : M.1[a]? = some (0, na)) (hb : M.1[b]? = some (0, nb)) (hna : na < 2147483648) (hnb : nb < 2147483648) (h4 : 0 ≤ sp ∧ 0 ≤ n ∧ sp + n ≤ na) (h5 : 0 ≤ dp ∧ dp + n ≤ nb) (hk : 1 ≤ k) (hc : (S.map fun v => if isL v = true then 2 else 1).sum ≤ 8) (hM : cpI M a sp.toNat b dp.toNat n.toNat = M') (h : WP k E md pc' L S M' Q) : WP k E md pc L (vI n :: vI dp :: vR (some b) :: vI sp :: vR (some a) :: S) M Q := by
  intro p l e R s m args below meth c G n0 z0 C H locs cells slots ls hH hS h1 h2 h3 hl
  subst hp; subst hM
  have hD : va_D (gF G) (wsC G M) := hH.2.2.D
  have hc' : ((S.map (cv (gA G))).map fun v => v.category).sum ≤ 8 := by
    rw [List.map_map]
    have e : ((fun v : Value => v.category) ∘ cv (gA G)) = (fun v => if isL v = true then 2 else 1) := by funext v; exact cv_cat _ v
    rw [e]
    exact hc
  refine va_copyi (cc := md.2.1) (D := gD G) (cl := vwCl) (tys := gT G) (ws := wsC G M) C.1 C.2.1 (C.2.2.1.trans hl.1.symm) C.2.2.2.2.1 (C.ts hl0) (C.ts hw.1) (C.ts hw.2.1) (C.ts hw.2.2) C.2.2.2.2.2.2.2.2.1 hH.1 hD (vs_self hS) a b 0 0 (ws_get ha) (ws_get hb) (ty := .int) rfl rfl rfl (sp := iI sp) (dp := iI dp) (n := iI n) (by rw [z_lt ⟨by omega, by omega⟩]; omega) (by rw [z_lt ⟨by omega, by omega⟩]; omega) (by rw [z_lt ⟨by omega, by omega⟩]; omega) (by rw [iI_nat (by omega) (by omega), iI_nat (by omega) (by omega)]; omega) (by rw [iI_nat (by omega) (by omega), iI_nat (by omega) (by omega)]; omega) (fun i hi => rfl) (Nat.le_trans hk C.2.2.2.2.2.2.2.2.2.1.1) (Nat.le_trans (Nat.add_le_add hc' (show nativeFrameWords "java/lang/System" "arraycopy" 5 + 11 ≤ 56 by decide)) (Nat.le_trans (show 8 + 56 ≤ 64 * k by omega) C.2.2.2.2.2.2.2.2.2.1.2)) hd (fun H1 locs1 hP1 hD1 hS9 => W_sz (fun hz9 => ?_))
  rw [iI_nat h4.1 (by omega), iI_nat h5.1 (by omega), iI_nat h4.2.1 (by omega)] at hP1
  have e8 : va_cpy (M.2.1 a) (M.2.1 b) sp.toNat dp.toNat n.toNat = (cpI M a sp.toNat b dp.toNat n.toNat).2.1 b := by simp [cpI]
  rw [e8] at hP1
  have e9 := ws_set (G := G) (M' := cpI M a sp.toNat b dp.toNat n.toNat) hb rfl (fun c' hc' t => encI (by simp [cpI, hc']) (by simp [cpI]) (by simp [cpI]) t)
  change va_P _ _ ((wsC G M).set b (gA G b, encC G (cpI M a sp.toNat b dp.toNat n.toNat) b (0, nb))) H1 at hP1
  rw [e9] at hP1
  exact h p l e R s m args below meth c G n0 z0 C H1 locs1 cells slots ls (hH.put C h1 rfl hP1 hS9 hz9) (vs_tr hS hS9) h1 h2 h3 hl
end STORES

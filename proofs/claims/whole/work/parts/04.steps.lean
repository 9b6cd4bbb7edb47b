section STEPS
theorem st_iconst {k : Nat} {E : List LT} {md : MD} {pc pc' : Nat} {L : List (Nat × AV)} {S : List AV} {M : Mem} {Q : Option AV → Mem → Prop} {n : Int} (hd : decode md.2.1 pc = .ok (.iconst n, 1)) (hp : pc + 1 = pc') (h : WP k E md pc' L (vI n :: S) M Q) : WP k E md pc L (S) M Q := by
  intro p l e R s m args below meth c G n0 z0 C H locs cells slots ls hH hS h1 h2 h3 hl
  subst hp
  exact lv_iconst (cc := md.2.1) C.1 C.2.1 hd rfl (h p l e R s m args below meth c G n0 z0 C H locs cells slots ls hH hS h1 h2 h3 hl)
theorem st_bipush {k : Nat} {E : List LT} {md : MD} {pc pc' : Nat} {L : List (Nat × AV)} {S : List AV} {M : Mem} {Q : Option AV → Mem → Prop} {n : Int} (hd : decode md.2.1 pc = .ok (.bipush n, 2)) (hp : pc + 2 = pc') (hn : (Int8.ofInt n).toInt32 = iI n) (h : WP k E md pc' L (vI n :: S) M Q) : WP k E md pc L (S) M Q := by
  intro p l e R s m args below meth c G n0 z0 C H locs cells slots ls hH hS h1 h2 h3 hl
  subst hp
  exact lv_bipush (cc := md.2.1) C.1 C.2.1 hd hn (h p l e R s m args below meth c G n0 z0 C H locs cells slots ls hH hS h1 h2 h3 hl)
theorem st_sipush {k : Nat} {E : List LT} {md : MD} {pc pc' : Nat} {L : List (Nat × AV)} {S : List AV} {M : Mem} {Q : Option AV → Mem → Prop} {n : Int} (hd : decode md.2.1 pc = .ok (.sipush n, 3)) (hp : pc + 3 = pc') (hn : (Int16.ofInt n).toInt32 = iI n) (h : WP k E md pc' L (vI n :: S) M Q) : WP k E md pc L (S) M Q := by
  intro p l e R s m args below meth c G n0 z0 C H locs cells slots ls hH hS h1 h2 h3 hl
  subst hp
  exact lv_sipush (cc := md.2.1) C.1 C.2.1 hd hn (h p l e R s m args below meth c G n0 z0 C H locs cells slots ls hH hS h1 h2 h3 hl)
theorem st_lconst {k : Nat} {E : List LT} {md : MD} {pc pc' : Nat} {L : List (Nat × AV)} {S : List AV} {M : Mem} {Q : Option AV → Mem → Prop} {n : Fin 2} {z : Int} (hd : decode md.2.1 pc = .ok (.lconst n, 1)) (hp : pc + 1 = pc') (hn : Int64.ofNat (n : Nat) = iL z) (h : WP k E md pc' L (vL z :: S) M Q) : WP k E md pc L (S) M Q := by
  intro p l e R s m args below meth c G n0 z0 C H locs cells slots ls hH hS h1 h2 h3 hl
  subst hp
  exact lv_lconst (cc := md.2.1) C.1 C.2.1 hd hn (h p l e R s m args below meth c G n0 z0 C H locs cells slots ls hH hS h1 h2 h3 hl)
theorem st_ldc {k : Nat} {E : List LT} {md : MD} {pc pc' : Nat} {L : List (Nat × AV)} {S : List AV} {M : Mem} {Q : Option AV → Mem → Prop} {x : Nat} {v : Int32} {z : Int} (hd : decode md.2.1 pc = .ok (.ldc x, 2)) (hp : pc + 2 = pc') (hc : Cond.constant md.1.cls x v ∈ wG) (hn : v = iI z) (h : WP k E md pc' L (vI z :: S) M Q) : WP k E md pc L (S) M Q := by
  intro p l e R s m args below meth c G n0 z0 C H locs cells slots ls hH hS h1 h2 h3 hl
  subst hp; subst hn
  exact lv_ldc (cc := md.2.1) C.1 C.2.1 C.2.2.2.2.1 (C.2.2.2.2.2.1 _ (List.mem_cons_of_mem _ hc)) hd (h p l e R s m args below meth c G n0 z0 C H locs cells slots ls hH hS h1 h2 h3 hl)
theorem st_ldc_w {k : Nat} {E : List LT} {md : MD} {pc pc' : Nat} {L : List (Nat × AV)} {S : List AV} {M : Mem} {Q : Option AV → Mem → Prop} {x : Nat} {v : Int32} {z : Int} (hd : decode md.2.1 pc = .ok (.ldc_w x, 3)) (hp : pc + 3 = pc') (hc : Cond.constant md.1.cls x v ∈ wG) (hn : v = iI z) (h : WP k E md pc' L (vI z :: S) M Q) : WP k E md pc L (S) M Q := by
  intro p l e R s m args below meth c G n0 z0 C H locs cells slots ls hH hS h1 h2 h3 hl
  subst hp; subst hn
  exact lv_ldcw (cc := md.2.1) C.1 C.2.1 C.2.2.2.2.1 (C.2.2.2.2.2.1 _ (List.mem_cons_of_mem _ hc)) hd (h p l e R s m args below meth c G n0 z0 C H locs cells slots ls hH hS h1 h2 h3 hl)
theorem st_ldc2 {k : Nat} {E : List LT} {md : MD} {pc pc' : Nat} {L : List (Nat × AV)} {S : List AV} {M : Mem} {Q : Option AV → Mem → Prop} {x : Nat} {v : Int64} {z : Int} (hd : decode md.2.1 pc = .ok (.ldc2_w x, 3)) (hp : pc + 3 = pc') (hc : Cond.constantLong md.1.cls x v ∈ wG) (hn : v = iL z) (h : WP k E md pc' L (vL z :: S) M Q) : WP k E md pc L (S) M Q := by
  intro p l e R s m args below meth c G n0 z0 C H locs cells slots ls hH hS h1 h2 h3 hl
  subst hp; subst hn
  exact lv_ldc2 (cc := md.2.1) C.1 C.2.1 C.2.2.2.2.1 (C.2.2.2.2.2.1 _ (List.mem_cons_of_mem _ hc)) hd (h p l e R s m args below meth c G n0 z0 C H locs cells slots ls hH hS h1 h2 h3 hl)
theorem st_iload_n {k : Nat} {E : List LT} {md : MD} {pc pc' : Nat} {L : List (Nat × AV)} {S : List AV} {M : Mem} {Q : Option AV → Mem → Prop} {n : Fin 4} {i j : Nat} {z : Int} (hd : decode md.2.1 pc = .ok (.iload_n n, 1)) (hp : pc + 1 = pc') (hi : (n : Nat) = i) (hj : L[j]? = some (i, vI z)) (h : WP k E md pc' L (vI z :: S) M Q) : WP k E md pc L (S) M Q := by
  intro p l e R s m args below meth c G n0 z0 C H locs cells slots ls hH hS h1 h2 h3 hl
  subst hp
  exact lv_iload_n (cc := md.2.1) C.1 C.2.1 hd hi (lv_at hl j (by rw [List.getElem?_map, hj]; rfl)) (h p l e R s m args below meth c G n0 z0 C H locs cells slots ls hH hS h1 h2 h3 hl)
theorem st_iload {k : Nat} {E : List LT} {md : MD} {pc pc' : Nat} {L : List (Nat × AV)} {S : List AV} {M : Mem} {Q : Option AV → Mem → Prop} {i j : Nat} {z : Int} (hd : decode md.2.1 pc = .ok (.iload i, 2)) (hp : pc + 2 = pc') (hj : L[j]? = some (i, vI z)) (h : WP k E md pc' L (vI z :: S) M Q) : WP k E md pc L (S) M Q := by
  intro p l e R s m args below meth c G n0 z0 C H locs cells slots ls hH hS h1 h2 h3 hl
  subst hp
  exact lv_iload (cc := md.2.1) C.1 C.2.1 hd (lv_at hl j (by rw [List.getElem?_map, hj]; rfl)) (h p l e R s m args below meth c G n0 z0 C H locs cells slots ls hH hS h1 h2 h3 hl)
theorem st_lload_n {k : Nat} {E : List LT} {md : MD} {pc pc' : Nat} {L : List (Nat × AV)} {S : List AV} {M : Mem} {Q : Option AV → Mem → Prop} {n : Fin 4} {i j : Nat} {z : Int} (hd : decode md.2.1 pc = .ok (.lload_n n, 1)) (hp : pc + 1 = pc') (hi : (n : Nat) = i) (hj : L[j]? = some (i, vL z)) (h : WP k E md pc' L (vL z :: S) M Q) : WP k E md pc L (S) M Q := by
  intro p l e R s m args below meth c G n0 z0 C H locs cells slots ls hH hS h1 h2 h3 hl
  subst hp
  exact lv_lload_n (cc := md.2.1) C.1 C.2.1 hd hi (lv_at hl j (by rw [List.getElem?_map, hj]; rfl)) (h p l e R s m args below meth c G n0 z0 C H locs cells slots ls hH hS h1 h2 h3 hl)
theorem st_lload {k : Nat} {E : List LT} {md : MD} {pc pc' : Nat} {L : List (Nat × AV)} {S : List AV} {M : Mem} {Q : Option AV → Mem → Prop} {i j : Nat} {z : Int} (hd : decode md.2.1 pc = .ok (.lload i, 2)) (hp : pc + 2 = pc') (hj : L[j]? = some (i, vL z)) (h : WP k E md pc' L (vL z :: S) M Q) : WP k E md pc L (S) M Q := by
  intro p l e R s m args below meth c G n0 z0 C H locs cells slots ls hH hS h1 h2 h3 hl
  subst hp
  exact lv_lload (cc := md.2.1) C.1 C.2.1 hd (lv_at hl j (by rw [List.getElem?_map, hj]; rfl)) (h p l e R s m args below meth c G n0 z0 C H locs cells slots ls hH hS h1 h2 h3 hl)
theorem st_aload_n {k : Nat} {E : List LT} {md : MD} {pc pc' : Nat} {L : List (Nat × AV)} {S : List AV} {M : Mem} {Q : Option AV → Mem → Prop} {n : Fin 4} {i j a : Nat} (hd : decode md.2.1 pc = .ok (.aload_n n, 1)) (hp : pc + 1 = pc') (hi : (n : Nat) = i) (hj : L[j]? = some (i, vR (some a))) (h : WP k E md pc' L (vR (some a) :: S) M Q) : WP k E md pc L (S) M Q := by
  intro p l e R s m args below meth c G n0 z0 C H locs cells slots ls hH hS h1 h2 h3 hl
  subst hp
  exact lv_aload_n (cc := md.2.1) C.1 C.2.1 hd hi (lv_at hl j (by rw [List.getElem?_map, hj]; rfl)) (h p l e R s m args below meth c G n0 z0 C H locs cells slots ls hH hS h1 h2 h3 hl)
theorem st_aload {k : Nat} {E : List LT} {md : MD} {pc pc' : Nat} {L : List (Nat × AV)} {S : List AV} {M : Mem} {Q : Option AV → Mem → Prop} {i j a : Nat} (hd : decode md.2.1 pc = .ok (.aload i, 2)) (hp : pc + 2 = pc') (hj : L[j]? = some (i, vR (some a))) (h : WP k E md pc' L (vR (some a) :: S) M Q) : WP k E md pc L (S) M Q := by
  intro p l e R s m args below meth c G n0 z0 C H locs cells slots ls hH hS h1 h2 h3 hl
  subst hp
  exact lv_aload (cc := md.2.1) C.1 C.2.1 hd (lv_at hl j (by rw [List.getElem?_map, hj]; rfl)) (h p l e R s m args below meth c G n0 z0 C H locs cells slots ls hH hS h1 h2 h3 hl)
def drop1 (i : Nat) (L : List (Nat × AV)) : List (Nat × AV) := L.filter (fun q => !(q.1 == i) && !(q.1 + 1 == i && isL q.2))
def drop2 (i : Nat) (L : List (Nat × AV)) : List (Nat × AV) := L.filter (fun q => !(q.1 == i) && (!(q.1 == i + 1) && !(q.1 + 1 == i && isL q.2)))
theorem cv_cat2 (ad : Nat → Nat) (v : AV) : ((cv ad v).category == 2) = isL v := by
  rw [cv_cat]
  cases isL v <;> rfl
theorem drop1_map (ad : Nat → Nat) (i : Nat) (L : List (Nat × AV)) (v : AV) : (i, cv ad v) :: (L.map (fun q => (q.1, cv ad q.2))).filter (fun q => !(q.1 == i) && !(q.1 + 1 == i && q.2.category == 2)) = ((i, v) :: drop1 i L).map (fun q => (q.1, cv ad q.2)) := by
  rw [List.filter_map, List.map_cons]
  congr 2
  unfold drop1
  congr 1
  funext q
  simp only [Function.comp, cv_cat2]
theorem drop2_map (ad : Nat → Nat) (i : Nat) (L : List (Nat × AV)) (v : AV) : (i, cv ad v) :: (L.map (fun q => (q.1, cv ad q.2))).filter (fun q => !(q.1 == i) && (!(q.1 == i + 1) && !(q.1 + 1 == i && q.2.category == 2))) = ((i, v) :: drop2 i L).map (fun q => (q.1, cv ad q.2)) := by
  rw [List.filter_map, List.map_cons]
  congr 2
  unfold drop2
  congr 1
  funext q
  simp only [Function.comp, cv_cat2]
theorem st_istore_n {k : Nat} {E : List LT} {md : MD} {pc pc' : Nat} {L : List (Nat × AV)} {S : List AV} {M : Mem} {Q : Option AV → Mem → Prop} {L' : List (Nat × AV)} {n : Fin 4} {i : Nat} {z : Int} (hd : decode md.2.1 pc = .ok (.istore_n n, 1)) (hp : pc + 1 = pc') (hi : (n : Nat) = i) (hn : i < md.2.2.1) (hL : (i, vI z) :: drop1 i L = L') (h : WP k E md pc' L' S M Q) : WP k E md pc L (vI z :: S) M Q := by
  intro p l e R s m args below meth c G n0 z0 C H locs cells slots ls hH hS h1 h2 h3 hl
  subst hp; subst hL
  exact lv_istore_n (cc := md.2.1) C.1 C.2.1 hd hi hl hn (drop1_map (gA G) i L (vI z)) (fun ls' hl' => h p l e R s m args below meth c G n0 z0 C H locs cells slots ls' hH hS h1 h2 h3 hl')
theorem st_istore {k : Nat} {E : List LT} {md : MD} {pc pc' : Nat} {L : List (Nat × AV)} {S : List AV} {M : Mem} {Q : Option AV → Mem → Prop} {L' : List (Nat × AV)} {i : Nat} {z : Int} (hd : decode md.2.1 pc = .ok (.istore i, 2)) (hp : pc + 2 = pc')  (hn : i < md.2.2.1) (hL : (i, vI z) :: drop1 i L = L') (h : WP k E md pc' L' S M Q) : WP k E md pc L (vI z :: S) M Q := by
  intro p l e R s m args below meth c G n0 z0 C H locs cells slots ls hH hS h1 h2 h3 hl
  subst hp; subst hL
  exact lv_istore (cc := md.2.1) C.1 C.2.1 hd  hl hn (drop1_map (gA G) i L (vI z)) (fun ls' hl' => h p l e R s m args below meth c G n0 z0 C H locs cells slots ls' hH hS h1 h2 h3 hl')
theorem st_lstore_n {k : Nat} {E : List LT} {md : MD} {pc pc' : Nat} {L : List (Nat × AV)} {S : List AV} {M : Mem} {Q : Option AV → Mem → Prop} {L' : List (Nat × AV)} {n : Fin 4} {i : Nat} {z : Int} (hd : decode md.2.1 pc = .ok (.lstore_n n, 1)) (hp : pc + 1 = pc') (hi : (n : Nat) = i) (hn : i + 1 < md.2.2.1) (hL : (i, vL z) :: drop2 i L = L') (h : WP k E md pc' L' S M Q) : WP k E md pc L (vL z :: S) M Q := by
  intro p l e R s m args below meth c G n0 z0 C H locs cells slots ls hH hS h1 h2 h3 hl
  subst hp; subst hL
  exact lv_lstore_n (cc := md.2.1) C.1 C.2.1 hd hi hl hn (drop2_map (gA G) i L (vL z)) (fun ls' hl' => h p l e R s m args below meth c G n0 z0 C H locs cells slots ls' hH hS h1 h2 h3 hl')
theorem st_lstore {k : Nat} {E : List LT} {md : MD} {pc pc' : Nat} {L : List (Nat × AV)} {S : List AV} {M : Mem} {Q : Option AV → Mem → Prop} {L' : List (Nat × AV)} {i : Nat} {z : Int} (hd : decode md.2.1 pc = .ok (.lstore i, 2)) (hp : pc + 2 = pc')  (hn : i + 1 < md.2.2.1) (hL : (i, vL z) :: drop2 i L = L') (h : WP k E md pc' L' S M Q) : WP k E md pc L (vL z :: S) M Q := by
  intro p l e R s m args below meth c G n0 z0 C H locs cells slots ls hH hS h1 h2 h3 hl
  subst hp; subst hL
  exact lv_lstore (cc := md.2.1) C.1 C.2.1 hd  hl hn (drop2_map (gA G) i L (vL z)) (fun ls' hl' => h p l e R s m args below meth c G n0 z0 C H locs cells slots ls' hH hS h1 h2 h3 hl')
theorem st_astore_n {k : Nat} {E : List LT} {md : MD} {pc pc' : Nat} {L : List (Nat × AV)} {S : List AV} {M : Mem} {Q : Option AV → Mem → Prop} {L' : List (Nat × AV)} {n : Fin 4} {i a : Nat} (hd : decode md.2.1 pc = .ok (.astore_n n, 1)) (hp : pc + 1 = pc') (hi : (n : Nat) = i) (hn : i < md.2.2.1) (hL : (i, vR (some a)) :: drop1 i L = L') (h : WP k E md pc' L' S M Q) : WP k E md pc L (vR (some a) :: S) M Q := by
  intro p l e R s m args below meth c G n0 z0 C H locs cells slots ls hH hS h1 h2 h3 hl
  subst hp; subst hL
  exact lv_astore_n (cc := md.2.1) C.1 C.2.1 hd hi hl hn (drop1_map (gA G) i L (vR (some a))) (fun ls' hl' => h p l e R s m args below meth c G n0 z0 C H locs cells slots ls' hH hS h1 h2 h3 hl')
theorem st_astore {k : Nat} {E : List LT} {md : MD} {pc pc' : Nat} {L : List (Nat × AV)} {S : List AV} {M : Mem} {Q : Option AV → Mem → Prop} {L' : List (Nat × AV)} {i a : Nat} (hd : decode md.2.1 pc = .ok (.astore i, 2)) (hp : pc + 2 = pc')  (hn : i < md.2.2.1) (hL : (i, vR (some a)) :: drop1 i L = L') (h : WP k E md pc' L' S M Q) : WP k E md pc L (vR (some a) :: S) M Q := by
  intro p l e R s m args below meth c G n0 z0 C H locs cells slots ls hH hS h1 h2 h3 hl
  subst hp; subst hL
  exact lv_astore (cc := md.2.1) C.1 C.2.1 hd  hl hn (drop1_map (gA G) i L (vR (some a))) (fun ls' hl' => h p l e R s m args below meth c G n0 z0 C H locs cells slots ls' hH hS h1 h2 h3 hl')
theorem st_iinc {k : Nat} {E : List LT} {md : MD} {pc pc' : Nat} {L : List (Nat × AV)} {S : List AV} {M : Mem} {Q : Option AV → Mem → Prop} {L' : List (Nat × AV)} {i j : Nat} {n z : Int} (hd : decode md.2.1 pc = .ok (.iinc i n, 3)) (hp : pc + 3 = pc') (hn : i < md.2.2.1) (hj : L[j]? = some (i, vI z)) (hL : (i, vI (z + n)) :: drop1 i L = L') (h : WP k E md pc' L' S M Q) : WP k E md pc L S M Q := by
  intro p l e R s m args below meth c G n0 z0 C H locs cells slots ls hH hS h1 h2 h3 hl
  subst hp; subst hL
  exact lv_iinc (cc := md.2.1) (x := iI z) C.1 C.2.1 hd hl (k := j) (by rw [List.getElem?_map, hj]; rfl) (iI_add z n) hn (drop1_map (gA G) i L (vI (z + n))) (fun ls' hl' => h p l e R s m args below meth c G n0 z0 C H locs cells slots ls' hH hS h1 h2 h3 hl')
theorem st_iadd {k : Nat} {E : List LT} {md : MD} {pc pc' : Nat} {L : List (Nat × AV)} {S : List AV} {M : Mem} {Q : Option AV → Mem → Prop} {a b : Int} (hd : decode md.2.1 pc = .ok (.iadd, 1)) (hp : pc + 1 = pc') (h : WP k E md pc' L (vI (a + b) :: S) M Q) : WP k E md pc L (vI b :: vI a :: S) M Q := by
  intro p l e R s m args below meth c G n0 z0 C H locs cells slots ls hH hS h1 h2 h3 hl
  subst hp
  refine lv_iadd (cc := md.2.1) (x := iI a) (y := iI b) C.1 C.2.1 hd ?_
  rw [iI_add]
  exact h p l e R s m args below meth c G n0 z0 C H locs cells slots ls hH hS h1 h2 h3 hl
theorem st_isub {k : Nat} {E : List LT} {md : MD} {pc pc' : Nat} {L : List (Nat × AV)} {S : List AV} {M : Mem} {Q : Option AV → Mem → Prop} {a b : Int} (hd : decode md.2.1 pc = .ok (.isub, 1)) (hp : pc + 1 = pc') (h : WP k E md pc' L (vI (a - b) :: S) M Q) : WP k E md pc L (vI b :: vI a :: S) M Q := by
  intro p l e R s m args below meth c G n0 z0 C H locs cells slots ls hH hS h1 h2 h3 hl
  subst hp
  refine lv_isub (cc := md.2.1) (x := iI a) (y := iI b) C.1 C.2.1 hd ?_
  rw [iI_sub]
  exact h p l e R s m args below meth c G n0 z0 C H locs cells slots ls hH hS h1 h2 h3 hl
theorem st_imul {k : Nat} {E : List LT} {md : MD} {pc pc' : Nat} {L : List (Nat × AV)} {S : List AV} {M : Mem} {Q : Option AV → Mem → Prop} {a b : Int} (hd : decode md.2.1 pc = .ok (.imul, 1)) (hp : pc + 1 = pc') (h : WP k E md pc' L (vI (a * b) :: S) M Q) : WP k E md pc L (vI b :: vI a :: S) M Q := by
  intro p l e R s m args below meth c G n0 z0 C H locs cells slots ls hH hS h1 h2 h3 hl
  subst hp
  refine lv_imul (cc := md.2.1) (x := iI a) (y := iI b) C.1 C.2.1 hd ?_
  rw [iI_mul]
  exact h p l e R s m args below meth c G n0 z0 C H locs cells slots ls hH hS h1 h2 h3 hl
theorem st_ineg {k : Nat} {E : List LT} {md : MD} {pc pc' : Nat} {L : List (Nat × AV)} {S : List AV} {M : Mem} {Q : Option AV → Mem → Prop} {a : Int} (hd : decode md.2.1 pc = .ok (.ineg, 1)) (hp : pc + 1 = pc') (h : WP k E md pc' L (vI (-a) :: S) M Q) : WP k E md pc L (vI a :: S) M Q := by
  intro p l e R s m args below meth c G n0 z0 C H locs cells slots ls hH hS h1 h2 h3 hl
  subst hp
  refine lv_ineg (cc := md.2.1) (x := iI a) C.1 C.2.1 hd ?_
  rw [iI_neg]
  exact h p l e R s m args below meth c G n0 z0 C H locs cells slots ls hH hS h1 h2 h3 hl
theorem st_iand {k : Nat} {E : List LT} {md : MD} {pc pc' : Nat} {L : List (Nat × AV)} {S : List AV} {M : Mem} {Q : Option AV → Mem → Prop} {a b z : Int} (hd : decode md.2.1 pc = .ok (.iand, 1)) (hp : pc + 1 = pc') (hz : (iI a &&& iI b).toInt = z) (h : WP k E md pc' L (vI z :: S) M Q) : WP k E md pc L (vI b :: vI a :: S) M Q := by
  intro p l e R s m args below meth c G n0 z0 C H locs cells slots ls hH hS h1 h2 h3 hl
  subst hp; subst hz
  refine lv_iand (cc := md.2.1) (x := iI a) (y := iI b) C.1 C.2.1 hd ?_
  rw [← iI_of (iI a &&& iI b)]
  exact h p l e R s m args below meth c G n0 z0 C H locs cells slots ls hH hS h1 h2 h3 hl
theorem st_ior {k : Nat} {E : List LT} {md : MD} {pc pc' : Nat} {L : List (Nat × AV)} {S : List AV} {M : Mem} {Q : Option AV → Mem → Prop} {a b z : Int} (hd : decode md.2.1 pc = .ok (.ior, 1)) (hp : pc + 1 = pc') (hz : (iI a ||| iI b).toInt = z) (h : WP k E md pc' L (vI z :: S) M Q) : WP k E md pc L (vI b :: vI a :: S) M Q := by
  intro p l e R s m args below meth c G n0 z0 C H locs cells slots ls hH hS h1 h2 h3 hl
  subst hp; subst hz
  refine lv_ior (cc := md.2.1) (x := iI a) (y := iI b) C.1 C.2.1 hd ?_
  rw [← iI_of (iI a ||| iI b)]
  exact h p l e R s m args below meth c G n0 z0 C H locs cells slots ls hH hS h1 h2 h3 hl
theorem st_ixor {k : Nat} {E : List LT} {md : MD} {pc pc' : Nat} {L : List (Nat × AV)} {S : List AV} {M : Mem} {Q : Option AV → Mem → Prop} {a b z : Int} (hd : decode md.2.1 pc = .ok (.ixor, 1)) (hp : pc + 1 = pc') (hz : (iI a ^^^ iI b).toInt = z) (h : WP k E md pc' L (vI z :: S) M Q) : WP k E md pc L (vI b :: vI a :: S) M Q := by
  intro p l e R s m args below meth c G n0 z0 C H locs cells slots ls hH hS h1 h2 h3 hl
  subst hp; subst hz
  refine lv_ixor (cc := md.2.1) (x := iI a) (y := iI b) C.1 C.2.1 hd ?_
  rw [← iI_of (iI a ^^^ iI b)]
  exact h p l e R s m args below meth c G n0 z0 C H locs cells slots ls hH hS h1 h2 h3 hl
theorem st_idiv {k : Nat} {E : List LT} {md : MD} {pc pc' : Nat} {L : List (Nat × AV)} {S : List AV} {M : Mem} {Q : Option AV → Mem → Prop} {a b z : Int} (hd : decode md.2.1 pc = .ok (.idiv, 1)) (hp : pc + 1 = pc') (h0 : ¬ iI b = 0) (hz : (iI a / iI b).toInt = z) (h : WP k E md pc' L (vI z :: S) M Q) : WP k E md pc L (vI b :: vI a :: S) M Q := by
  intro p l e R s m args below meth c G n0 z0 C H locs cells slots ls hH hS h1 h2 h3 hl
  subst hp; subst hz
  refine lv_idiv (cc := md.2.1) (x := iI a) (y := iI b) C.1 C.2.1 hd h0 ?_
  rw [← iI_of (iI a / iI b)]
  exact h p l e R s m args below meth c G n0 z0 C H locs cells slots ls hH hS h1 h2 h3 hl
theorem st_irem {k : Nat} {E : List LT} {md : MD} {pc pc' : Nat} {L : List (Nat × AV)} {S : List AV} {M : Mem} {Q : Option AV → Mem → Prop} {a b z : Int} (hd : decode md.2.1 pc = .ok (.irem, 1)) (hp : pc + 1 = pc') (h0 : ¬ iI b = 0) (hz : (iI a - iI a / iI b * iI b).toInt = z) (h : WP k E md pc' L (vI z :: S) M Q) : WP k E md pc L (vI b :: vI a :: S) M Q := by
  intro p l e R s m args below meth c G n0 z0 C H locs cells slots ls hH hS h1 h2 h3 hl
  subst hp; subst hz
  refine lv_irem (cc := md.2.1) (x := iI a) (y := iI b) C.1 C.2.1 hd h0 ?_
  rw [← iI_of (iI a - iI a / iI b * iI b)]
  exact h p l e R s m args below meth c G n0 z0 C H locs cells slots ls hH hS h1 h2 h3 hl
theorem st_ladd {k : Nat} {E : List LT} {md : MD} {pc pc' : Nat} {L : List (Nat × AV)} {S : List AV} {M : Mem} {Q : Option AV → Mem → Prop} {a b : Int} (hd : decode md.2.1 pc = .ok (.ladd, 1)) (hp : pc + 1 = pc') (h : WP k E md pc' L (vL (a + b) :: S) M Q) : WP k E md pc L (vL b :: vL a :: S) M Q := by
  intro p l e R s m args below meth c G n0 z0 C H locs cells slots ls hH hS h1 h2 h3 hl
  subst hp
  refine lv_ladd (cc := md.2.1) (x := iL a) (y := iL b) C.1 C.2.1 hd ?_
  rw [iL_add]
  exact h p l e R s m args below meth c G n0 z0 C H locs cells slots ls hH hS h1 h2 h3 hl
theorem st_lsub {k : Nat} {E : List LT} {md : MD} {pc pc' : Nat} {L : List (Nat × AV)} {S : List AV} {M : Mem} {Q : Option AV → Mem → Prop} {a b : Int} (hd : decode md.2.1 pc = .ok (.lsub, 1)) (hp : pc + 1 = pc') (h : WP k E md pc' L (vL (a - b) :: S) M Q) : WP k E md pc L (vL b :: vL a :: S) M Q := by
  intro p l e R s m args below meth c G n0 z0 C H locs cells slots ls hH hS h1 h2 h3 hl
  subst hp
  refine lv_lsub (cc := md.2.1) (x := iL a) (y := iL b) C.1 C.2.1 hd ?_
  rw [iL_sub]
  exact h p l e R s m args below meth c G n0 z0 C H locs cells slots ls hH hS h1 h2 h3 hl
theorem st_lmul {k : Nat} {E : List LT} {md : MD} {pc pc' : Nat} {L : List (Nat × AV)} {S : List AV} {M : Mem} {Q : Option AV → Mem → Prop} {a b : Int} (hd : decode md.2.1 pc = .ok (.lmul, 1)) (hp : pc + 1 = pc') (h : WP k E md pc' L (vL (a * b) :: S) M Q) : WP k E md pc L (vL b :: vL a :: S) M Q := by
  intro p l e R s m args below meth c G n0 z0 C H locs cells slots ls hH hS h1 h2 h3 hl
  subst hp
  refine lv_lmul (cc := md.2.1) (x := iL a) (y := iL b) C.1 C.2.1 hd ?_
  rw [iL_mul]
  exact h p l e R s m args below meth c G n0 z0 C H locs cells slots ls hH hS h1 h2 h3 hl
theorem st_lneg {k : Nat} {E : List LT} {md : MD} {pc pc' : Nat} {L : List (Nat × AV)} {S : List AV} {M : Mem} {Q : Option AV → Mem → Prop} {a : Int} (hd : decode md.2.1 pc = .ok (.lneg, 1)) (hp : pc + 1 = pc') (h : WP k E md pc' L (vL (-a) :: S) M Q) : WP k E md pc L (vL a :: S) M Q := by
  intro p l e R s m args below meth c G n0 z0 C H locs cells slots ls hH hS h1 h2 h3 hl
  subst hp
  refine lv_lneg (cc := md.2.1) (x := iL a) C.1 C.2.1 hd ?_
  rw [iL_neg]
  exact h p l e R s m args below meth c G n0 z0 C H locs cells slots ls hH hS h1 h2 h3 hl
theorem st_land {k : Nat} {E : List LT} {md : MD} {pc pc' : Nat} {L : List (Nat × AV)} {S : List AV} {M : Mem} {Q : Option AV → Mem → Prop} {a b z : Int} (hd : decode md.2.1 pc = .ok (.land, 1)) (hp : pc + 1 = pc') (hz : (iL a &&& iL b).toInt = z) (h : WP k E md pc' L (vL z :: S) M Q) : WP k E md pc L (vL b :: vL a :: S) M Q := by
  intro p l e R s m args below meth c G n0 z0 C H locs cells slots ls hH hS h1 h2 h3 hl
  subst hp; subst hz
  refine lv_land (cc := md.2.1) (x := iL a) (y := iL b) C.1 C.2.1 hd ?_
  rw [← iL_of (iL a &&& iL b)]
  exact h p l e R s m args below meth c G n0 z0 C H locs cells slots ls hH hS h1 h2 h3 hl
theorem st_lor {k : Nat} {E : List LT} {md : MD} {pc pc' : Nat} {L : List (Nat × AV)} {S : List AV} {M : Mem} {Q : Option AV → Mem → Prop} {a b z : Int} (hd : decode md.2.1 pc = .ok (.lor, 1)) (hp : pc + 1 = pc') (hz : (iL a ||| iL b).toInt = z) (h : WP k E md pc' L (vL z :: S) M Q) : WP k E md pc L (vL b :: vL a :: S) M Q := by
  intro p l e R s m args below meth c G n0 z0 C H locs cells slots ls hH hS h1 h2 h3 hl
  subst hp; subst hz
  refine lv_lor (cc := md.2.1) (x := iL a) (y := iL b) C.1 C.2.1 hd ?_
  rw [← iL_of (iL a ||| iL b)]
  exact h p l e R s m args below meth c G n0 z0 C H locs cells slots ls hH hS h1 h2 h3 hl
theorem st_lxor {k : Nat} {E : List LT} {md : MD} {pc pc' : Nat} {L : List (Nat × AV)} {S : List AV} {M : Mem} {Q : Option AV → Mem → Prop} {a b z : Int} (hd : decode md.2.1 pc = .ok (.lxor, 1)) (hp : pc + 1 = pc') (hz : (iL a ^^^ iL b).toInt = z) (h : WP k E md pc' L (vL z :: S) M Q) : WP k E md pc L (vL b :: vL a :: S) M Q := by
  intro p l e R s m args below meth c G n0 z0 C H locs cells slots ls hH hS h1 h2 h3 hl
  subst hp; subst hz
  refine lv_lxor (cc := md.2.1) (x := iL a) (y := iL b) C.1 C.2.1 hd ?_
  rw [← iL_of (iL a ^^^ iL b)]
  exact h p l e R s m args below meth c G n0 z0 C H locs cells slots ls hH hS h1 h2 h3 hl
theorem st_ldiv {k : Nat} {E : List LT} {md : MD} {pc pc' : Nat} {L : List (Nat × AV)} {S : List AV} {M : Mem} {Q : Option AV → Mem → Prop} {a b z : Int} (hd : decode md.2.1 pc = .ok (.ldiv, 1)) (hp : pc + 1 = pc') (h0 : ¬ iL b = 0) (hz : (iL a / iL b).toInt = z) (h : WP k E md pc' L (vL z :: S) M Q) : WP k E md pc L (vL b :: vL a :: S) M Q := by
  intro p l e R s m args below meth c G n0 z0 C H locs cells slots ls hH hS h1 h2 h3 hl
  subst hp; subst hz
  refine lv_ldiv (cc := md.2.1) (x := iL a) (y := iL b) C.1 C.2.1 hd h0 ?_
  rw [← iL_of (iL a / iL b)]
  exact h p l e R s m args below meth c G n0 z0 C H locs cells slots ls hH hS h1 h2 h3 hl
theorem st_lrem {k : Nat} {E : List LT} {md : MD} {pc pc' : Nat} {L : List (Nat × AV)} {S : List AV} {M : Mem} {Q : Option AV → Mem → Prop} {a b z : Int} (hd : decode md.2.1 pc = .ok (.lrem, 1)) (hp : pc + 1 = pc') (h0 : ¬ iL b = 0) (hz : (iL a - iL a / iL b * iL b).toInt = z) (h : WP k E md pc' L (vL z :: S) M Q) : WP k E md pc L (vL b :: vL a :: S) M Q := by
  intro p l e R s m args below meth c G n0 z0 C H locs cells slots ls hH hS h1 h2 h3 hl
  subst hp; subst hz
  refine lv_lrem (cc := md.2.1) (x := iL a) (y := iL b) C.1 C.2.1 hd h0 ?_
  rw [← iL_of (iL a - iL a / iL b * iL b)]
  exact h p l e R s m args below meth c G n0 z0 C H locs cells slots ls hH hS h1 h2 h3 hl
theorem st_ishl {k : Nat} {E : List LT} {md : MD} {pc pc' : Nat} {L : List (Nat × AV)} {S : List AV} {M : Mem} {Q : Option AV → Mem → Prop} {a b z : Int} (hd : decode md.2.1 pc = .ok (.ishl, 1)) (hp : pc + 1 = pc') (hz : (iI a <<< (iI b &&& 31)).toInt = z) (h : WP k E md pc' L (vI z :: S) M Q) : WP k E md pc L (vI b :: vI a :: S) M Q := by
  intro p l e R s m args below meth c G n0 z0 C H locs cells slots ls hH hS h1 h2 h3 hl
  subst hp; subst hz
  refine lv_ishl (cc := md.2.1) (x := iI a) (y := iI b) C.1 C.2.1 hd ?_
  rw [← iI_of (iI a <<< (iI b &&& 31))]
  exact h p l e R s m args below meth c G n0 z0 C H locs cells slots ls hH hS h1 h2 h3 hl
theorem st_ishr {k : Nat} {E : List LT} {md : MD} {pc pc' : Nat} {L : List (Nat × AV)} {S : List AV} {M : Mem} {Q : Option AV → Mem → Prop} {a b z : Int} (hd : decode md.2.1 pc = .ok (.ishr, 1)) (hp : pc + 1 = pc') (hz : (iI a >>> (iI b &&& 31)).toInt = z) (h : WP k E md pc' L (vI z :: S) M Q) : WP k E md pc L (vI b :: vI a :: S) M Q := by
  intro p l e R s m args below meth c G n0 z0 C H locs cells slots ls hH hS h1 h2 h3 hl
  subst hp; subst hz
  refine lv_ishr (cc := md.2.1) (x := iI a) (y := iI b) C.1 C.2.1 hd ?_
  rw [← iI_of (iI a >>> (iI b &&& 31))]
  exact h p l e R s m args below meth c G n0 z0 C H locs cells slots ls hH hS h1 h2 h3 hl
theorem st_iushr {k : Nat} {E : List LT} {md : MD} {pc pc' : Nat} {L : List (Nat × AV)} {S : List AV} {M : Mem} {Q : Option AV → Mem → Prop} {a b z : Int} (hd : decode md.2.1 pc = .ok (.iushr, 1)) (hp : pc + 1 = pc') (hz : ((iI a).toUInt32 >>> ((iI b).toUInt32 &&& Int32.toUInt32 31)).toInt32.toInt = z) (h : WP k E md pc' L (vI z :: S) M Q) : WP k E md pc L (vI b :: vI a :: S) M Q := by
  intro p l e R s m args below meth c G n0 z0 C H locs cells slots ls hH hS h1 h2 h3 hl
  subst hp; subst hz
  refine lv_iushr (cc := md.2.1) (x := iI a) (y := iI b) C.1 C.2.1 hd rfl ?_
  rw [← iI_of (((iI a).toUInt32 >>> ((iI b).toUInt32 &&& Int32.toUInt32 31)).toInt32)]
  exact h p l e R s m args below meth c G n0 z0 C H locs cells slots ls hH hS h1 h2 h3 hl
theorem st_lshl {k : Nat} {E : List LT} {md : MD} {pc pc' : Nat} {L : List (Nat × AV)} {S : List AV} {M : Mem} {Q : Option AV → Mem → Prop} {a b z : Int} (hd : decode md.2.1 pc = .ok (.lshl, 1)) (hp : pc + 1 = pc') (hz : (iL a <<< ((iI b).toInt64 &&& 63)).toInt = z) (h : WP k E md pc' L (vL z :: S) M Q) : WP k E md pc L (vI b :: vL a :: S) M Q := by
  intro p l e R s m args below meth c G n0 z0 C H locs cells slots ls hH hS h1 h2 h3 hl
  subst hp; subst hz
  refine lv_lshl (cc := md.2.1) (x := iL a) (y := iI b) C.1 C.2.1 hd rfl ?_
  rw [← iL_of (iL a <<< ((iI b).toInt64 &&& 63))]
  exact h p l e R s m args below meth c G n0 z0 C H locs cells slots ls hH hS h1 h2 h3 hl
theorem st_lshr {k : Nat} {E : List LT} {md : MD} {pc pc' : Nat} {L : List (Nat × AV)} {S : List AV} {M : Mem} {Q : Option AV → Mem → Prop} {a b z : Int} (hd : decode md.2.1 pc = .ok (.lshr, 1)) (hp : pc + 1 = pc') (hz : (iL a >>> ((iI b).toInt64 &&& 63)).toInt = z) (h : WP k E md pc' L (vL z :: S) M Q) : WP k E md pc L (vI b :: vL a :: S) M Q := by
  intro p l e R s m args below meth c G n0 z0 C H locs cells slots ls hH hS h1 h2 h3 hl
  subst hp; subst hz
  refine lv_lshr (cc := md.2.1) (x := iL a) (y := iI b) C.1 C.2.1 hd rfl ?_
  rw [← iL_of (iL a >>> ((iI b).toInt64 &&& 63))]
  exact h p l e R s m args below meth c G n0 z0 C H locs cells slots ls hH hS h1 h2 h3 hl
theorem st_i2l {k : Nat} {E : List LT} {md : MD} {pc pc' : Nat} {L : List (Nat × AV)} {S : List AV} {M : Mem} {Q : Option AV → Mem → Prop} {a : Int} (hd : decode md.2.1 pc = .ok (.i2l, 1)) (hp : pc + 1 = pc') (ha : inR a) (h : WP k E md pc' L (vL a :: S) M Q) : WP k E md pc L (vI a :: S) M Q := by
  intro p l e R s m args below meth c G n0 z0 C H locs cells slots ls hH hS h1 h2 h3 hl
  subst hp
  exact lv_i2l (cc := md.2.1) C.1 C.2.1 hd (iI_l ha) (h p l e R s m args below meth c G n0 z0 C H locs cells slots ls hH hS h1 h2 h3 hl)
theorem st_l2i {k : Nat} {E : List LT} {md : MD} {pc pc' : Nat} {L : List (Nat × AV)} {S : List AV} {M : Mem} {Q : Option AV → Mem → Prop} {a : Int} (hd : decode md.2.1 pc = .ok (.l2i, 1)) (hp : pc + 1 = pc') (h : WP k E md pc' L (vI a :: S) M Q) : WP k E md pc L (vL a :: S) M Q := by
  intro p l e R s m args below meth c G n0 z0 C H locs cells slots ls hH hS h1 h2 h3 hl
  subst hp
  exact lv_l2i (cc := md.2.1) C.1 C.2.1 hd (iL_i a) (h p l e R s m args below meth c G n0 z0 C H locs cells slots ls hH hS h1 h2 h3 hl)
theorem lgc {a b : Int} (ha : inL a) (hb : inL b) : lg_cmp (iL a) (iL b) = iI (if b < a then 1 else if a = b then 0 else -1) := by
  unfold lg_cmp
  simp only [iL_lt hb ha, iL_eq ha hb]
  split
  · rfl
  · split
    · rfl
    · rfl
theorem st_lcmp {k : Nat} {E : List LT} {md : MD} {pc pc' : Nat} {L : List (Nat × AV)} {S : List AV} {M : Mem} {Q : Option AV → Mem → Prop} {a b : Int} (hd : decode md.2.1 pc = .ok (.lcmp, 1)) (hp : pc + 1 = pc') (ha : inL a) (hb : inL b) (h : WP k E md pc' L (vI (if b < a then 1 else if a = b then 0 else -1) :: S) M Q) : WP k E md pc L (vL b :: vL a :: S) M Q := by
  intro p l e R s m args below meth c G n0 z0 C H locs cells slots ls hH hS h1 h2 h3 hl
  subst hp
  refine W.lcmp (cc := md.2.1) (x := iL a) (y := iL b) C.1 C.2.1 hd ?_
  rw [lgc ha hb]
  exact h p l e R s m args below meth c G n0 z0 C H locs cells slots ls hH hS h1 h2 h3 hl
theorem st_pop {k : Nat} {E : List LT} {md : MD} {pc pc' : Nat} {L : List (Nat × AV)} {S : List AV} {M : Mem} {Q : Option AV → Mem → Prop} {v : AV} (hd : decode md.2.1 pc = .ok (.pop, 1)) (hp : pc + 1 = pc') (hv : isL v = false) (h : WP k E md pc' L (S) M Q) : WP k E md pc L (v :: S) M Q := by
  intro p l e R s m args below meth c G n0 z0 C H locs cells slots ls hH hS h1 h2 h3 hl
  subst hp
  exact lv_pop (cc := md.2.1) C.1 C.2.1 hd (by rw [cv_cat, hv]; rfl) (h p l e R s m args below meth c G n0 z0 C H locs cells slots ls hH hS h1 h2 h3 hl)
theorem st_dup {k : Nat} {E : List LT} {md : MD} {pc pc' : Nat} {L : List (Nat × AV)} {S : List AV} {M : Mem} {Q : Option AV → Mem → Prop} {v : AV} (hd : decode md.2.1 pc = .ok (.dup, 1)) (hp : pc + 1 = pc') (hv : isL v = false) (h : WP k E md pc' L (v :: v :: S) M Q) : WP k E md pc L (v :: S) M Q := by
  intro p l e R s m args below meth c G n0 z0 C H locs cells slots ls hH hS h1 h2 h3 hl
  subst hp
  exact lv_dup (cc := md.2.1) C.1 C.2.1 hd (by rw [cv_cat, hv]; rfl) (h p l e R s m args below meth c G n0 z0 C H locs cells slots ls hH hS h1 h2 h3 hl)
theorem st_dup2 {k : Nat} {E : List LT} {md : MD} {pc pc' : Nat} {L : List (Nat × AV)} {S : List AV} {M : Mem} {Q : Option AV → Mem → Prop} {v w : AV} (hd : decode md.2.1 pc = .ok (.dup2, 1)) (hp : pc + 1 = pc') (hv : isL v = false) (hw : isL w = false) (h : WP k E md pc' L (v :: w :: v :: w :: S) M Q) : WP k E md pc L (v :: w :: S) M Q := by
  intro p l e R s m args below meth c G n0 z0 C H locs cells slots ls hH hS h1 h2 h3 hl
  subst hp
  exact lv_dup2_11 (cc := md.2.1) C.1 C.2.1 hd (by rw [cv_cat, hv]; rfl) (by rw [cv_cat, hw]; rfl) (h p l e R s m args below meth c G n0 z0 C H locs cells slots ls hH hS h1 h2 h3 hl)
theorem z_eq {a : Int} (ha : inR a) : iI a = 0 ↔ a = 0 := by rw [← iI_0]; exact iI_eq ha (by decide)
theorem z_lt {a : Int} (ha : inR a) : iI a < 0 ↔ a < 0 := by rw [← iI_0]; exact iI_lt ha (by decide)
theorem z_le {a : Int} (ha : inR a) : iI a ≤ 0 ↔ a ≤ 0 := by rw [← iI_0]; exact iI_le ha (by decide)
theorem z_gt {a : Int} (ha : inR a) : 0 < iI a ↔ 0 < a := by rw [← iI_0]; exact iI_lt (by decide) ha
theorem z_ge {a : Int} (ha : inR a) : 0 ≤ iI a ↔ 0 ≤ a := by rw [← iI_0]; exact iI_le (by decide) ha
theorem st_if_eq {k : Nat} {E : List LT} {md : MD} {pc pc' : Nat} {L : List (Nat × AV)} {S : List AV} {M : Mem} {Q : Option AV → Mem → Prop} {a : Int} {off : Int} {tg : Nat} (hd : decode md.2.1 pc = .ok (.ifCond .eq off, 3)) (ht : (pc : Int) + off = (tg : Int)) (hp : pc + 3 = pc') (ha : inR a) (kt : a = 0 → WP k E md tg L S M Q) (kf : ¬ a = 0 → WP k E md pc' L S M Q) : WP k E md pc L (vI a :: S) M Q := by
  intro p l e R s m args below meth c G n0 z0 C H locs cells slots ls hH hS h1 h2 h3 hl
  subst hp
  have kt0 := fun z => kt z p l e R s m args below meth c G n0 z0 C H locs cells slots ls hH hS h1 h2 h3 hl
  have kf0 := fun z => kf z p l e R s m args below meth c G n0 z0 C H locs cells slots ls hH hS h1 h2 h3 hl
  exact lv_if_eq (cc := md.2.1) (x := iI a) C.1 C.2.1 hd ht (fun q => kt0 ((z_eq ha).mp q)) (fun q => kf0 (fun z => q ((z_eq ha).mpr z)))
theorem st_icmp_eq {k : Nat} {E : List LT} {md : MD} {pc pc' : Nat} {L : List (Nat × AV)} {S : List AV} {M : Mem} {Q : Option AV → Mem → Prop} {a b : Int} {off : Int} {tg : Nat} (hd : decode md.2.1 pc = .ok (.if_icmp .eq off, 3)) (ht : (pc : Int) + off = (tg : Int)) (hp : pc + 3 = pc') (ha : inR a) (hb : inR b) (kt : a = b → WP k E md tg L S M Q) (kf : ¬ a = b → WP k E md pc' L S M Q) : WP k E md pc L (vI b :: vI a :: S) M Q := by
  intro p l e R s m args below meth c G n0 z0 C H locs cells slots ls hH hS h1 h2 h3 hl
  subst hp
  have kt0 := fun z => kt z p l e R s m args below meth c G n0 z0 C H locs cells slots ls hH hS h1 h2 h3 hl
  have kf0 := fun z => kf z p l e R s m args below meth c G n0 z0 C H locs cells slots ls hH hS h1 h2 h3 hl
  exact lv_icmp_eq (cc := md.2.1) (x := iI a) (y := iI b) C.1 C.2.1 hd ht (fun q => kt0 ((iI_eq ha hb).mp q)) (fun q => kf0 (fun z => q ((iI_eq ha hb).mpr z)))
theorem st_if_ne {k : Nat} {E : List LT} {md : MD} {pc pc' : Nat} {L : List (Nat × AV)} {S : List AV} {M : Mem} {Q : Option AV → Mem → Prop} {a : Int} {off : Int} {tg : Nat} (hd : decode md.2.1 pc = .ok (.ifCond .ne off, 3)) (ht : (pc : Int) + off = (tg : Int)) (hp : pc + 3 = pc') (ha : inR a) (kt : ¬ a = 0 → WP k E md tg L S M Q) (kf : a = 0 → WP k E md pc' L S M Q) : WP k E md pc L (vI a :: S) M Q := by
  intro p l e R s m args below meth c G n0 z0 C H locs cells slots ls hH hS h1 h2 h3 hl
  subst hp
  have kt0 := fun z => kt z p l e R s m args below meth c G n0 z0 C H locs cells slots ls hH hS h1 h2 h3 hl
  have kf0 := fun z => kf z p l e R s m args below meth c G n0 z0 C H locs cells slots ls hH hS h1 h2 h3 hl
  exact lv_if_ne (cc := md.2.1) (x := iI a) C.1 C.2.1 hd ht (fun q => kt0 (fun z => q ((z_eq ha).mpr z))) (fun q => kf0 ((z_eq ha).mp q))
theorem st_icmp_ne {k : Nat} {E : List LT} {md : MD} {pc pc' : Nat} {L : List (Nat × AV)} {S : List AV} {M : Mem} {Q : Option AV → Mem → Prop} {a b : Int} {off : Int} {tg : Nat} (hd : decode md.2.1 pc = .ok (.if_icmp .ne off, 3)) (ht : (pc : Int) + off = (tg : Int)) (hp : pc + 3 = pc') (ha : inR a) (hb : inR b) (kt : ¬ a = b → WP k E md tg L S M Q) (kf : a = b → WP k E md pc' L S M Q) : WP k E md pc L (vI b :: vI a :: S) M Q := by
  intro p l e R s m args below meth c G n0 z0 C H locs cells slots ls hH hS h1 h2 h3 hl
  subst hp
  have kt0 := fun z => kt z p l e R s m args below meth c G n0 z0 C H locs cells slots ls hH hS h1 h2 h3 hl
  have kf0 := fun z => kf z p l e R s m args below meth c G n0 z0 C H locs cells slots ls hH hS h1 h2 h3 hl
  exact lv_icmp_ne (cc := md.2.1) (x := iI a) (y := iI b) C.1 C.2.1 hd ht (fun q => kt0 (fun z => q ((iI_eq ha hb).mpr z))) (fun q => kf0 ((iI_eq ha hb).mp q))
theorem st_if_lt {k : Nat} {E : List LT} {md : MD} {pc pc' : Nat} {L : List (Nat × AV)} {S : List AV} {M : Mem} {Q : Option AV → Mem → Prop} {a : Int} {off : Int} {tg : Nat} (hd : decode md.2.1 pc = .ok (.ifCond .lt off, 3)) (ht : (pc : Int) + off = (tg : Int)) (hp : pc + 3 = pc') (ha : inR a) (kt : a < 0 → WP k E md tg L S M Q) (kf : ¬ a < 0 → WP k E md pc' L S M Q) : WP k E md pc L (vI a :: S) M Q := by
  intro p l e R s m args below meth c G n0 z0 C H locs cells slots ls hH hS h1 h2 h3 hl
  subst hp
  have kt0 := fun z => kt z p l e R s m args below meth c G n0 z0 C H locs cells slots ls hH hS h1 h2 h3 hl
  have kf0 := fun z => kf z p l e R s m args below meth c G n0 z0 C H locs cells slots ls hH hS h1 h2 h3 hl
  exact lv_if_lt (cc := md.2.1) (x := iI a) C.1 C.2.1 hd ht (fun q => kt0 ((z_lt ha).mp q)) (fun q => kf0 (fun z => q ((z_lt ha).mpr z)))
theorem st_icmp_lt {k : Nat} {E : List LT} {md : MD} {pc pc' : Nat} {L : List (Nat × AV)} {S : List AV} {M : Mem} {Q : Option AV → Mem → Prop} {a b : Int} {off : Int} {tg : Nat} (hd : decode md.2.1 pc = .ok (.if_icmp .lt off, 3)) (ht : (pc : Int) + off = (tg : Int)) (hp : pc + 3 = pc') (ha : inR a) (hb : inR b) (kt : a < b → WP k E md tg L S M Q) (kf : ¬ a < b → WP k E md pc' L S M Q) : WP k E md pc L (vI b :: vI a :: S) M Q := by
  intro p l e R s m args below meth c G n0 z0 C H locs cells slots ls hH hS h1 h2 h3 hl
  subst hp
  have kt0 := fun z => kt z p l e R s m args below meth c G n0 z0 C H locs cells slots ls hH hS h1 h2 h3 hl
  have kf0 := fun z => kf z p l e R s m args below meth c G n0 z0 C H locs cells slots ls hH hS h1 h2 h3 hl
  exact lv_icmp_lt (cc := md.2.1) (x := iI a) (y := iI b) C.1 C.2.1 hd ht (fun q => kt0 ((iI_lt ha hb).mp q)) (fun q => kf0 (fun z => q ((iI_lt ha hb).mpr z)))
theorem st_if_ge {k : Nat} {E : List LT} {md : MD} {pc pc' : Nat} {L : List (Nat × AV)} {S : List AV} {M : Mem} {Q : Option AV → Mem → Prop} {a : Int} {off : Int} {tg : Nat} (hd : decode md.2.1 pc = .ok (.ifCond .ge off, 3)) (ht : (pc : Int) + off = (tg : Int)) (hp : pc + 3 = pc') (ha : inR a) (kt : 0 ≤ a → WP k E md tg L S M Q) (kf : ¬ 0 ≤ a → WP k E md pc' L S M Q) : WP k E md pc L (vI a :: S) M Q := by
  intro p l e R s m args below meth c G n0 z0 C H locs cells slots ls hH hS h1 h2 h3 hl
  subst hp
  have kt0 := fun z => kt z p l e R s m args below meth c G n0 z0 C H locs cells slots ls hH hS h1 h2 h3 hl
  have kf0 := fun z => kf z p l e R s m args below meth c G n0 z0 C H locs cells slots ls hH hS h1 h2 h3 hl
  exact lv_if_ge (cc := md.2.1) (x := iI a) C.1 C.2.1 hd ht (fun q => kt0 ((z_ge ha).mp q)) (fun q => kf0 (fun z => q ((z_ge ha).mpr z)))
theorem st_icmp_ge {k : Nat} {E : List LT} {md : MD} {pc pc' : Nat} {L : List (Nat × AV)} {S : List AV} {M : Mem} {Q : Option AV → Mem → Prop} {a b : Int} {off : Int} {tg : Nat} (hd : decode md.2.1 pc = .ok (.if_icmp .ge off, 3)) (ht : (pc : Int) + off = (tg : Int)) (hp : pc + 3 = pc') (ha : inR a) (hb : inR b) (kt : b ≤ a → WP k E md tg L S M Q) (kf : ¬ b ≤ a → WP k E md pc' L S M Q) : WP k E md pc L (vI b :: vI a :: S) M Q := by
  intro p l e R s m args below meth c G n0 z0 C H locs cells slots ls hH hS h1 h2 h3 hl
  subst hp
  have kt0 := fun z => kt z p l e R s m args below meth c G n0 z0 C H locs cells slots ls hH hS h1 h2 h3 hl
  have kf0 := fun z => kf z p l e R s m args below meth c G n0 z0 C H locs cells slots ls hH hS h1 h2 h3 hl
  exact lv_icmp_ge (cc := md.2.1) (x := iI a) (y := iI b) C.1 C.2.1 hd ht (fun q => kt0 ((iI_le hb ha).mp q)) (fun q => kf0 (fun z => q ((iI_le hb ha).mpr z)))
theorem st_if_gt {k : Nat} {E : List LT} {md : MD} {pc pc' : Nat} {L : List (Nat × AV)} {S : List AV} {M : Mem} {Q : Option AV → Mem → Prop} {a : Int} {off : Int} {tg : Nat} (hd : decode md.2.1 pc = .ok (.ifCond .gt off, 3)) (ht : (pc : Int) + off = (tg : Int)) (hp : pc + 3 = pc') (ha : inR a) (kt : 0 < a → WP k E md tg L S M Q) (kf : ¬ 0 < a → WP k E md pc' L S M Q) : WP k E md pc L (vI a :: S) M Q := by
  intro p l e R s m args below meth c G n0 z0 C H locs cells slots ls hH hS h1 h2 h3 hl
  subst hp
  have kt0 := fun z => kt z p l e R s m args below meth c G n0 z0 C H locs cells slots ls hH hS h1 h2 h3 hl
  have kf0 := fun z => kf z p l e R s m args below meth c G n0 z0 C H locs cells slots ls hH hS h1 h2 h3 hl
  exact lv_if_gt (cc := md.2.1) (x := iI a) C.1 C.2.1 hd ht (fun q => kt0 ((z_gt ha).mp q)) (fun q => kf0 (fun z => q ((z_gt ha).mpr z)))
theorem st_icmp_gt {k : Nat} {E : List LT} {md : MD} {pc pc' : Nat} {L : List (Nat × AV)} {S : List AV} {M : Mem} {Q : Option AV → Mem → Prop} {a b : Int} {off : Int} {tg : Nat} (hd : decode md.2.1 pc = .ok (.if_icmp .gt off, 3)) (ht : (pc : Int) + off = (tg : Int)) (hp : pc + 3 = pc') (ha : inR a) (hb : inR b) (kt : b < a → WP k E md tg L S M Q) (kf : ¬ b < a → WP k E md pc' L S M Q) : WP k E md pc L (vI b :: vI a :: S) M Q := by
  intro p l e R s m args below meth c G n0 z0 C H locs cells slots ls hH hS h1 h2 h3 hl
  subst hp
  have kt0 := fun z => kt z p l e R s m args below meth c G n0 z0 C H locs cells slots ls hH hS h1 h2 h3 hl
  have kf0 := fun z => kf z p l e R s m args below meth c G n0 z0 C H locs cells slots ls hH hS h1 h2 h3 hl
  exact lv_icmp_gt (cc := md.2.1) (x := iI a) (y := iI b) C.1 C.2.1 hd ht (fun q => kt0 ((iI_lt hb ha).mp q)) (fun q => kf0 (fun z => q ((iI_lt hb ha).mpr z)))
theorem st_if_le {k : Nat} {E : List LT} {md : MD} {pc pc' : Nat} {L : List (Nat × AV)} {S : List AV} {M : Mem} {Q : Option AV → Mem → Prop} {a : Int} {off : Int} {tg : Nat} (hd : decode md.2.1 pc = .ok (.ifCond .le off, 3)) (ht : (pc : Int) + off = (tg : Int)) (hp : pc + 3 = pc') (ha : inR a) (kt : a ≤ 0 → WP k E md tg L S M Q) (kf : ¬ a ≤ 0 → WP k E md pc' L S M Q) : WP k E md pc L (vI a :: S) M Q := by
  intro p l e R s m args below meth c G n0 z0 C H locs cells slots ls hH hS h1 h2 h3 hl
  subst hp
  have kt0 := fun z => kt z p l e R s m args below meth c G n0 z0 C H locs cells slots ls hH hS h1 h2 h3 hl
  have kf0 := fun z => kf z p l e R s m args below meth c G n0 z0 C H locs cells slots ls hH hS h1 h2 h3 hl
  exact lv_if_le (cc := md.2.1) (x := iI a) C.1 C.2.1 hd ht (fun q => kt0 ((z_le ha).mp q)) (fun q => kf0 (fun z => q ((z_le ha).mpr z)))
theorem st_icmp_le {k : Nat} {E : List LT} {md : MD} {pc pc' : Nat} {L : List (Nat × AV)} {S : List AV} {M : Mem} {Q : Option AV → Mem → Prop} {a b : Int} {off : Int} {tg : Nat} (hd : decode md.2.1 pc = .ok (.if_icmp .le off, 3)) (ht : (pc : Int) + off = (tg : Int)) (hp : pc + 3 = pc') (ha : inR a) (hb : inR b) (kt : a ≤ b → WP k E md tg L S M Q) (kf : ¬ a ≤ b → WP k E md pc' L S M Q) : WP k E md pc L (vI b :: vI a :: S) M Q := by
  intro p l e R s m args below meth c G n0 z0 C H locs cells slots ls hH hS h1 h2 h3 hl
  subst hp
  have kt0 := fun z => kt z p l e R s m args below meth c G n0 z0 C H locs cells slots ls hH hS h1 h2 h3 hl
  have kf0 := fun z => kf z p l e R s m args below meth c G n0 z0 C H locs cells slots ls hH hS h1 h2 h3 hl
  exact lv_icmp_le (cc := md.2.1) (x := iI a) (y := iI b) C.1 C.2.1 hd ht (fun q => kt0 ((iI_le ha hb).mp q)) (fun q => kf0 (fun z => q ((iI_le ha hb).mpr z)))
theorem st_goto {k : Nat} {E : List LT} {md : MD} {pc pc' : Nat} {L : List (Nat × AV)} {S : List AV} {M : Mem} {Q : Option AV → Mem → Prop} {off : Int} (hd : decode md.2.1 pc = .ok (.goto off, 3)) (ht : (pc : Int) + off = (pc' : Int)) (h : WP k E md pc' L S M Q) : WP k E md pc L S M Q := by
  intro p l e R s m args below meth c G n0 z0 C H locs cells slots ls hH hS h1 h2 h3 hl
  exact lv_goto (cc := md.2.1) C.1 C.2.1 hd ht (h p l e R s m args below meth c G n0 z0 C H locs cells slots ls hH hS h1 h2 h3 hl)
theorem st_tblOut {k : Nat} {E : List LT} {md : MD} {pc pc' : Nat} {L : List (Nat × AV)} {S : List AV} {M : Mem} {Q : Option AV → Mem → Prop} {dflt lo hi : Int} {offs : Array Int} {len : Nat} {a : Int} (hd : decode md.2.1 pc = .ok (.tableswitch dflt lo hi offs, len)) (ha : inR a) (hx : a < lo ∨ hi < a) (ht : (pc : Int) + dflt = (pc' : Int)) (h : WP k E md pc' L S M Q) : WP k E md pc L (vI a :: S) M Q := by
  intro p l e R s m args below meth c G n0 z0 C H locs cells slots ls hH hS h1 h2 h3 hl
  exact lv_tableOut (cc := md.2.1) (x := iI a) C.1 C.2.1 hd (by rw [iI_to ha]; exact hx) ht (h p l e R s m args below meth c G n0 z0 C H locs cells slots ls hH hS h1 h2 h3 hl)
theorem st_tblIn {k : Nat} {E : List LT} {md : MD} {pc pc' : Nat} {L : List (Nat × AV)} {S : List AV} {M : Mem} {Q : Option AV → Mem → Prop} {dflt lo hi : Int} {offs : Array Int} {len : Nat} {a off : Int} (hd : decode md.2.1 pc = .ok (.tableswitch dflt lo hi offs, len)) (ha : inR a) (hx : lo ≤ a ∧ a ≤ hi) (ho : offs[(a - lo).toNat]? = some off) (ht : (pc : Int) + off = (pc' : Int)) (h : WP k E md pc' L S M Q) : WP k E md pc L (vI a :: S) M Q := by
  intro p l e R s m args below meth c G n0 z0 C H locs cells slots ls hH hS h1 h2 h3 hl
  exact lv_tableIn (cc := md.2.1) (x := iI a) C.1 C.2.1 hd (by rw [iI_to ha]; omega) (by rw [iI_to ha]; omega) (by rw [iI_to ha]; exact ho) ht (h p l e R s m args below meth c G n0 z0 C H locs cells slots ls hH hS h1 h2 h3 hl)
theorem st_lookup {k : Nat} {E : List LT} {md : MD} {pc pc' : Nat} {L : List (Nat × AV)} {S : List AV} {M : Mem} {Q : Option AV → Mem → Prop} {dflt : Int} {ps : Array (Int × Int)} {len : Nat} {a off : Int} (hd : decode md.2.1 pc = .ok (.lookupswitch dflt ps, len)) (ha : inR a) (hq : (ps.toList.zip (ps.toList.drop 1)).all (fun (a, next) => a.1 < next.1) = true) (ho : Op.lookupswitch.offset ps.toList dflt a = off) (ht : (pc : Int) + off = (pc' : Int)) (h : WP k E md pc' L S M Q) : WP k E md pc L (vI a :: S) M Q := by
  intro p l e R s m args below meth c G n0 z0 C H locs cells slots ls hH hS h1 h2 h3 hl
  exact lv_lookup (cc := md.2.1) (x := iI a) C.1 C.2.1 hd hq (by rw [iI_to ha]; exact ho) ht (h p l e R s m args below meth c G n0 z0 C H locs cells slots ls hH hS h1 h2 h3 hl)
end STEPS

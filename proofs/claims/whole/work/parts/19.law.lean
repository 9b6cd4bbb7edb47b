section LAWS
def R_law : String := "CandleInchLaw"
def lw_P (b : Addr) (xs : List Int32) (args : Array Value) (s : State) : Prop := args = #[.ref b] ∧ s.IntsAt b xs ∧ xs.length ≤ 3072 ∧ (Jvm.Cond.and given_1 narrow_1).before args s = true
def lw_Q (_ : Array Value) (s : State) (o : Outcome) (t : State) : Prop := o = .returned (some (.int 1)) ∧ Framed s o t [] 600000 7302250
def lw_Z (below : List Frame) (a : Array Value) (s : State) : State → Prop := fun t => ∃ o, t.status = .running ∧ Ended t below o ∧ lw_Q a s o t
/-- the law's own end, with 1 on the stack, nothing written that was there before, its room as the claim has it -/
theorem lw_ret {p : Program} {l : Launch} {e : Env} {s : State} {m : MethodId} {below : List Frame} {meth : Method} {c : Code} {b : Nat} (hx : p.tables.exec = Jvm.exec) (hb : c.code = code) (hr : meth.sig.returnType = ret) (hlocks : meth.locks = false) {pc : Nat} {H : Heap} {ls : Array Slot} (hdg : decode code pc = .ok (.ireturn, 1)) : W p l e room_1 s m #[Value.ref b] below meth c H [] 600000 7302250 (lw_Z below #[Value.ref b] s) (F0 m pc ls [.int 1]) := by
  intro T hT X
  obtain ⟨fs, hret, hrun, hended, hW, hframe⟩ := X.leave (v := some (.int 1)) (hlocks := hlocks) (fun h => by rw [hr] at h; cases h)
  have hmeth' : T.vm.method? m = some meth := X.method'
  refine ⟨T.setFrames fs, ?_, .returned (some (.int 1)), hrun, hended, rfl, ⟨_, rfl⟩, hW, hframe⟩
  jvm_step X.here [X.here.top, hx, hb, hdg, hmeth', hr, ret, narrow_b1]
  (try refine ⟨rfl, ?_⟩); (try refine ⟨rfl, ?_⟩)
  first | (intro acts; rw [hret _ acts rfl rfl rfl]) | rw [hret _ _ rfl rfl rfl]
  exact Steps.refl _
/-- what holds at the law's entry: the machine, the code, the tables' words (any of lw_tbl by 'hts w (by decide +kernel)'), the script of L ints xs at the cell b, what the Statement gives of the start (any of its parts by flat_of_before) -/
def lw_At (p : Program) (s : State) (m : MethodId) (meth : Method) (c : Code) (b L : Nat) (xs : Nat → Int32) : Prop :=
  p.tables.exec = Jvm.exec ∧ c.code = code ∧ meth.sig.returnType = ret ∧ c.maxLocals = 4 ∧ s.vm.findClass R_law = some m.cls ∧ (∀ w ∈ lw_tbl, w.before #[Value.ref b] s = true) ∧ va_X b L xs s s.heap ∧ b < s.heap.size ∧ meth.locks = false ∧ (Jvm.Cond.and given_1 narrow_1).before #[Value.ref b] s = true
def mdLaw : MD := (⟨R_law, "law", "([I)Z"⟩, code, 4, ret)
/-- the law's surroundings: the machine, its words, the script (cell 1000005), where the cells lie -/
def LCx (p : Program) (l : Launch) (e : Env) (s : State) (m : MethodId) (b : Nat) (below : List Frame) (meth : Method) (c : Code) (Ln : Nat) (xs : Nat → Int32) (G : Geo) : Prop :=
  p.tables.exec = Jvm.exec ∧ c.code = code ∧ c.maxLocals = 4 ∧ meth.sig.returnType = ret ∧ s.vm.findClass R_law = some m.cls ∧ (∀ w ∈ wG, w.before #[Value.ref b] s = true) ∧ meth.locks = false ∧ va_K (gD G) vwCl (gT G) s ∧ s.heap.size = gB G ∧ Stat G s s.heap ∧ va_X b Ln xs s s.heap ∧ b < s.heap.size ∧ gA G 1000005 = b ∧ Ln ≤ 3072
def Wl (p : Program) (l : Launch) (e : Env) (s : State) (m : MethodId) (b : Nat) (below : List Frame) (meth : Method) (c : Code) (G : Geo) (pc : Nat) (L : List (Nat × AV)) (S : List AV) (M : Mem) : Prop :=
  Wm p l e room_1 s m #[Value.ref b] below meth c G 0 0 LAY mdLaw (lw_Z below #[Value.ref b] s) pc L S M
theorem LCx.nA {p : Program} {l : Launch} {e : Env} {s : State} {m : MethodId} {b : Nat} {below : List Frame} {meth : Method} {c : Code} {Ln : Nat} {xs : Nat → Int32} {G : Geo} (C : LCx p l e s m b below meth c Ln xs G) : ¬ gF G b := by
  have h1 := C.2.2.2.2.2.2.2.2.1
  have h2 := C.2.2.2.2.2.2.2.2.2.2.2.1
  show ¬ gB G ≤ b
  omega
theorem lk_iconst {p : Program} {l : Launch} {e : Env} {s : State} {m : MethodId} {b : Nat} {below : List Frame} {meth : Method} {c : Code} {Ln : Nat} {xs : Nat → Int32} {G : Geo} {pc pc' : Nat} {L : List (Nat × AV)} {S : List AV} {M : Mem} (C : LCx p l e s m b below meth c Ln xs G) {n : Int} (hd : decode code pc = .ok (.iconst n, 1)) (hp : pc + 1 = pc') (h : Wl p l e s m b below meth c G pc' L (vI n :: S) M) : Wl p l e s m b below meth c G pc L (S) M := by
  intro H locs cells slots ls hH hS h1 h2 h3 hl
  subst hp
  exact lv_iconst (cc := code) C.1 C.2.1 hd rfl (h H locs cells slots ls hH hS h1 h2 h3 hl)
theorem lk_bipush {p : Program} {l : Launch} {e : Env} {s : State} {m : MethodId} {b : Nat} {below : List Frame} {meth : Method} {c : Code} {Ln : Nat} {xs : Nat → Int32} {G : Geo} {pc pc' : Nat} {L : List (Nat × AV)} {S : List AV} {M : Mem} (C : LCx p l e s m b below meth c Ln xs G) {n : Int} (hd : decode code pc = .ok (.bipush n, 2)) (hp : pc + 2 = pc') (hn : (Int8.ofInt n).toInt32 = iI n) (h : Wl p l e s m b below meth c G pc' L (vI n :: S) M) : Wl p l e s m b below meth c G pc L (S) M := by
  intro H locs cells slots ls hH hS h1 h2 h3 hl
  subst hp
  exact lv_bipush (cc := code) C.1 C.2.1 hd hn (h H locs cells slots ls hH hS h1 h2 h3 hl)
theorem lk_iload_n {p : Program} {l : Launch} {e : Env} {s : State} {m : MethodId} {b : Nat} {below : List Frame} {meth : Method} {c : Code} {Ln : Nat} {xs : Nat → Int32} {G : Geo} {pc pc' : Nat} {L : List (Nat × AV)} {S : List AV} {M : Mem} (C : LCx p l e s m b below meth c Ln xs G) {n : Fin 4} {i j : Nat} {z : Int} (hd : decode code pc = .ok (.iload_n n, 1)) (hp : pc + 1 = pc') (hi : (n : Nat) = i) (hj : L[j]? = some (i, vI z)) (h : Wl p l e s m b below meth c G pc' L (vI z :: S) M) : Wl p l e s m b below meth c G pc L (S) M := by
  intro H locs cells slots ls hH hS h1 h2 h3 hl
  subst hp
  exact lv_iload_n (cc := code) C.1 C.2.1 hd hi (lv_at hl j (by rw [List.getElem?_map, hj]; rfl)) (h H locs cells slots ls hH hS h1 h2 h3 hl)
theorem lk_aload_n {p : Program} {l : Launch} {e : Env} {s : State} {m : MethodId} {b : Nat} {below : List Frame} {meth : Method} {c : Code} {Ln : Nat} {xs : Nat → Int32} {G : Geo} {pc pc' : Nat} {L : List (Nat × AV)} {S : List AV} {M : Mem} (C : LCx p l e s m b below meth c Ln xs G) {n : Fin 4} {i j a : Nat} (hd : decode code pc = .ok (.aload_n n, 1)) (hp : pc + 1 = pc') (hi : (n : Nat) = i) (hj : L[j]? = some (i, vR (some a))) (h : Wl p l e s m b below meth c G pc' L (vR (some a) :: S) M) : Wl p l e s m b below meth c G pc L (S) M := by
  intro H locs cells slots ls hH hS h1 h2 h3 hl
  subst hp
  exact lv_aload_n (cc := code) C.1 C.2.1 hd hi (lv_at hl j (by rw [List.getElem?_map, hj]; rfl)) (h H locs cells slots ls hH hS h1 h2 h3 hl)
theorem lk_istore_n {p : Program} {l : Launch} {e : Env} {s : State} {m : MethodId} {b : Nat} {below : List Frame} {meth : Method} {c : Code} {Ln : Nat} {xs : Nat → Int32} {G : Geo} {pc pc' : Nat} {L : List (Nat × AV)} {S : List AV} {M : Mem} (C : LCx p l e s m b below meth c Ln xs G) {L' : List (Nat × AV)} {n : Fin 4} {i : Nat} {z : Int} (hd : decode code pc = .ok (.istore_n n, 1)) (hp : pc + 1 = pc') (hi : (n : Nat) = i) (hn : i < 4) (hL : (i, vI z) :: drop1 i L = L') (h : Wl p l e s m b below meth c G pc' L' S M) : Wl p l e s m b below meth c G pc L (vI z :: S) M := by
  intro H locs cells slots ls hH hS h1 h2 h3 hl
  subst hp; subst hL
  exact lv_istore_n (cc := code) C.1 C.2.1 hd hi hl hn (drop1_map (gA G) i L (vI z)) (fun ls' hl' => h H locs cells slots ls' hH hS h1 h2 h3 hl')
theorem lk_astore_n {p : Program} {l : Launch} {e : Env} {s : State} {m : MethodId} {b : Nat} {below : List Frame} {meth : Method} {c : Code} {Ln : Nat} {xs : Nat → Int32} {G : Geo} {pc pc' : Nat} {L : List (Nat × AV)} {S : List AV} {M : Mem} (C : LCx p l e s m b below meth c Ln xs G) {L' : List (Nat × AV)} {n : Fin 4} {i : Nat} {a : Nat} (hd : decode code pc = .ok (.astore_n n, 1)) (hp : pc + 1 = pc') (hi : (n : Nat) = i) (hn : i < 4) (hL : (i, vR (some a)) :: drop1 i L = L') (h : Wl p l e s m b below meth c G pc' L' S M) : Wl p l e s m b below meth c G pc L (vR (some a) :: S) M := by
  intro H locs cells slots ls hH hS h1 h2 h3 hl
  subst hp; subst hL
  exact lv_astore_n (cc := code) C.1 C.2.1 hd hi hl hn (drop1_map (gA G) i L (vR (some a))) (fun ls' hl' => h H locs cells slots ls' hH hS h1 h2 h3 hl')
theorem lk_iinc {p : Program} {l : Launch} {e : Env} {s : State} {m : MethodId} {b : Nat} {below : List Frame} {meth : Method} {c : Code} {Ln : Nat} {xs : Nat → Int32} {G : Geo} {pc pc' : Nat} {L : List (Nat × AV)} {S : List AV} {M : Mem} (C : LCx p l e s m b below meth c Ln xs G) {L' : List (Nat × AV)} {i j : Nat} {n z : Int} (hd : decode code pc = .ok (.iinc i n, 3)) (hp : pc + 3 = pc') (hn : i < 4) (hj : L[j]? = some (i, vI z)) (hL : (i, vI (z + n)) :: drop1 i L = L') (h : Wl p l e s m b below meth c G pc' L' S M) : Wl p l e s m b below meth c G pc L S M := by
  intro H locs cells slots ls hH hS h1 h2 h3 hl
  subst hp; subst hL
  exact lv_iinc (cc := code) (x := iI z) C.1 C.2.1 hd hl (k := j) (by rw [List.getElem?_map, hj]; rfl) (iI_add z n) hn (drop1_map (gA G) i L (vI (z + n))) (fun ls' hl' => h H locs cells slots ls' hH hS h1 h2 h3 hl')
theorem lk_iadd {p : Program} {l : Launch} {e : Env} {s : State} {m : MethodId} {b : Nat} {below : List Frame} {meth : Method} {c : Code} {Ln : Nat} {xs : Nat → Int32} {G : Geo} {pc pc' : Nat} {L : List (Nat × AV)} {S : List AV} {M : Mem} (C : LCx p l e s m b below meth c Ln xs G) {x y : Int} (hd : decode code pc = .ok (.iadd, 1)) (hp : pc + 1 = pc') (h : Wl p l e s m b below meth c G pc' L (vI (x + y) :: S) M) : Wl p l e s m b below meth c G pc L (vI y :: vI x :: S) M := by
  intro H locs cells slots ls hH hS h1 h2 h3 hl
  subst hp
  refine lv_iadd (cc := code) (x := iI x) (y := iI y) C.1 C.2.1 hd ?_
  rw [iI_add]
  exact h H locs cells slots ls hH hS h1 h2 h3 hl
theorem lk_isub {p : Program} {l : Launch} {e : Env} {s : State} {m : MethodId} {b : Nat} {below : List Frame} {meth : Method} {c : Code} {Ln : Nat} {xs : Nat → Int32} {G : Geo} {pc pc' : Nat} {L : List (Nat × AV)} {S : List AV} {M : Mem} (C : LCx p l e s m b below meth c Ln xs G) {x y : Int} (hd : decode code pc = .ok (.isub, 1)) (hp : pc + 1 = pc') (h : Wl p l e s m b below meth c G pc' L (vI (x - y) :: S) M) : Wl p l e s m b below meth c G pc L (vI y :: vI x :: S) M := by
  intro H locs cells slots ls hH hS h1 h2 h3 hl
  subst hp
  refine lv_isub (cc := code) (x := iI x) (y := iI y) C.1 C.2.1 hd ?_
  rw [iI_sub]
  exact h H locs cells slots ls hH hS h1 h2 h3 hl
theorem lk_iand {p : Program} {l : Launch} {e : Env} {s : State} {m : MethodId} {b : Nat} {below : List Frame} {meth : Method} {c : Code} {Ln : Nat} {xs : Nat → Int32} {G : Geo} {pc pc' : Nat} {L : List (Nat × AV)} {S : List AV} {M : Mem} (C : LCx p l e s m b below meth c Ln xs G) {x y z : Int} (hd : decode code pc = .ok (.iand, 1)) (hp : pc + 1 = pc') (hz : (iI x &&& iI y).toInt = z) (h : Wl p l e s m b below meth c G pc' L (vI z :: S) M) : Wl p l e s m b below meth c G pc L (vI y :: vI x :: S) M := by
  intro H locs cells slots ls hH hS h1 h2 h3 hl
  subst hp
  subst hz
  refine lv_iand (cc := code) (x := iI x) (y := iI y) C.1 C.2.1 hd ?_
  rw [← iI_of (iI x &&& iI y)]
  exact h H locs cells slots ls hH hS h1 h2 h3 hl
theorem lk_dup {p : Program} {l : Launch} {e : Env} {s : State} {m : MethodId} {b : Nat} {below : List Frame} {meth : Method} {c : Code} {Ln : Nat} {xs : Nat → Int32} {G : Geo} {pc pc' : Nat} {L : List (Nat × AV)} {S : List AV} {M : Mem} (C : LCx p l e s m b below meth c Ln xs G) {v : AV} (hd : decode code pc = .ok (.dup, 1)) (hp : pc + 1 = pc') (hv : isL v = false) (h : Wl p l e s m b below meth c G pc' L (v :: v :: S) M) : Wl p l e s m b below meth c G pc L (v :: S) M := by
  intro H locs cells slots ls hH hS h1 h2 h3 hl
  subst hp
  exact lv_dup (cc := code) C.1 C.2.1 hd (by rw [cv_cat, hv]; rfl) (h H locs cells slots ls hH hS h1 h2 h3 hl)
theorem lk_goto {p : Program} {l : Launch} {e : Env} {s : State} {m : MethodId} {b : Nat} {below : List Frame} {meth : Method} {c : Code} {Ln : Nat} {xs : Nat → Int32} {G : Geo} {pc pc' : Nat} {L : List (Nat × AV)} {S : List AV} {M : Mem} (C : LCx p l e s m b below meth c Ln xs G) {off : Int} (hd : decode code pc = .ok (.goto off, 3)) (ht : (pc : Int) + off = (pc' : Int)) (h : Wl p l e s m b below meth c G pc' L S M) : Wl p l e s m b below meth c G pc L S M := by
  intro H locs cells slots ls hH hS h1 h2 h3 hl
  exact lv_goto (cc := code) C.1 C.2.1 hd ht (h H locs cells slots ls hH hS h1 h2 h3 hl)
theorem lk_icmp_gt {p : Program} {l : Launch} {e : Env} {s : State} {m : MethodId} {b : Nat} {below : List Frame} {meth : Method} {c : Code} {Ln : Nat} {xs : Nat → Int32} {G : Geo} {pc pc' : Nat} {L : List (Nat × AV)} {S : List AV} {M : Mem} (C : LCx p l e s m b below meth c Ln xs G) {x y : Int} {off : Int} {tg : Nat} (hd : decode code pc = .ok (.if_icmp .gt off, 3)) (ht : (pc : Int) + off = (tg : Int)) (hp : pc + 3 = pc') (hx : inR x) (hy : inR y) (kt : y < x → Wl p l e s m b below meth c G tg L S M) (kf : ¬ y < x → Wl p l e s m b below meth c G pc' L S M) : Wl p l e s m b below meth c G pc L (vI y :: vI x :: S) M := by
  intro H locs cells slots ls hH hS h1 h2 h3 hl
  subst hp
  have kt0 := fun z => kt z H locs cells slots ls hH hS h1 h2 h3 hl
  have kf0 := fun z => kf z H locs cells slots ls hH hS h1 h2 h3 hl
  exact lv_icmp_gt (cc := code) (x := iI x) (y := iI y) C.1 C.2.1 hd ht (fun q => kt0 ((iI_lt hy hx).mp q)) (fun q => kf0 (fun z => q ((iI_lt hy hx).mpr z)))
theorem lk_icmp_eq {p : Program} {l : Launch} {e : Env} {s : State} {m : MethodId} {b : Nat} {below : List Frame} {meth : Method} {c : Code} {Ln : Nat} {xs : Nat → Int32} {G : Geo} {pc pc' : Nat} {L : List (Nat × AV)} {S : List AV} {M : Mem} (C : LCx p l e s m b below meth c Ln xs G) {x y : Int} {off : Int} {tg : Nat} (hd : decode code pc = .ok (.if_icmp .eq off, 3)) (ht : (pc : Int) + off = (tg : Int)) (hp : pc + 3 = pc') (hx : inR x) (hy : inR y) (kt : x = y → Wl p l e s m b below meth c G tg L S M) (kf : ¬ x = y → Wl p l e s m b below meth c G pc' L S M) : Wl p l e s m b below meth c G pc L (vI y :: vI x :: S) M := by
  intro H locs cells slots ls hH hS h1 h2 h3 hl
  subst hp
  have kt0 := fun z => kt z H locs cells slots ls hH hS h1 h2 h3 hl
  have kf0 := fun z => kf z H locs cells slots ls hH hS h1 h2 h3 hl
  exact lv_icmp_eq (cc := code) (x := iI x) (y := iI y) C.1 C.2.1 hd ht (fun q => kt0 ((iI_eq hx hy).mp q)) (fun q => kf0 (fun z => q ((iI_eq hx hy).mpr z)))
theorem lk_tblOut {p : Program} {l : Launch} {e : Env} {s : State} {m : MethodId} {b : Nat} {below : List Frame} {meth : Method} {c : Code} {Ln : Nat} {xs : Nat → Int32} {G : Geo} {pc pc' : Nat} {L : List (Nat × AV)} {S : List AV} {M : Mem} (C : LCx p l e s m b below meth c Ln xs G) {dflt lo hi : Int} {offs : Array Int} {len : Nat} {a : Int} (hd : decode code pc = .ok (.tableswitch dflt lo hi offs, len)) (ha : inR a) (hx : a < lo ∨ hi < a) (ht : (pc : Int) + dflt = (pc' : Int)) (h : Wl p l e s m b below meth c G pc' L S M) : Wl p l e s m b below meth c G pc L (vI a :: S) M := by
  intro H locs cells slots ls hH hS h1 h2 h3 hl
  exact lv_tableOut (cc := code) (x := iI a) C.1 C.2.1 hd (by rw [iI_to ha]; exact hx) ht (h H locs cells slots ls hH hS h1 h2 h3 hl)
theorem lk_tblIn {p : Program} {l : Launch} {e : Env} {s : State} {m : MethodId} {b : Nat} {below : List Frame} {meth : Method} {c : Code} {Ln : Nat} {xs : Nat → Int32} {G : Geo} {pc pc' : Nat} {L : List (Nat × AV)} {S : List AV} {M : Mem} (C : LCx p l e s m b below meth c Ln xs G) {dflt lo hi : Int} {offs : Array Int} {len : Nat} {a off : Int} (hd : decode code pc = .ok (.tableswitch dflt lo hi offs, len)) (ha : inR a) (hx : lo ≤ a ∧ a ≤ hi) (ho : offs[(a - lo).toNat]? = some off) (ht : (pc : Int) + off = (pc' : Int)) (h : Wl p l e s m b below meth c G pc' L S M) : Wl p l e s m b below meth c G pc L (vI a :: S) M := by
  intro H locs cells slots ls hH hS h1 h2 h3 hl
  exact lv_tableIn (cc := code) (x := iI a) C.1 C.2.1 hd (by rw [iI_to ha]; omega) (by rw [iI_to ha]; omega) (by rw [iI_to ha]; exact ho) ht (h H locs cells slots ls hH hS h1 h2 h3 hl)
theorem lk_slen {p : Program} {l : Launch} {e : Env} {s : State} {m : MethodId} {b : Nat} {below : List Frame} {meth : Method} {c : Code} {Ln : Nat} {xs : Nat → Int32} {G : Geo} {pc pc' : Nat} {L : List (Nat × AV)} {S : List AV} {M : Mem} (C : LCx p l e s m b below meth c Ln xs G) (hd : decode code pc = .ok (.arraylength, 1)) (hp : pc + 1 = pc') (h : Wl p l e s m b below meth c G pc' L (vI (Ln : Int) :: S) M) : Wl p l e s m b below meth c G pc L (vR (some 1000005) :: S) M := by
  intro H locs cells slots ls hH hS h1 h2 h3 hl
  subst hp
  have hb := C.2.2.2.2.2.2.2.2.2.2.2.2.1
  have h9 := h H locs cells slots ls hH hS h1 h2 h3 hl
  change W p l e room_1 s m #[Value.ref b] below meth c H locs cells slots _ (F0 m (pc + 1) ls (.int (iI (Ln : Int)) :: S.map (cv (gA G)))) at h9
  change W p l e room_1 s m #[Value.ref b] below meth c H locs cells slots _ (F0 m pc ls (.ref (gA G 1000005) :: S.map (cv (gA G))))
  rw [hb]
  refine va_slen (cc := code) C.1 C.2.1 C.2.2.2.2.2.2.2.2.2.2.1 C.2.2.2.2.2.2.2.2.2.2.2.1 C.nA hS hd ?_
  rw [iI, Int32.ofInt_eq_ofNat] at h9
  exact h9
theorem lk_sld {p : Program} {l : Launch} {e : Env} {s : State} {m : MethodId} {b : Nat} {below : List Frame} {meth : Method} {c : Code} {Ln : Nat} {xs : Nat → Int32} {G : Geo} {pc pc' : Nat} {L : List (Nat × AV)} {S : List AV} {M : Mem} (C : LCx p l e s m b below meth c Ln xs G) {z v : Int} (hd : decode code pc = .ok (.iaload, 1)) (hp : pc + 1 = pc') (h0 : 0 ≤ z ∧ z < Ln) (hv : (xs z.toNat).toInt = v) (h : Wl p l e s m b below meth c G pc' L (vI v :: S) M) : Wl p l e s m b below meth c G pc L (vI z :: vR (some 1000005) :: S) M := by
  intro H locs cells slots ls hH hS h1 h2 h3 hl
  subst hp; subst hv
  have hb := C.2.2.2.2.2.2.2.2.2.2.2.2.1
  have hln := C.2.2.2.2.2.2.2.2.2.2.2.2.2
  have h9 := h H locs cells slots ls hH hS h1 h2 h3 hl
  change W p l e room_1 s m #[Value.ref b] below meth c H locs cells slots _ (F0 m (pc + 1) ls (.int (iI (xs z.toNat).toInt) :: S.map (cv (gA G)))) at h9
  change W p l e room_1 s m #[Value.ref b] below meth c H locs cells slots _ (F0 m pc ls (.int (iI z) :: .ref (gA G 1000005) :: S.map (cv (gA G))))
  rw [hb]
  refine va_sld (cc := code) C.1 C.2.1 C.2.2.2.2.2.2.2.2.2.2.1 C.2.2.2.2.2.2.2.2.2.2.2.1 C.nA hS (i := iI z) (iI_in h0.1 h0.2 (by omega)) hd ?_
  rw [iI_nat h0.1 (by omega)]
  rw [iI_of] at h9
  exact h9
theorem lk_ret {p : Program} {l : Launch} {e : Env} {s : State} {m : MethodId} {b : Nat} {below : List Frame} {meth : Method} {c : Code} {Ln : Nat} {xs : Nat → Int32} {G : Geo} {pc pc' : Nat} {L : List (Nat × AV)} {S : List AV} {M : Mem} (C : LCx p l e s m b below meth c Ln xs G) (hd : decode code pc = .ok (.ireturn, 1)) : Wl p l e s m b below meth c G pc L [vI 1] M := by
  intro H locs cells slots ls hH hS h1 h2 h3 hl
  have hz : s.heap.size = gB G := C.2.2.2.2.2.2.2.2.1
  have hc : M.1.length ≤ 600000 := Nat.le_trans h3.1 (by decide +kernel)
  have hs : slo M.1 ≤ 7302250 := Nat.le_trans h3.2 (by decide +kernel)
  refine va_forget (fun q hq => by rw [hz]; exact hS.2.2 q hq) ?_
  refine W.widen (k := 600000) (n := 7302250) (by omega) (by omega) ?_
  exact lw_ret C.1 C.2.1 C.2.2.2.1 C.2.2.2.2.2.2.1 hd
theorem law_hold {p : Program} {l : Launch} {e : Env} {s : State} {m : MethodId} {b : Nat} {below : List Frame} {meth : Method} {c : Code} {Ln : Nat} {xs : Nat → Int32} {G : Geo} {E' : List LT} {M : Mem} {H : Heap} {locs : List Loc} (C : LCx p l e s m b below meth c Ln xs G) (hH : Hd G M H) (hS : va_S (gF G) s.heap H locs) (hE : M.1.length ≤ E'.length ∧ slo M.1 ≤ slo E' ∧ E'.length ≤ LAY.length ∧ slo E' ≤ slo LAY) {as : List AV} {U : State} (hU : U.heap = H) (hW : s.WarmedH U.vm) : va_Pc (as.map (cv (gA G))) (Hold G E' M) (as.map (cv (gA G))).toArray U := by
  subst hU
  exact ⟨rfl, hH, va_K.moved hW.alike C.2.2.2.2.2.2.2.1, C.2.2.2.2.2.2.2.2.2.1.to hS hW, hE.1, hE.2.1, Nat.le_trans hE.2.2.1 (by decide +kernel)⟩
theorem law_on {p : Program} {l : Launch} {e : Env} {s : State} {m : MethodId} {b : Nat} {below : List Frame} {meth : Method} {c : Code} {G : Geo} {E' : List LT} {pc : Nat} {L : List (Nat × AV)} {S : List AV} {M M' : Mem} {H1 : Heap} {locs1 : List Loc} {cells slots : Nat} {ls : Array Slot} (r : Option AV) (h : Wl p l e s m b below meth c G pc L (r.toList ++ S) M') (hM : M'.1 = E') (hH : Hd G M' H1) (hS : va_S (gF G) s.heap H1 locs1) (h1 : cells + 0 = M.1.length) (h2 : slots + 0 = slo M.1) (hE : M.1.length ≤ E'.length ∧ slo M.1 ≤ slo E' ∧ E'.length ≤ LAY.length ∧ slo E' ≤ slo LAY) (hl : lv_has ls 4 (L.map (fun q => (q.1, cv (gA G) q.2)))) :
    W p l e room_1 s m #[Value.ref b] below meth c H1 locs1 (cells + (E'.length - M.1.length)) (slots + (slo E' - slo M.1)) (lw_Z below #[Value.ref b] s) (F0 m pc ls ((r.map (cv (gA G))).toList ++ S.map (cv (gA G)))) := by
  subst hM
  have h9 := h H1 locs1 (cells + (M'.1.length - M.1.length)) (slots + (slo M'.1 - slo M.1)) ls hH hS (by omega) (by omega) ⟨hE.2.2.1, hE.2.2.2⟩ hl
  cases r <;> exact h9
theorem law_room {kc n : Nat} {E' : List LT} {cal : MD} {M : Mem} {cells slots : Nat} (hv : mdN cal n) (hk : kc ≤ 1000) (h1 : cells + 0 = M.1.length) (h2 : slots + 0 = slo M.1) (hE : M.1.length ≤ E'.length ∧ slo M.1 ≤ slo E' ∧ E'.length ≤ LAY.length ∧ slo E' ≤ slo LAY) : (kc + 1 ≤ room_1.frames ∧ 8 + (cal.2.2.1 + 11) + 64 * kc ≤ room_1.locals) ∧ (cells + (E'.length - M.1.length) ≤ room_1.cells ∧ slots + (slo E' - slo M.1) ≤ room_1.slots) := by
  have d := hv.2.2.2
  have e1 : LAY.length ≤ 600000 := by decide +kernel
  have e2 : slo LAY ≤ 7302250 := by decide +kernel
  show (kc + 1 ≤ 2048 ∧ 8 + (cal.2.2.1 + 11) + 64 * kc ≤ 84000) ∧ (cells + (E'.length - M.1.length) ≤ 600000 ∧ slots + (slo E' - slo M.1) ≤ 7302250)
  omega
theorem goodVL {cal : MD} {own : String} {x : Nat} {n : Nat} (hv : mdV cal n) (hl0 : Cond.methodLink own x cal.1 ∈ wG) : GoodIn wG (wsV own x cal.1.cls cal.1 (wds cal)) := by
  intro w hw
  have h : w ∈ wG := by
    rcases List.mem_append.mp hw with h | h
    · simp only [List.mem_cons, List.not_mem_nil, or_false] at h
      rcases h with rfl | rfl | rfl | rfl
      · exact hl0
      · exact hv.2.1
      · exact hv.2.2.1
      · exact hv.2.2.2.1
    · rcases List.mem_cons.mp h with rfl | h
      · exact hv.2.2.2.2
      · exact h
  exact ⟨h, good_of_word (wG_good h)⟩
theorem lk_callV {p : Program} {l : Launch} {e : Env} {s : State} {m : MethodId} {b : Nat} {below : List Frame} {meth : Method} {c : Code} {Ln : Nat} {xs : Nat → Int32} {G : Geo} {pc pc' : Nat} {L : List (Nat × AV)} {S : List AV} {M : Mem} (C : LCx p l e s m b below meth c Ln xs G) {kc : Nat} {E' : List LT} {cal : MD} {x a ci nf n : Nat} {as S' : List AV} {r0 : vw_C} {Q1 : Option AV → Mem → Prop} (hd : decode code pc = .ok (.invokevirtual x, 3)) (hp : pc + 3 = pc') (hl0 : Cond.methodLink R_law x cal.1 ∈ wG) (hv : mdV cal n) (hn : as.length = n) (ha : M.1[a]? = some (ci + 3, nf)) (hr : vwCl[ci]? = some r0) (hC : r0.1 = cal.1.cls) (hS' : as.reverse ++ vR (some a) :: S = S') (hc : catL S ≤ 8) (hk : kc ≤ 1000) (hE : M.1.length ≤ E'.length ∧ slo M.1 ≤ slo E' ∧ E'.length ≤ LAY.length ∧ slo E' ≤ slo LAY) (h : WPm kc E' cal (vR (some a) :: as) M Q1) (h2 : ∀ r M', Q1 r M' → Wl p l e s m b below meth c G pc' L (r.toList ++ S) M') : Wl p l e s m b below meth c G pc L S' M := by
  intro H locs cells slots ls hH hS h1 h3 h4 hl
  subst hp; subst hS'
  have hro := law_room hv.1 hk h1 h3 hE
  have e1 : (as.reverse ++ vR (some a) :: S).map (cv (gA G)) = (as.map (cv (gA G))).reverse ++ .ref (gA G a) :: S.map (cv (gA G)) := by simp [cv, va_rf]
  rw [e1]
  have hrun := va_runV (p := p) (l := l) (e := e) (R := room_1) (s := s) (m := m) (args := #[Value.ref b]) (below := below) (meth := meth) (c := c) (H := H) (locs := locs) (cells := cells) (slots := slots) (cc := code) (nL := 4) (own := R_law) (Ts := wG) (C := cal.1.cls) (b := gA G a) (As := as.map (cv (gA G))) (rest := S.map (cv (gA G))) (g := F0 m pc ls ((as.map (cv (gA G))).reverse ++ .ref (gA G a) :: S.map (cv (gA G)))) ⟨C.1, C.2.1, C.2.2.1, C.2.2.2.2.1, C.2.2.2.2.2.1⟩ (h l G)
    (cwV n C.2.2.2.2.2.1 (goodVL hv hl0) rfl rfl rfl ⟨rfl, hv.1.2.1.1, hv.1.2.1.2, hv.1.2.2.1⟩ hro.1) ⟨hold_blind, by rw [← hC]; exact va_recv C.2.2.2.2.2.2.2.1 hH.1 hr (ws_get ha), fun U hU hW => law_hold C hH hS hE (as := vR (some a) :: as) hU hW⟩ rfl (by rw [List.length_map]; exact hn) hl.1 rfl (lv_room (by rw [catL_map]; exact hc)) hd hro.2
  exact run_go hrun hS (fun r M' H1 locs1 q hM hH1 hS1 => law_on r (h2 r M' q) hM hH1 hS1 h1 h3 hE hl)
theorem lk_callI {p : Program} {l : Launch} {e : Env} {s : State} {m : MethodId} {b : Nat} {below : List Frame} {meth : Method} {c : Code} {Ln : Nat} {xs : Nat → Int32} {G : Geo} {pc pc' : Nat} {L : List (Nat × AV)} {S : List AV} {M : Mem} (C : LCx p l e s m b below meth c Ln xs G) {kc : Nat} {E' : List LT} {cal : MD} {x a n : Nat} {as S' : List AV} {Q1 : Option AV → Mem → Prop} (hd : decode code pc = .ok (.invokespecial x, 3)) (hp : pc + 3 = pc') (hl0 : Cond.methodLink R_law x cal.1 ∈ wG) (hv : mdI cal n) (hy : cal.1.name = "<init>") (hret : cal.2.2.2 = none) (hn : as.length = n) (hS' : as.reverse ++ vR (some a) :: S = S') (hc : catL S ≤ 8) (hk : kc ≤ 1000) (hE : M.1.length ≤ E'.length ∧ slo M.1 ≤ slo E' ∧ E'.length ≤ LAY.length ∧ slo E' ≤ slo LAY) (h : WPm kc E' cal (vR (some a) :: as) M Q1) (h2 : ∀ r M', Q1 r M' → Wl p l e s m b below meth c G pc' L (r.toList ++ S) M') : Wl p l e s m b below meth c G pc L S' M := by
  intro H locs cells slots ls hH hS h1 h3 h4 hl
  subst hp; subst hS'
  have hro := law_room hv.1 hk h1 h3 hE
  have e1 : (as.reverse ++ vR (some a) :: S).map (cv (gA G)) = (as.map (cv (gA G))).reverse ++ .ref (gA G a) :: S.map (cv (gA G)) := by simp [cv, va_rf]
  rw [e1]
  have hrun := va_runI (p := p) (l := l) (e := e) (R := room_1) (s := s) (m := m) (args := #[Value.ref b]) (below := below) (meth := meth) (c := c) (H := H) (locs := locs) (cells := cells) (slots := slots) (cc := code) (nL := 4) (own := R_law) (Ts := wG) (b := gA G a) (As := as.map (cv (gA G))) (rest := S.map (cv (gA G))) (g := F0 m pc ls ((as.map (cv (gA G))).reverse ++ .ref (gA G a) :: S.map (cv (gA G)))) ⟨C.1, C.2.1, C.2.2.1, C.2.2.2.2.1, C.2.2.2.2.2.1⟩ (h l G)
    (cwI (bytes := cal.2.1) (maxL := cal.2.2.1) (ws' := wG) n C.2.2.2.2.2.1 (wds_in (fun w h => h) hv.2.2.2) (by unfold wds; rw [hret]) rfl rfl (C.2.2.2.2.2.1 _ hv.2.2.1) (C.2.2.2.2.2.1 _ hl0) (C.2.2.2.2.2.1 _ hv.2.1) hy ⟨hv.1.2.1.1, hv.1.2.1.2, hv.1.2.2.1⟩ hro.1) ⟨hold_blind, fun U hU hW => law_hold C hH hS hE (as := vR (some a) :: as) hU hW⟩ rfl (by rw [List.length_map]; exact hn) hl.1 rfl (lv_room (by rw [catL_map]; exact hc)) hd hro.2
  exact run_go hrun hS (fun r M' H1 locs1 q hM hH1 hS1 => law_on r (h2 r M' q) hM hH1 hS1 h1 h3 hE hl)
theorem lk_new {p : Program} {l : Launch} {e : Env} {s : State} {m : MethodId} {b : Nat} {below : List Frame} {meth : Method} {c : Code} {Ln : Nat} {xs : Nat → Int32} {G : Geo} {pc pc' : Nat} {L : List (Nat × AV)} {S : List AV} {M : Mem} (C : LCx p l e s m b below meth c Ln xs G) {x ci q : Nat} {r0 : vw_C} {M' : Mem} (hd : decode code pc = .ok (.new x, 3)) (hp : pc + 3 = pc') (hr : vwCl[ci]? = some r0) (hl0 : Cond.classLink R_law x r0.1 ∈ wG) (hw : Cond.instantiable r0.1 r0.2.2 ∈ wG ∧ Cond.initialized r0.1 ∈ wG) (hty : (List.range r0.2.2).all (fun j => okTy (Ty ci j)) = true) (hE : M.1.length + 1 ≤ LAY.length ∧ slo M.1 + r0.2.2 ≤ slo LAY) (hq : M.1.length = q) (hM : newC M (ci + 3, r0.2.2) = M') (h : Wl p l e s m b below meth c G pc' L (vR (some q) :: S) M') : Wl p l e s m b below meth c G pc L S M := by
  intro H locs cells slots ls hH hS h1 h2 h3 hl
  subst hp; subst hM; subst hq
  have b0 : LAY.length ≤ 600000 ∧ slo LAY ≤ 7302250 := by decide +kernel
  have rc : room_1.cells = 600000 := rfl
  have rs : room_1.slots = 7302250 := rfl
  have hc := cl_ok ci r0 hr
  have hts : ∀ w ∈ wG, w.before #[Value.ref b] s = true := C.2.2.2.2.2.1
  have hin : ∀ w ∈ u_ws r0.1 r0.2.1 r0.2.2, w ∈ wG := hc.1
  have hKn := C.2.2.2.2.2.2.2.1.1 ci _ hr
  have had : gA G M.1.length = gB G + M.1.length := hH.2.2.2.1 _ (Nat.le_refl _) (by omega)
  refine W.newcK (cc := code) (own := R_law) (C := r0.1) (n := r0.2.2) C.1 C.2.1 C.2.2.2.2.1 (hts _ hl0) (hts _ hw.1) (hts _ hw.2) rfl hd (by omega) (by omega) hKn.2.1 (h := gB G + M.1.length) hH.2.1 (fun H1 kC hkC f1 f2 f3 => ?_)
  have hcell : va_P (gD G) vwCl [(gA G M.1.length, encC G (newC M (ci + 3, r0.2.2)) M.1.length (ci + 3, r0.2.2))] H1 := by
    intro j x hx
    have hz : j < 1 := (List.getElem?_eq_some_iff.mp hx).1
    rw [show j = 0 by omega] at hx
    cases hx
    rw [had]
    refine ⟨r0, hr, (u_born (Ty ci) hts hin hKn hkC f1 hc.2.1).to fun j hj => ?_⟩
    show defaultValue (Ty ci j) = (fsC (gA G) (newC M (ci + 3, r0.2.2)) M.1.length ci r0.2.2).getD j .null
    rw [List.getD_eq_getElem?_getD, fs_get hj]
    have ht := List.all_eq_true.mp hty j (List.mem_range.mpr hj)
    revert ht
    cases Ty ci j <;> simp [fv, newC, ze2, defaultValue, va_rf, okTy]
  have hk : ∀ (j : Nat) (x : Nat × va_E), (wsC G M)[j]? = some x → H1[x.1]? = H[x.1]? := fun j x hx => f3 x.1 (by rw [← hH.2.1]; exact (hH.1 j x hx).lt)
  have hP1 : va_P (gD G) vwCl (wsC G (newC M (ci + 3, r0.2.2))) H1 := by
    rw [ws_new]
    exact (hH.1.kept hk).app hcell
  have hS1 : va_S (gF G) s.heap H1 locs := ⟨Nat.le_trans hS.1 (by rw [f2, hH.2.1]; omega), fun y g1 g2 => (f3 y (by rw [← hH.2.1]; exact Nat.lt_of_lt_of_le g1 hS.1)).trans (hS.2.1 y g1 g2), hS.2.2⟩
  have hln : (newC M (ci + 3, r0.2.2)).1.length = M.1.length + 1 := by simp [newC]
  have hsl : slo (newC M (ci + 3, r0.2.2)).1 = slo M.1 + r0.2.2 := by simp [newC, slo]
  have h9 := h H1 locs (cells + 1) (slots + r0.2.2) ls ⟨hP1, by rw [hln, f2]; omega, by rw [hln]; exact hH.2.2.succ (by omega)⟩ hS1 (by rw [hln]; omega) (by rw [hsl]; omega) ⟨by rw [hln]; omega, by rw [hsl]; omega⟩ hl
  change W p l e room_1 s m #[Value.ref b] below meth c H1 locs (cells + 1) (slots + r0.2.2) _ (F0 m (pc + 3) ls (.ref (gA G M.1.length) :: S.map (cv (gA G)))) at h9
  rw [had] at h9
  exact h9
set_option maxRecDepth 20000 in
theorem n_L_7 : Cond.classLink R_law 7 RX11 ∈ wG := wG_in tb_1 22 (by decide +kernel) rfl
set_option maxRecDepth 20000 in
theorem l_L_9 : Cond.methodLink R_law 9 yX11_init ∈ wG := wG_in tb_1 24 (by decide +kernel) rfl
set_option maxRecDepth 20000 in
theorem l_L_13 : Cond.methodLink R_law 13 yX11_feed ∈ wG := wG_in tb_3 99 (by decide +kernel) rfl
set_option maxRecDepth 20000 in
theorem l_L_18 : Cond.methodLink R_law 18 yX11_end ∈ wG := wG_in tb_3 111 (by decide +kernel) rfl
set_option maxRecDepth 20000 in
theorem l_L_23 : Cond.methodLink R_law 23 yX11_library ∈ wG := wG_in tb_3 119 (by decide +kernel) rfl
set_option maxRecDepth 20000 in
theorem l_L_28 : Cond.methodLink R_law 28 yX11_fault ∈ wG := wG_in tb_4 116 (by decide +kernel) rfl
set_option maxRecDepth 20000 in
theorem l_L_33 : Cond.methodLink R_law 33 yX11_has ∈ wG := wG_in tb_4 120 (by decide +kernel) rfl
set_option maxRecDepth 20000 in
theorem l_L_37 : Cond.methodLink R_law 37 yX11_letter ∈ wG := wG_in tb_4 149 (by decide +kernel) rfl
set_option maxRecDepth 20000 in
theorem l_L_42 : Cond.methodLink R_law 42 yX11_page ∈ wG := wG_in tb_4 158 (by decide +kernel) rfl
set_option maxRecDepth 20000 in
theorem l_L_47 : Cond.methodLink R_law 47 yX11_reader ∈ wG := wG_in tb_4 166 (by decide +kernel) rfl
set_option maxRecDepth 20000 in
theorem l_L_51 : Cond.methodLink R_law 51 yX11_table ∈ wG := wG_in tb_4 175 (by decide +kernel) rfl
set_option maxRecDepth 20000 in
theorem l_L_55 : Cond.methodLink R_law 55 yX11_takes ∈ wG := wG_in tb_4 224 (by decide +kernel) rfl
set_option maxRecDepth 20000 in
theorem l_L_59 : Cond.methodLink R_law 59 yX11_burns ∈ wG := wG_in tb_5 0 (by decide +kernel) rfl
set_option maxRecDepth 20000 in
theorem l_L_63 : Cond.methodLink R_law 63 yX11_tonight ∈ wG := wG_in tb_5 5 (by decide +kernel) rfl
set_option maxRecDepth 20000 in
theorem l_L_67 : Cond.methodLink R_law 67 yX11_whole ∈ wG := wG_in tb_5 57 (by decide +kernel) rfl
set_option maxRecDepth 20000 in
theorem l_L_71 : Cond.methodLink R_law 71 yX11_seat ∈ wG := wG_in tb_5 77 (by decide +kernel) rfl
set_option maxRecDepth 20000 in
theorem l_L_76 : Cond.methodLink R_law 76 yX11_list ∈ wG := wG_in tb_5 89 (by decide +kernel) rfl
set_option maxRecDepth 20000 in
theorem l_L_80 : Cond.methodLink R_law 80 yX11_drop ∈ wG := wG_in tb_5 105 (by decide +kernel) rfl
set_option maxRecDepth 20000 in
theorem l_L_84 : Cond.methodLink R_law 84 yX11_tell ∈ wG := wG_in tb_5 109 (by decide +kernel) rfl
set_option maxRecDepth 20000 in
theorem l_L_89 : Cond.methodLink R_law 89 yX11_night ∈ wG := wG_in tb_5 127 (by decide +kernel) rfl
set_option maxRecDepth 20000 in
theorem l_L_93 : Cond.methodLink R_law 93 yX11_winter ∈ wG := wG_in tb_5 147 (by decide +kernel) rfl
set_option maxRecDepth 20000 in
theorem l_L_97 : Cond.methodLink R_law 97 yX11_undo ∈ wG := wG_in tb_5 157 (by decide +kernel) rfl
set_option maxRecDepth 20000 in
theorem l_L_102 : Cond.methodLink R_law 102 yX11_seed ∈ wG := wG_in tb_5 165 (by decide +kernel) rfl
set_option maxRecDepth 20000 in
theorem l_L_106 : Cond.methodLink R_law 106 yX11_kept ∈ wG := wG_in tb_5 169 (by decide +kernel) rfl
set_option maxRecDepth 20000 in
theorem l_L_110 : Cond.methodLink R_law 110 yX11_work ∈ wG := wG_in tb_5 173 (by decide +kernel) rfl
set_option maxRecDepth 20000 in
theorem l_L_114 : Cond.methodLink R_law 114 yX11_scholar ∈ wG := wG_in tb_5 207 (by decide +kernel) rfl
set_option maxRecDepth 20000 in
theorem l_L_118 : Cond.methodLink R_law 118 yX11_shared ∈ wG := wG_in tb_5 211 (by decide +kernel) rfl
set_option maxRecDepth 20000 in
theorem l_L_122 : Cond.methodLink R_law 122 yX11_seated ∈ wG := wG_in tb_6 12 (by decide +kernel) rfl
set_option maxRecDepth 20000 in
theorem l_L_126 : Cond.methodLink R_law 126 yX11_most ∈ wG := wG_in tb_6 69 (by decide +kernel) rfl
set_option maxRecDepth 20000 in
theorem l_L_130 : Cond.methodLink R_law 130 yX11_wax ∈ wG := wG_in tb_6 89 (by decide +kernel) rfl
set_option maxRecDepth 20000 in
theorem l_L_134 : Cond.methodLink R_law 134 yX11_index ∈ wG := wG_in tb_6 106 (by decide +kernel) rfl
set_option maxRecDepth 20000 in
theorem l_L_138 : Cond.methodLink R_law 138 yX11_image ∈ wG := wG_in tb_6 114 (by decide +kernel) rfl
set_option maxRecDepth 20000 in
theorem l_L_142 : Cond.methodLink R_law 142 yX11_octet ∈ wG := wG_in tb_6 132 (by decide +kernel) rfl
set_option maxRecDepth 20000 in
theorem l_L_146 : Cond.methodLink R_law 146 yX11_on ∈ wG := wG_in tb_6 136 (by decide +kernel) rfl
set_option maxRecDepth 20000 in
theorem l_L_150 : Cond.methodLink R_law 150 yX11_status ∈ wG := wG_in tb_6 168 (by decide +kernel) rfl
set_option maxRecDepth 20000 in
theorem n_L_10 : Cond.classLink R_law 10 RX12 ∈ wG := wG_in tb_6 172 (by decide +kernel) rfl
set_option maxRecDepth 20000 in
theorem l_L_12 : Cond.methodLink R_law 12 yX12_init ∈ wG := wG_in tb_6 174 (by decide +kernel) rfl
set_option maxRecDepth 20000 in
theorem l_L_17 : Cond.methodLink R_law 17 yX12_feed ∈ wG := wG_in tb_7 204 (by decide +kernel) rfl
set_option maxRecDepth 20000 in
theorem l_L_22 : Cond.methodLink R_law 22 yX12_end ∈ wG := wG_in tb_7 216 (by decide +kernel) rfl
set_option maxRecDepth 20000 in
theorem l_L_27 : Cond.methodLink R_law 27 yX12_library ∈ wG := wG_in tb_7 220 (by decide +kernel) rfl
set_option maxRecDepth 20000 in
theorem l_L_32 : Cond.methodLink R_law 32 yX12_fault ∈ wG := wG_in tb_8 168 (by decide +kernel) rfl
set_option maxRecDepth 20000 in
theorem l_L_153 : Cond.methodLink R_law 153 yX12_status ∈ wG := wG_in tb_8 172 (by decide +kernel) rfl
set_option maxRecDepth 20000 in
theorem l_L_101 : Cond.methodLink R_law 101 yX12_undo ∈ wG := wG_in tb_8 176 (by decide +kernel) rfl
set_option maxRecDepth 20000 in
theorem l_L_36 : Cond.methodLink R_law 36 yX12_has_ ∈ wG := wG_in tb_8 188 (by decide +kernel) rfl
set_option maxRecDepth 20000 in
theorem l_L_41 : Cond.methodLink R_law 41 yX12_letter ∈ wG := wG_in tb_8 199 (by decide +kernel) rfl
set_option maxRecDepth 20000 in
theorem l_L_46 : Cond.methodLink R_law 46 yX12_page ∈ wG := wG_in tb_8 204 (by decide +kernel) rfl
set_option maxRecDepth 20000 in
theorem l_L_50 : Cond.methodLink R_law 50 yX12_reader ∈ wG := wG_in tb_8 223 (by decide +kernel) rfl
set_option maxRecDepth 20000 in
theorem l_L_54 : Cond.methodLink R_law 54 yX12_table ∈ wG := wG_in tb_8 231 (by decide +kernel) rfl
set_option maxRecDepth 20000 in
theorem l_L_58 : Cond.methodLink R_law 58 yX12_takes ∈ wG := wG_in tb_9 40 (by decide +kernel) rfl
set_option maxRecDepth 20000 in
theorem l_L_62 : Cond.methodLink R_law 62 yX12_burns ∈ wG := wG_in tb_9 48 (by decide +kernel) rfl
set_option maxRecDepth 20000 in
theorem l_L_66 : Cond.methodLink R_law 66 yX12_tonight ∈ wG := wG_in tb_9 52 (by decide +kernel) rfl
set_option maxRecDepth 20000 in
theorem l_L_70 : Cond.methodLink R_law 70 yX12_whole ∈ wG := wG_in tb_9 84 (by decide +kernel) rfl
set_option maxRecDepth 20000 in
theorem l_L_75 : Cond.methodLink R_law 75 yX12_seat ∈ wG := wG_in tb_9 88 (by decide +kernel) rfl
set_option maxRecDepth 20000 in
theorem l_L_79 : Cond.methodLink R_law 79 yX12_list ∈ wG := wG_in tb_9 96 (by decide +kernel) rfl
set_option maxRecDepth 20000 in
theorem l_L_83 : Cond.methodLink R_law 83 yX12_drop ∈ wG := wG_in tb_9 104 (by decide +kernel) rfl
set_option maxRecDepth 20000 in
theorem l_L_88 : Cond.methodLink R_law 88 yX12_tell ∈ wG := wG_in tb_9 108 (by decide +kernel) rfl
set_option maxRecDepth 20000 in
theorem l_L_92 : Cond.methodLink R_law 92 yX12_night ∈ wG := wG_in tb_9 116 (by decide +kernel) rfl
set_option maxRecDepth 20000 in
theorem l_L_96 : Cond.methodLink R_law 96 yX12_winter ∈ wG := wG_in tb_9 124 (by decide +kernel) rfl
set_option maxRecDepth 20000 in
theorem l_L_105 : Cond.methodLink R_law 105 yX12_seed ∈ wG := wG_in tb_9 136 (by decide +kernel) rfl
set_option maxRecDepth 20000 in
theorem l_L_109 : Cond.methodLink R_law 109 yX12_kept ∈ wG := wG_in tb_9 140 (by decide +kernel) rfl
set_option maxRecDepth 20000 in
theorem l_L_113 : Cond.methodLink R_law 113 yX12_work ∈ wG := wG_in tb_9 144 (by decide +kernel) rfl
set_option maxRecDepth 20000 in
theorem l_L_117 : Cond.methodLink R_law 117 yX12_scholar ∈ wG := wG_in tb_9 164 (by decide +kernel) rfl
set_option maxRecDepth 20000 in
theorem l_L_121 : Cond.methodLink R_law 121 yX12_shared ∈ wG := wG_in tb_9 169 (by decide +kernel) rfl
set_option maxRecDepth 20000 in
theorem l_L_125 : Cond.methodLink R_law 125 yX12_seated ∈ wG := wG_in tb_9 181 (by decide +kernel) rfl
set_option maxRecDepth 20000 in
theorem l_L_129 : Cond.methodLink R_law 129 yX12_most ∈ wG := wG_in tb_9 185 (by decide +kernel) rfl
set_option maxRecDepth 20000 in
theorem l_L_133 : Cond.methodLink R_law 133 yX12_wax ∈ wG := wG_in tb_9 189 (by decide +kernel) rfl
set_option maxRecDepth 20000 in
theorem l_L_137 : Cond.methodLink R_law 137 yX12_index ∈ wG := wG_in tb_9 193 (by decide +kernel) rfl
set_option maxRecDepth 20000 in
theorem l_L_141 : Cond.methodLink R_law 141 yX12_image ∈ wG := wG_in tb_9 201 (by decide +kernel) rfl
set_option maxRecDepth 20000 in
theorem l_L_145 : Cond.methodLink R_law 145 yX12_octet ∈ wG := wG_in tb_9 213 (by decide +kernel) rfl
set_option maxRecDepth 20000 in
theorem l_L_149 : Cond.methodLink R_law 149 yX12_on ∈ wG := wG_in tb_9 217 (by decide +kernel) rfl
theorem dL_0 : decode code 0 = .ok (.new 7, 3) := by decide +kernel
theorem dL_3 : decode code 3 = .ok (.dup, 1) := by decide +kernel
theorem dL_4 : decode code 4 = .ok (.invokespecial 9, 3) := by decide +kernel
theorem dL_7 : decode code 7 = .ok (.astore_n 1, 1) := by decide +kernel
theorem dL_8 : decode code 8 = .ok (.new 10, 3) := by decide +kernel
theorem dL_11 : decode code 11 = .ok (.dup, 1) := by decide +kernel
theorem dL_12 : decode code 12 = .ok (.invokespecial 12, 3) := by decide +kernel
theorem dL_15 : decode code 15 = .ok (.astore_n 2, 1) := by decide +kernel
theorem dL_16 : decode code 16 = .ok (.iconst 0, 1) := by decide +kernel
theorem dL_17 : decode code 17 = .ok (.istore_n 3, 1) := by decide +kernel
theorem dL_18 : decode code 18 = .ok (.iload_n 3, 1) := by decide +kernel
theorem dL_19 : decode code 19 = .ok (.aload_n 0, 1) := by decide +kernel
theorem dL_20 : decode code 20 = .ok (.arraylength, 1) := by decide +kernel
theorem dL_21 : decode code 21 = .ok (.bipush 6, 2) := by decide +kernel
theorem dL_23 : decode code 23 = .ok (.isub, 1) := by decide +kernel
theorem dL_24 : decode code 24 = .ok (.if_icmp .gt 1111, 3) := by decide +kernel
theorem dL_27 : decode code 27 = .ok (.aload_n 0, 1) := by decide +kernel
theorem dL_28 : decode code 28 = .ok (.iload_n 3, 1) := by decide +kernel
theorem dL_29 : decode code 29 = .ok (.iaload, 1) := by decide +kernel
theorem dL_30 : decode code 30 = .ok (.bipush 63, 2) := by decide +kernel
theorem dL_32 : decode code 32 = .ok (.iand, 1) := by decide +kernel
theorem dL_33 : decode code 33 = .ok (.tableswitch 1096 0 32 #[147, 210, 233, 246, 269, 292, 335, 368, 401, 434, 467, 490, 523, 546, 579, 612, 635, 678, 691, 714, 727, 750, 783, 826, 849, 882, 905, 948, 991, 1024, 1037, 1060, 1073], 147) := by decide +kernel
theorem dL_180 : decode code 180 = .ok (.aload_n 1, 1) := by decide +kernel
theorem dL_181 : decode code 181 = .ok (.aload_n 0, 1) := by decide +kernel
theorem dL_182 : decode code 182 = .ok (.iload_n 3, 1) := by decide +kernel
theorem dL_183 : decode code 183 = .ok (.iconst 1, 1) := by decide +kernel
theorem dL_184 : decode code 184 = .ok (.iadd, 1) := by decide +kernel
theorem dL_185 : decode code 185 = .ok (.iaload, 1) := by decide +kernel
theorem dL_186 : decode code 186 = .ok (.aload_n 0, 1) := by decide +kernel
theorem dL_187 : decode code 187 = .ok (.iload_n 3, 1) := by decide +kernel
theorem dL_188 : decode code 188 = .ok (.iconst 2, 1) := by decide +kernel
theorem dL_189 : decode code 189 = .ok (.iadd, 1) := by decide +kernel
theorem dL_190 : decode code 190 = .ok (.iaload, 1) := by decide +kernel
theorem dL_191 : decode code 191 = .ok (.aload_n 0, 1) := by decide +kernel
theorem dL_192 : decode code 192 = .ok (.iload_n 3, 1) := by decide +kernel
theorem dL_193 : decode code 193 = .ok (.iconst 3, 1) := by decide +kernel
theorem dL_194 : decode code 194 = .ok (.iadd, 1) := by decide +kernel
theorem dL_195 : decode code 195 = .ok (.iaload, 1) := by decide +kernel
theorem dL_196 : decode code 196 = .ok (.aload_n 0, 1) := by decide +kernel
theorem dL_197 : decode code 197 = .ok (.iload_n 3, 1) := by decide +kernel
theorem dL_198 : decode code 198 = .ok (.iconst 4, 1) := by decide +kernel
theorem dL_199 : decode code 199 = .ok (.iadd, 1) := by decide +kernel
theorem dL_200 : decode code 200 = .ok (.iaload, 1) := by decide +kernel
theorem dL_201 : decode code 201 = .ok (.aload_n 0, 1) := by decide +kernel
theorem dL_202 : decode code 202 = .ok (.iload_n 3, 1) := by decide +kernel
theorem dL_203 : decode code 203 = .ok (.iconst 5, 1) := by decide +kernel
theorem dL_204 : decode code 204 = .ok (.iadd, 1) := by decide +kernel
theorem dL_205 : decode code 205 = .ok (.iaload, 1) := by decide +kernel
theorem dL_206 : decode code 206 = .ok (.invokevirtual 13, 3) := by decide +kernel
theorem dL_209 : decode code 209 = .ok (.aload_n 2, 1) := by decide +kernel
theorem dL_210 : decode code 210 = .ok (.aload_n 0, 1) := by decide +kernel
theorem dL_211 : decode code 211 = .ok (.iload_n 3, 1) := by decide +kernel
theorem dL_212 : decode code 212 = .ok (.iconst 1, 1) := by decide +kernel
theorem dL_213 : decode code 213 = .ok (.iadd, 1) := by decide +kernel
theorem dL_214 : decode code 214 = .ok (.iaload, 1) := by decide +kernel
theorem dL_215 : decode code 215 = .ok (.aload_n 0, 1) := by decide +kernel
theorem dL_216 : decode code 216 = .ok (.iload_n 3, 1) := by decide +kernel
theorem dL_217 : decode code 217 = .ok (.iconst 2, 1) := by decide +kernel
theorem dL_218 : decode code 218 = .ok (.iadd, 1) := by decide +kernel
theorem dL_219 : decode code 219 = .ok (.iaload, 1) := by decide +kernel
theorem dL_220 : decode code 220 = .ok (.aload_n 0, 1) := by decide +kernel
theorem dL_221 : decode code 221 = .ok (.iload_n 3, 1) := by decide +kernel
theorem dL_222 : decode code 222 = .ok (.iconst 3, 1) := by decide +kernel
theorem dL_223 : decode code 223 = .ok (.iadd, 1) := by decide +kernel
theorem dL_224 : decode code 224 = .ok (.iaload, 1) := by decide +kernel
theorem dL_225 : decode code 225 = .ok (.aload_n 0, 1) := by decide +kernel
theorem dL_226 : decode code 226 = .ok (.iload_n 3, 1) := by decide +kernel
theorem dL_227 : decode code 227 = .ok (.iconst 4, 1) := by decide +kernel
theorem dL_228 : decode code 228 = .ok (.iadd, 1) := by decide +kernel
theorem dL_229 : decode code 229 = .ok (.iaload, 1) := by decide +kernel
theorem dL_230 : decode code 230 = .ok (.aload_n 0, 1) := by decide +kernel
theorem dL_231 : decode code 231 = .ok (.iload_n 3, 1) := by decide +kernel
theorem dL_232 : decode code 232 = .ok (.iconst 5, 1) := by decide +kernel
theorem dL_233 : decode code 233 = .ok (.iadd, 1) := by decide +kernel
theorem dL_234 : decode code 234 = .ok (.iaload, 1) := by decide +kernel
theorem dL_235 : decode code 235 = .ok (.invokevirtual 17, 3) := by decide +kernel
theorem dL_238 : decode code 238 = .ok (.if_icmp .eq 891, 3) := by decide +kernel
theorem dL_241 : decode code 241 = .ok (.iconst 0, 1) := by decide +kernel
theorem dL_242 : decode code 242 = .ok (.ireturn, 1) := by decide +kernel
theorem dL_243 : decode code 243 = .ok (.aload_n 1, 1) := by decide +kernel
theorem dL_244 : decode code 244 = .ok (.aload_n 0, 1) := by decide +kernel
theorem dL_245 : decode code 245 = .ok (.iload_n 3, 1) := by decide +kernel
theorem dL_246 : decode code 246 = .ok (.iconst 1, 1) := by decide +kernel
theorem dL_247 : decode code 247 = .ok (.iadd, 1) := by decide +kernel
theorem dL_248 : decode code 248 = .ok (.iaload, 1) := by decide +kernel
theorem dL_249 : decode code 249 = .ok (.invokevirtual 18, 3) := by decide +kernel
theorem dL_252 : decode code 252 = .ok (.aload_n 2, 1) := by decide +kernel
theorem dL_253 : decode code 253 = .ok (.aload_n 0, 1) := by decide +kernel
theorem dL_254 : decode code 254 = .ok (.iload_n 3, 1) := by decide +kernel
theorem dL_255 : decode code 255 = .ok (.iconst 1, 1) := by decide +kernel
theorem dL_256 : decode code 256 = .ok (.iadd, 1) := by decide +kernel
theorem dL_257 : decode code 257 = .ok (.iaload, 1) := by decide +kernel
theorem dL_258 : decode code 258 = .ok (.invokevirtual 22, 3) := by decide +kernel
theorem dL_261 : decode code 261 = .ok (.if_icmp .eq 868, 3) := by decide +kernel
theorem dL_264 : decode code 264 = .ok (.iconst 0, 1) := by decide +kernel
theorem dL_265 : decode code 265 = .ok (.ireturn, 1) := by decide +kernel
theorem dL_266 : decode code 266 = .ok (.aload_n 1, 1) := by decide +kernel
theorem dL_267 : decode code 267 = .ok (.invokevirtual 23, 3) := by decide +kernel
theorem dL_270 : decode code 270 = .ok (.aload_n 2, 1) := by decide +kernel
theorem dL_271 : decode code 271 = .ok (.invokevirtual 27, 3) := by decide +kernel
theorem dL_274 : decode code 274 = .ok (.if_icmp .eq 855, 3) := by decide +kernel
theorem dL_277 : decode code 277 = .ok (.iconst 0, 1) := by decide +kernel
theorem dL_278 : decode code 278 = .ok (.ireturn, 1) := by decide +kernel
theorem dL_279 : decode code 279 = .ok (.aload_n 1, 1) := by decide +kernel
theorem dL_280 : decode code 280 = .ok (.aload_n 0, 1) := by decide +kernel
theorem dL_281 : decode code 281 = .ok (.iload_n 3, 1) := by decide +kernel
theorem dL_282 : decode code 282 = .ok (.iconst 1, 1) := by decide +kernel
theorem dL_283 : decode code 283 = .ok (.iadd, 1) := by decide +kernel
theorem dL_284 : decode code 284 = .ok (.iaload, 1) := by decide +kernel
theorem dL_285 : decode code 285 = .ok (.invokevirtual 28, 3) := by decide +kernel
theorem dL_288 : decode code 288 = .ok (.aload_n 2, 1) := by decide +kernel
theorem dL_289 : decode code 289 = .ok (.aload_n 0, 1) := by decide +kernel
theorem dL_290 : decode code 290 = .ok (.iload_n 3, 1) := by decide +kernel
theorem dL_291 : decode code 291 = .ok (.iconst 1, 1) := by decide +kernel
theorem dL_292 : decode code 292 = .ok (.iadd, 1) := by decide +kernel
theorem dL_293 : decode code 293 = .ok (.iaload, 1) := by decide +kernel
theorem dL_294 : decode code 294 = .ok (.invokevirtual 32, 3) := by decide +kernel
theorem dL_297 : decode code 297 = .ok (.if_icmp .eq 832, 3) := by decide +kernel
theorem dL_300 : decode code 300 = .ok (.iconst 0, 1) := by decide +kernel
theorem dL_301 : decode code 301 = .ok (.ireturn, 1) := by decide +kernel
theorem dL_302 : decode code 302 = .ok (.aload_n 1, 1) := by decide +kernel
theorem dL_303 : decode code 303 = .ok (.aload_n 0, 1) := by decide +kernel
theorem dL_304 : decode code 304 = .ok (.iload_n 3, 1) := by decide +kernel
theorem dL_305 : decode code 305 = .ok (.iconst 1, 1) := by decide +kernel
theorem dL_306 : decode code 306 = .ok (.iadd, 1) := by decide +kernel
theorem dL_307 : decode code 307 = .ok (.iaload, 1) := by decide +kernel
theorem dL_308 : decode code 308 = .ok (.invokevirtual 33, 3) := by decide +kernel
theorem dL_311 : decode code 311 = .ok (.aload_n 2, 1) := by decide +kernel
theorem dL_312 : decode code 312 = .ok (.aload_n 0, 1) := by decide +kernel
theorem dL_313 : decode code 313 = .ok (.iload_n 3, 1) := by decide +kernel
theorem dL_314 : decode code 314 = .ok (.iconst 1, 1) := by decide +kernel
theorem dL_315 : decode code 315 = .ok (.iadd, 1) := by decide +kernel
theorem dL_316 : decode code 316 = .ok (.iaload, 1) := by decide +kernel
theorem dL_317 : decode code 317 = .ok (.invokevirtual 36, 3) := by decide +kernel
theorem dL_320 : decode code 320 = .ok (.if_icmp .eq 809, 3) := by decide +kernel
theorem dL_323 : decode code 323 = .ok (.iconst 0, 1) := by decide +kernel
theorem dL_324 : decode code 324 = .ok (.ireturn, 1) := by decide +kernel
theorem dL_325 : decode code 325 = .ok (.aload_n 1, 1) := by decide +kernel
theorem dL_326 : decode code 326 = .ok (.aload_n 0, 1) := by decide +kernel
theorem dL_327 : decode code 327 = .ok (.iload_n 3, 1) := by decide +kernel
theorem dL_328 : decode code 328 = .ok (.iconst 1, 1) := by decide +kernel
theorem dL_329 : decode code 329 = .ok (.iadd, 1) := by decide +kernel
theorem dL_330 : decode code 330 = .ok (.iaload, 1) := by decide +kernel
theorem dL_331 : decode code 331 = .ok (.aload_n 0, 1) := by decide +kernel
theorem dL_332 : decode code 332 = .ok (.iload_n 3, 1) := by decide +kernel
theorem dL_333 : decode code 333 = .ok (.iconst 2, 1) := by decide +kernel
theorem dL_334 : decode code 334 = .ok (.iadd, 1) := by decide +kernel
theorem dL_335 : decode code 335 = .ok (.iaload, 1) := by decide +kernel
theorem dL_336 : decode code 336 = .ok (.aload_n 0, 1) := by decide +kernel
theorem dL_337 : decode code 337 = .ok (.iload_n 3, 1) := by decide +kernel
theorem dL_338 : decode code 338 = .ok (.iconst 3, 1) := by decide +kernel
theorem dL_339 : decode code 339 = .ok (.iadd, 1) := by decide +kernel
theorem dL_340 : decode code 340 = .ok (.iaload, 1) := by decide +kernel
theorem dL_341 : decode code 341 = .ok (.invokevirtual 37, 3) := by decide +kernel
theorem dL_344 : decode code 344 = .ok (.aload_n 2, 1) := by decide +kernel
theorem dL_345 : decode code 345 = .ok (.aload_n 0, 1) := by decide +kernel
theorem dL_346 : decode code 346 = .ok (.iload_n 3, 1) := by decide +kernel
theorem dL_347 : decode code 347 = .ok (.iconst 1, 1) := by decide +kernel
theorem dL_348 : decode code 348 = .ok (.iadd, 1) := by decide +kernel
theorem dL_349 : decode code 349 = .ok (.iaload, 1) := by decide +kernel
theorem dL_350 : decode code 350 = .ok (.aload_n 0, 1) := by decide +kernel
theorem dL_351 : decode code 351 = .ok (.iload_n 3, 1) := by decide +kernel
theorem dL_352 : decode code 352 = .ok (.iconst 2, 1) := by decide +kernel
theorem dL_353 : decode code 353 = .ok (.iadd, 1) := by decide +kernel
theorem dL_354 : decode code 354 = .ok (.iaload, 1) := by decide +kernel
theorem dL_355 : decode code 355 = .ok (.aload_n 0, 1) := by decide +kernel
theorem dL_356 : decode code 356 = .ok (.iload_n 3, 1) := by decide +kernel
theorem dL_357 : decode code 357 = .ok (.iconst 3, 1) := by decide +kernel
theorem dL_358 : decode code 358 = .ok (.iadd, 1) := by decide +kernel
theorem dL_359 : decode code 359 = .ok (.iaload, 1) := by decide +kernel
theorem dL_360 : decode code 360 = .ok (.invokevirtual 41, 3) := by decide +kernel
theorem dL_363 : decode code 363 = .ok (.if_icmp .eq 766, 3) := by decide +kernel
theorem dL_366 : decode code 366 = .ok (.iconst 0, 1) := by decide +kernel
theorem dL_367 : decode code 367 = .ok (.ireturn, 1) := by decide +kernel
theorem dL_368 : decode code 368 = .ok (.aload_n 1, 1) := by decide +kernel
theorem dL_369 : decode code 369 = .ok (.aload_n 0, 1) := by decide +kernel
theorem dL_370 : decode code 370 = .ok (.iload_n 3, 1) := by decide +kernel
theorem dL_371 : decode code 371 = .ok (.iconst 1, 1) := by decide +kernel
theorem dL_372 : decode code 372 = .ok (.iadd, 1) := by decide +kernel
theorem dL_373 : decode code 373 = .ok (.iaload, 1) := by decide +kernel
theorem dL_374 : decode code 374 = .ok (.aload_n 0, 1) := by decide +kernel
theorem dL_375 : decode code 375 = .ok (.iload_n 3, 1) := by decide +kernel
theorem dL_376 : decode code 376 = .ok (.iconst 2, 1) := by decide +kernel
theorem dL_377 : decode code 377 = .ok (.iadd, 1) := by decide +kernel
theorem dL_378 : decode code 378 = .ok (.iaload, 1) := by decide +kernel
theorem dL_379 : decode code 379 = .ok (.invokevirtual 42, 3) := by decide +kernel
theorem dL_382 : decode code 382 = .ok (.aload_n 2, 1) := by decide +kernel
theorem dL_383 : decode code 383 = .ok (.aload_n 0, 1) := by decide +kernel
theorem dL_384 : decode code 384 = .ok (.iload_n 3, 1) := by decide +kernel
theorem dL_385 : decode code 385 = .ok (.iconst 1, 1) := by decide +kernel
theorem dL_386 : decode code 386 = .ok (.iadd, 1) := by decide +kernel
theorem dL_387 : decode code 387 = .ok (.iaload, 1) := by decide +kernel
theorem dL_388 : decode code 388 = .ok (.aload_n 0, 1) := by decide +kernel
theorem dL_389 : decode code 389 = .ok (.iload_n 3, 1) := by decide +kernel
theorem dL_390 : decode code 390 = .ok (.iconst 2, 1) := by decide +kernel
theorem dL_391 : decode code 391 = .ok (.iadd, 1) := by decide +kernel
theorem dL_392 : decode code 392 = .ok (.iaload, 1) := by decide +kernel
theorem dL_393 : decode code 393 = .ok (.invokevirtual 46, 3) := by decide +kernel
theorem dL_396 : decode code 396 = .ok (.if_icmp .eq 733, 3) := by decide +kernel
theorem dL_399 : decode code 399 = .ok (.iconst 0, 1) := by decide +kernel
theorem dL_400 : decode code 400 = .ok (.ireturn, 1) := by decide +kernel
theorem dL_401 : decode code 401 = .ok (.aload_n 1, 1) := by decide +kernel
theorem dL_402 : decode code 402 = .ok (.aload_n 0, 1) := by decide +kernel
theorem dL_403 : decode code 403 = .ok (.iload_n 3, 1) := by decide +kernel
theorem dL_404 : decode code 404 = .ok (.iconst 1, 1) := by decide +kernel
theorem dL_405 : decode code 405 = .ok (.iadd, 1) := by decide +kernel
theorem dL_406 : decode code 406 = .ok (.iaload, 1) := by decide +kernel
theorem dL_407 : decode code 407 = .ok (.aload_n 0, 1) := by decide +kernel
theorem dL_408 : decode code 408 = .ok (.iload_n 3, 1) := by decide +kernel
theorem dL_409 : decode code 409 = .ok (.iconst 2, 1) := by decide +kernel
theorem dL_410 : decode code 410 = .ok (.iadd, 1) := by decide +kernel
theorem dL_411 : decode code 411 = .ok (.iaload, 1) := by decide +kernel
theorem dL_412 : decode code 412 = .ok (.invokevirtual 47, 3) := by decide +kernel
theorem dL_415 : decode code 415 = .ok (.aload_n 2, 1) := by decide +kernel
theorem dL_416 : decode code 416 = .ok (.aload_n 0, 1) := by decide +kernel
theorem dL_417 : decode code 417 = .ok (.iload_n 3, 1) := by decide +kernel
theorem dL_418 : decode code 418 = .ok (.iconst 1, 1) := by decide +kernel
theorem dL_419 : decode code 419 = .ok (.iadd, 1) := by decide +kernel
theorem dL_420 : decode code 420 = .ok (.iaload, 1) := by decide +kernel
theorem dL_421 : decode code 421 = .ok (.aload_n 0, 1) := by decide +kernel
theorem dL_422 : decode code 422 = .ok (.iload_n 3, 1) := by decide +kernel
theorem dL_423 : decode code 423 = .ok (.iconst 2, 1) := by decide +kernel
theorem dL_424 : decode code 424 = .ok (.iadd, 1) := by decide +kernel
theorem dL_425 : decode code 425 = .ok (.iaload, 1) := by decide +kernel
theorem dL_426 : decode code 426 = .ok (.invokevirtual 50, 3) := by decide +kernel
theorem dL_429 : decode code 429 = .ok (.if_icmp .eq 700, 3) := by decide +kernel
theorem dL_432 : decode code 432 = .ok (.iconst 0, 1) := by decide +kernel
theorem dL_433 : decode code 433 = .ok (.ireturn, 1) := by decide +kernel
theorem dL_434 : decode code 434 = .ok (.aload_n 1, 1) := by decide +kernel
theorem dL_435 : decode code 435 = .ok (.aload_n 0, 1) := by decide +kernel
theorem dL_436 : decode code 436 = .ok (.iload_n 3, 1) := by decide +kernel
theorem dL_437 : decode code 437 = .ok (.iconst 1, 1) := by decide +kernel
theorem dL_438 : decode code 438 = .ok (.iadd, 1) := by decide +kernel
theorem dL_439 : decode code 439 = .ok (.iaload, 1) := by decide +kernel
theorem dL_440 : decode code 440 = .ok (.aload_n 0, 1) := by decide +kernel
theorem dL_441 : decode code 441 = .ok (.iload_n 3, 1) := by decide +kernel
theorem dL_442 : decode code 442 = .ok (.iconst 2, 1) := by decide +kernel
theorem dL_443 : decode code 443 = .ok (.iadd, 1) := by decide +kernel
theorem dL_444 : decode code 444 = .ok (.iaload, 1) := by decide +kernel
theorem dL_445 : decode code 445 = .ok (.invokevirtual 51, 3) := by decide +kernel
theorem dL_448 : decode code 448 = .ok (.aload_n 2, 1) := by decide +kernel
theorem dL_449 : decode code 449 = .ok (.aload_n 0, 1) := by decide +kernel
theorem dL_450 : decode code 450 = .ok (.iload_n 3, 1) := by decide +kernel
theorem dL_451 : decode code 451 = .ok (.iconst 1, 1) := by decide +kernel
theorem dL_452 : decode code 452 = .ok (.iadd, 1) := by decide +kernel
theorem dL_453 : decode code 453 = .ok (.iaload, 1) := by decide +kernel
theorem dL_454 : decode code 454 = .ok (.aload_n 0, 1) := by decide +kernel
theorem dL_455 : decode code 455 = .ok (.iload_n 3, 1) := by decide +kernel
theorem dL_456 : decode code 456 = .ok (.iconst 2, 1) := by decide +kernel
theorem dL_457 : decode code 457 = .ok (.iadd, 1) := by decide +kernel
theorem dL_458 : decode code 458 = .ok (.iaload, 1) := by decide +kernel
theorem dL_459 : decode code 459 = .ok (.invokevirtual 54, 3) := by decide +kernel
theorem dL_462 : decode code 462 = .ok (.if_icmp .eq 667, 3) := by decide +kernel
theorem dL_465 : decode code 465 = .ok (.iconst 0, 1) := by decide +kernel
theorem dL_466 : decode code 466 = .ok (.ireturn, 1) := by decide +kernel
theorem dL_467 : decode code 467 = .ok (.aload_n 1, 1) := by decide +kernel
theorem dL_468 : decode code 468 = .ok (.aload_n 0, 1) := by decide +kernel
theorem dL_469 : decode code 469 = .ok (.iload_n 3, 1) := by decide +kernel
theorem dL_470 : decode code 470 = .ok (.iconst 1, 1) := by decide +kernel
theorem dL_471 : decode code 471 = .ok (.iadd, 1) := by decide +kernel
theorem dL_472 : decode code 472 = .ok (.iaload, 1) := by decide +kernel
theorem dL_473 : decode code 473 = .ok (.aload_n 0, 1) := by decide +kernel
theorem dL_474 : decode code 474 = .ok (.iload_n 3, 1) := by decide +kernel
theorem dL_475 : decode code 475 = .ok (.iconst 2, 1) := by decide +kernel
theorem dL_476 : decode code 476 = .ok (.iadd, 1) := by decide +kernel
theorem dL_477 : decode code 477 = .ok (.iaload, 1) := by decide +kernel
theorem dL_478 : decode code 478 = .ok (.invokevirtual 55, 3) := by decide +kernel
theorem dL_481 : decode code 481 = .ok (.aload_n 2, 1) := by decide +kernel
theorem dL_482 : decode code 482 = .ok (.aload_n 0, 1) := by decide +kernel
theorem dL_483 : decode code 483 = .ok (.iload_n 3, 1) := by decide +kernel
theorem dL_484 : decode code 484 = .ok (.iconst 1, 1) := by decide +kernel
theorem dL_485 : decode code 485 = .ok (.iadd, 1) := by decide +kernel
theorem dL_486 : decode code 486 = .ok (.iaload, 1) := by decide +kernel
theorem dL_487 : decode code 487 = .ok (.aload_n 0, 1) := by decide +kernel
theorem dL_488 : decode code 488 = .ok (.iload_n 3, 1) := by decide +kernel
theorem dL_489 : decode code 489 = .ok (.iconst 2, 1) := by decide +kernel
theorem dL_490 : decode code 490 = .ok (.iadd, 1) := by decide +kernel
theorem dL_491 : decode code 491 = .ok (.iaload, 1) := by decide +kernel
theorem dL_492 : decode code 492 = .ok (.invokevirtual 58, 3) := by decide +kernel
theorem dL_495 : decode code 495 = .ok (.if_icmp .eq 634, 3) := by decide +kernel
theorem dL_498 : decode code 498 = .ok (.iconst 0, 1) := by decide +kernel
theorem dL_499 : decode code 499 = .ok (.ireturn, 1) := by decide +kernel
theorem dL_500 : decode code 500 = .ok (.aload_n 1, 1) := by decide +kernel
theorem dL_501 : decode code 501 = .ok (.aload_n 0, 1) := by decide +kernel
theorem dL_502 : decode code 502 = .ok (.iload_n 3, 1) := by decide +kernel
theorem dL_503 : decode code 503 = .ok (.iconst 1, 1) := by decide +kernel
theorem dL_504 : decode code 504 = .ok (.iadd, 1) := by decide +kernel
theorem dL_505 : decode code 505 = .ok (.iaload, 1) := by decide +kernel
theorem dL_506 : decode code 506 = .ok (.invokevirtual 59, 3) := by decide +kernel
theorem dL_509 : decode code 509 = .ok (.aload_n 2, 1) := by decide +kernel
theorem dL_510 : decode code 510 = .ok (.aload_n 0, 1) := by decide +kernel
theorem dL_511 : decode code 511 = .ok (.iload_n 3, 1) := by decide +kernel
theorem dL_512 : decode code 512 = .ok (.iconst 1, 1) := by decide +kernel
theorem dL_513 : decode code 513 = .ok (.iadd, 1) := by decide +kernel
theorem dL_514 : decode code 514 = .ok (.iaload, 1) := by decide +kernel
theorem dL_515 : decode code 515 = .ok (.invokevirtual 62, 3) := by decide +kernel
theorem dL_518 : decode code 518 = .ok (.if_icmp .eq 611, 3) := by decide +kernel
theorem dL_521 : decode code 521 = .ok (.iconst 0, 1) := by decide +kernel
theorem dL_522 : decode code 522 = .ok (.ireturn, 1) := by decide +kernel
theorem dL_523 : decode code 523 = .ok (.aload_n 1, 1) := by decide +kernel
theorem dL_524 : decode code 524 = .ok (.aload_n 0, 1) := by decide +kernel
theorem dL_525 : decode code 525 = .ok (.iload_n 3, 1) := by decide +kernel
theorem dL_526 : decode code 526 = .ok (.iconst 1, 1) := by decide +kernel
theorem dL_527 : decode code 527 = .ok (.iadd, 1) := by decide +kernel
theorem dL_528 : decode code 528 = .ok (.iaload, 1) := by decide +kernel
theorem dL_529 : decode code 529 = .ok (.aload_n 0, 1) := by decide +kernel
theorem dL_530 : decode code 530 = .ok (.iload_n 3, 1) := by decide +kernel
theorem dL_531 : decode code 531 = .ok (.iconst 2, 1) := by decide +kernel
theorem dL_532 : decode code 532 = .ok (.iadd, 1) := by decide +kernel
theorem dL_533 : decode code 533 = .ok (.iaload, 1) := by decide +kernel
theorem dL_534 : decode code 534 = .ok (.invokevirtual 63, 3) := by decide +kernel
theorem dL_537 : decode code 537 = .ok (.aload_n 2, 1) := by decide +kernel
theorem dL_538 : decode code 538 = .ok (.aload_n 0, 1) := by decide +kernel
theorem dL_539 : decode code 539 = .ok (.iload_n 3, 1) := by decide +kernel
theorem dL_540 : decode code 540 = .ok (.iconst 1, 1) := by decide +kernel
theorem dL_541 : decode code 541 = .ok (.iadd, 1) := by decide +kernel
theorem dL_542 : decode code 542 = .ok (.iaload, 1) := by decide +kernel
theorem dL_543 : decode code 543 = .ok (.aload_n 0, 1) := by decide +kernel
theorem dL_544 : decode code 544 = .ok (.iload_n 3, 1) := by decide +kernel
theorem dL_545 : decode code 545 = .ok (.iconst 2, 1) := by decide +kernel
theorem dL_546 : decode code 546 = .ok (.iadd, 1) := by decide +kernel
theorem dL_547 : decode code 547 = .ok (.iaload, 1) := by decide +kernel
theorem dL_548 : decode code 548 = .ok (.invokevirtual 66, 3) := by decide +kernel
theorem dL_551 : decode code 551 = .ok (.if_icmp .eq 578, 3) := by decide +kernel
theorem dL_554 : decode code 554 = .ok (.iconst 0, 1) := by decide +kernel
theorem dL_555 : decode code 555 = .ok (.ireturn, 1) := by decide +kernel
theorem dL_556 : decode code 556 = .ok (.aload_n 1, 1) := by decide +kernel
theorem dL_557 : decode code 557 = .ok (.aload_n 0, 1) := by decide +kernel
theorem dL_558 : decode code 558 = .ok (.iload_n 3, 1) := by decide +kernel
theorem dL_559 : decode code 559 = .ok (.iconst 1, 1) := by decide +kernel
theorem dL_560 : decode code 560 = .ok (.iadd, 1) := by decide +kernel
theorem dL_561 : decode code 561 = .ok (.iaload, 1) := by decide +kernel
theorem dL_562 : decode code 562 = .ok (.invokevirtual 67, 3) := by decide +kernel
theorem dL_565 : decode code 565 = .ok (.aload_n 2, 1) := by decide +kernel
theorem dL_566 : decode code 566 = .ok (.aload_n 0, 1) := by decide +kernel
theorem dL_567 : decode code 567 = .ok (.iload_n 3, 1) := by decide +kernel
theorem dL_568 : decode code 568 = .ok (.iconst 1, 1) := by decide +kernel
theorem dL_569 : decode code 569 = .ok (.iadd, 1) := by decide +kernel
theorem dL_570 : decode code 570 = .ok (.iaload, 1) := by decide +kernel
theorem dL_571 : decode code 571 = .ok (.invokevirtual 70, 3) := by decide +kernel
theorem dL_574 : decode code 574 = .ok (.if_icmp .eq 555, 3) := by decide +kernel
theorem dL_577 : decode code 577 = .ok (.iconst 0, 1) := by decide +kernel
theorem dL_578 : decode code 578 = .ok (.ireturn, 1) := by decide +kernel
theorem dL_579 : decode code 579 = .ok (.aload_n 1, 1) := by decide +kernel
theorem dL_580 : decode code 580 = .ok (.aload_n 0, 1) := by decide +kernel
theorem dL_581 : decode code 581 = .ok (.iload_n 3, 1) := by decide +kernel
theorem dL_582 : decode code 582 = .ok (.iconst 1, 1) := by decide +kernel
theorem dL_583 : decode code 583 = .ok (.iadd, 1) := by decide +kernel
theorem dL_584 : decode code 584 = .ok (.iaload, 1) := by decide +kernel
theorem dL_585 : decode code 585 = .ok (.aload_n 0, 1) := by decide +kernel
theorem dL_586 : decode code 586 = .ok (.iload_n 3, 1) := by decide +kernel
theorem dL_587 : decode code 587 = .ok (.iconst 2, 1) := by decide +kernel
theorem dL_588 : decode code 588 = .ok (.iadd, 1) := by decide +kernel
theorem dL_589 : decode code 589 = .ok (.iaload, 1) := by decide +kernel
theorem dL_590 : decode code 590 = .ok (.invokevirtual 71, 3) := by decide +kernel
theorem dL_593 : decode code 593 = .ok (.aload_n 2, 1) := by decide +kernel
theorem dL_594 : decode code 594 = .ok (.aload_n 0, 1) := by decide +kernel
theorem dL_595 : decode code 595 = .ok (.iload_n 3, 1) := by decide +kernel
theorem dL_596 : decode code 596 = .ok (.iconst 1, 1) := by decide +kernel
theorem dL_597 : decode code 597 = .ok (.iadd, 1) := by decide +kernel
theorem dL_598 : decode code 598 = .ok (.iaload, 1) := by decide +kernel
theorem dL_599 : decode code 599 = .ok (.aload_n 0, 1) := by decide +kernel
theorem dL_600 : decode code 600 = .ok (.iload_n 3, 1) := by decide +kernel
theorem dL_601 : decode code 601 = .ok (.iconst 2, 1) := by decide +kernel
theorem dL_602 : decode code 602 = .ok (.iadd, 1) := by decide +kernel
theorem dL_603 : decode code 603 = .ok (.iaload, 1) := by decide +kernel
theorem dL_604 : decode code 604 = .ok (.invokevirtual 75, 3) := by decide +kernel
theorem dL_607 : decode code 607 = .ok (.if_icmp .eq 522, 3) := by decide +kernel
theorem dL_610 : decode code 610 = .ok (.iconst 0, 1) := by decide +kernel
theorem dL_611 : decode code 611 = .ok (.ireturn, 1) := by decide +kernel
theorem dL_612 : decode code 612 = .ok (.aload_n 1, 1) := by decide +kernel
theorem dL_613 : decode code 613 = .ok (.aload_n 0, 1) := by decide +kernel
theorem dL_614 : decode code 614 = .ok (.iload_n 3, 1) := by decide +kernel
theorem dL_615 : decode code 615 = .ok (.iconst 1, 1) := by decide +kernel
theorem dL_616 : decode code 616 = .ok (.iadd, 1) := by decide +kernel
theorem dL_617 : decode code 617 = .ok (.iaload, 1) := by decide +kernel
theorem dL_618 : decode code 618 = .ok (.aload_n 0, 1) := by decide +kernel
theorem dL_619 : decode code 619 = .ok (.iload_n 3, 1) := by decide +kernel
theorem dL_620 : decode code 620 = .ok (.iconst 2, 1) := by decide +kernel
theorem dL_621 : decode code 621 = .ok (.iadd, 1) := by decide +kernel
theorem dL_622 : decode code 622 = .ok (.iaload, 1) := by decide +kernel
theorem dL_623 : decode code 623 = .ok (.invokevirtual 76, 3) := by decide +kernel
theorem dL_626 : decode code 626 = .ok (.aload_n 2, 1) := by decide +kernel
theorem dL_627 : decode code 627 = .ok (.aload_n 0, 1) := by decide +kernel
theorem dL_628 : decode code 628 = .ok (.iload_n 3, 1) := by decide +kernel
theorem dL_629 : decode code 629 = .ok (.iconst 1, 1) := by decide +kernel
theorem dL_630 : decode code 630 = .ok (.iadd, 1) := by decide +kernel
theorem dL_631 : decode code 631 = .ok (.iaload, 1) := by decide +kernel
theorem dL_632 : decode code 632 = .ok (.aload_n 0, 1) := by decide +kernel
theorem dL_633 : decode code 633 = .ok (.iload_n 3, 1) := by decide +kernel
theorem dL_634 : decode code 634 = .ok (.iconst 2, 1) := by decide +kernel
theorem dL_635 : decode code 635 = .ok (.iadd, 1) := by decide +kernel
theorem dL_636 : decode code 636 = .ok (.iaload, 1) := by decide +kernel
theorem dL_637 : decode code 637 = .ok (.invokevirtual 79, 3) := by decide +kernel
theorem dL_640 : decode code 640 = .ok (.if_icmp .eq 489, 3) := by decide +kernel
theorem dL_643 : decode code 643 = .ok (.iconst 0, 1) := by decide +kernel
theorem dL_644 : decode code 644 = .ok (.ireturn, 1) := by decide +kernel
theorem dL_645 : decode code 645 = .ok (.aload_n 1, 1) := by decide +kernel
theorem dL_646 : decode code 646 = .ok (.aload_n 0, 1) := by decide +kernel
theorem dL_647 : decode code 647 = .ok (.iload_n 3, 1) := by decide +kernel
theorem dL_648 : decode code 648 = .ok (.iconst 1, 1) := by decide +kernel
theorem dL_649 : decode code 649 = .ok (.iadd, 1) := by decide +kernel
theorem dL_650 : decode code 650 = .ok (.iaload, 1) := by decide +kernel
theorem dL_651 : decode code 651 = .ok (.invokevirtual 80, 3) := by decide +kernel
theorem dL_654 : decode code 654 = .ok (.aload_n 2, 1) := by decide +kernel
theorem dL_655 : decode code 655 = .ok (.aload_n 0, 1) := by decide +kernel
theorem dL_656 : decode code 656 = .ok (.iload_n 3, 1) := by decide +kernel
theorem dL_657 : decode code 657 = .ok (.iconst 1, 1) := by decide +kernel
theorem dL_658 : decode code 658 = .ok (.iadd, 1) := by decide +kernel
theorem dL_659 : decode code 659 = .ok (.iaload, 1) := by decide +kernel
theorem dL_660 : decode code 660 = .ok (.invokevirtual 83, 3) := by decide +kernel
theorem dL_663 : decode code 663 = .ok (.if_icmp .eq 466, 3) := by decide +kernel
theorem dL_666 : decode code 666 = .ok (.iconst 0, 1) := by decide +kernel
theorem dL_667 : decode code 667 = .ok (.ireturn, 1) := by decide +kernel
theorem dL_668 : decode code 668 = .ok (.aload_n 1, 1) := by decide +kernel
theorem dL_669 : decode code 669 = .ok (.aload_n 0, 1) := by decide +kernel
theorem dL_670 : decode code 670 = .ok (.iload_n 3, 1) := by decide +kernel
theorem dL_671 : decode code 671 = .ok (.iconst 1, 1) := by decide +kernel
theorem dL_672 : decode code 672 = .ok (.iadd, 1) := by decide +kernel
theorem dL_673 : decode code 673 = .ok (.iaload, 1) := by decide +kernel
theorem dL_674 : decode code 674 = .ok (.aload_n 0, 1) := by decide +kernel
theorem dL_675 : decode code 675 = .ok (.iload_n 3, 1) := by decide +kernel
theorem dL_676 : decode code 676 = .ok (.iconst 2, 1) := by decide +kernel
theorem dL_677 : decode code 677 = .ok (.iadd, 1) := by decide +kernel
theorem dL_678 : decode code 678 = .ok (.iaload, 1) := by decide +kernel
theorem dL_679 : decode code 679 = .ok (.aload_n 0, 1) := by decide +kernel
theorem dL_680 : decode code 680 = .ok (.iload_n 3, 1) := by decide +kernel
theorem dL_681 : decode code 681 = .ok (.iconst 3, 1) := by decide +kernel
theorem dL_682 : decode code 682 = .ok (.iadd, 1) := by decide +kernel
theorem dL_683 : decode code 683 = .ok (.iaload, 1) := by decide +kernel
theorem dL_684 : decode code 684 = .ok (.invokevirtual 84, 3) := by decide +kernel
theorem dL_687 : decode code 687 = .ok (.aload_n 2, 1) := by decide +kernel
theorem dL_688 : decode code 688 = .ok (.aload_n 0, 1) := by decide +kernel
theorem dL_689 : decode code 689 = .ok (.iload_n 3, 1) := by decide +kernel
theorem dL_690 : decode code 690 = .ok (.iconst 1, 1) := by decide +kernel
theorem dL_691 : decode code 691 = .ok (.iadd, 1) := by decide +kernel
theorem dL_692 : decode code 692 = .ok (.iaload, 1) := by decide +kernel
theorem dL_693 : decode code 693 = .ok (.aload_n 0, 1) := by decide +kernel
theorem dL_694 : decode code 694 = .ok (.iload_n 3, 1) := by decide +kernel
theorem dL_695 : decode code 695 = .ok (.iconst 2, 1) := by decide +kernel
theorem dL_696 : decode code 696 = .ok (.iadd, 1) := by decide +kernel
theorem dL_697 : decode code 697 = .ok (.iaload, 1) := by decide +kernel
theorem dL_698 : decode code 698 = .ok (.aload_n 0, 1) := by decide +kernel
theorem dL_699 : decode code 699 = .ok (.iload_n 3, 1) := by decide +kernel
theorem dL_700 : decode code 700 = .ok (.iconst 3, 1) := by decide +kernel
theorem dL_701 : decode code 701 = .ok (.iadd, 1) := by decide +kernel
theorem dL_702 : decode code 702 = .ok (.iaload, 1) := by decide +kernel
theorem dL_703 : decode code 703 = .ok (.invokevirtual 88, 3) := by decide +kernel
theorem dL_706 : decode code 706 = .ok (.if_icmp .eq 423, 3) := by decide +kernel
theorem dL_709 : decode code 709 = .ok (.iconst 0, 1) := by decide +kernel
theorem dL_710 : decode code 710 = .ok (.ireturn, 1) := by decide +kernel
theorem dL_711 : decode code 711 = .ok (.aload_n 1, 1) := by decide +kernel
theorem dL_712 : decode code 712 = .ok (.invokevirtual 89, 3) := by decide +kernel
theorem dL_715 : decode code 715 = .ok (.aload_n 2, 1) := by decide +kernel
theorem dL_716 : decode code 716 = .ok (.invokevirtual 92, 3) := by decide +kernel
theorem dL_719 : decode code 719 = .ok (.if_icmp .eq 410, 3) := by decide +kernel
theorem dL_722 : decode code 722 = .ok (.iconst 0, 1) := by decide +kernel
theorem dL_723 : decode code 723 = .ok (.ireturn, 1) := by decide +kernel
theorem dL_724 : decode code 724 = .ok (.aload_n 1, 1) := by decide +kernel
theorem dL_725 : decode code 725 = .ok (.aload_n 0, 1) := by decide +kernel
theorem dL_726 : decode code 726 = .ok (.iload_n 3, 1) := by decide +kernel
theorem dL_727 : decode code 727 = .ok (.iconst 1, 1) := by decide +kernel
theorem dL_728 : decode code 728 = .ok (.iadd, 1) := by decide +kernel
theorem dL_729 : decode code 729 = .ok (.iaload, 1) := by decide +kernel
theorem dL_730 : decode code 730 = .ok (.invokevirtual 93, 3) := by decide +kernel
theorem dL_733 : decode code 733 = .ok (.aload_n 2, 1) := by decide +kernel
theorem dL_734 : decode code 734 = .ok (.aload_n 0, 1) := by decide +kernel
theorem dL_735 : decode code 735 = .ok (.iload_n 3, 1) := by decide +kernel
theorem dL_736 : decode code 736 = .ok (.iconst 1, 1) := by decide +kernel
theorem dL_737 : decode code 737 = .ok (.iadd, 1) := by decide +kernel
theorem dL_738 : decode code 738 = .ok (.iaload, 1) := by decide +kernel
theorem dL_739 : decode code 739 = .ok (.invokevirtual 96, 3) := by decide +kernel
theorem dL_742 : decode code 742 = .ok (.if_icmp .eq 387, 3) := by decide +kernel
theorem dL_745 : decode code 745 = .ok (.iconst 0, 1) := by decide +kernel
theorem dL_746 : decode code 746 = .ok (.ireturn, 1) := by decide +kernel
theorem dL_747 : decode code 747 = .ok (.aload_n 1, 1) := by decide +kernel
theorem dL_748 : decode code 748 = .ok (.invokevirtual 97, 3) := by decide +kernel
theorem dL_751 : decode code 751 = .ok (.aload_n 2, 1) := by decide +kernel
theorem dL_752 : decode code 752 = .ok (.invokevirtual 101, 3) := by decide +kernel
theorem dL_755 : decode code 755 = .ok (.if_icmp .eq 374, 3) := by decide +kernel
theorem dL_758 : decode code 758 = .ok (.iconst 0, 1) := by decide +kernel
theorem dL_759 : decode code 759 = .ok (.ireturn, 1) := by decide +kernel
theorem dL_760 : decode code 760 = .ok (.aload_n 1, 1) := by decide +kernel
theorem dL_761 : decode code 761 = .ok (.aload_n 0, 1) := by decide +kernel
theorem dL_762 : decode code 762 = .ok (.iload_n 3, 1) := by decide +kernel
theorem dL_763 : decode code 763 = .ok (.iconst 1, 1) := by decide +kernel
theorem dL_764 : decode code 764 = .ok (.iadd, 1) := by decide +kernel
theorem dL_765 : decode code 765 = .ok (.iaload, 1) := by decide +kernel
theorem dL_766 : decode code 766 = .ok (.invokevirtual 102, 3) := by decide +kernel
theorem dL_769 : decode code 769 = .ok (.aload_n 2, 1) := by decide +kernel
theorem dL_770 : decode code 770 = .ok (.aload_n 0, 1) := by decide +kernel
theorem dL_771 : decode code 771 = .ok (.iload_n 3, 1) := by decide +kernel
theorem dL_772 : decode code 772 = .ok (.iconst 1, 1) := by decide +kernel
theorem dL_773 : decode code 773 = .ok (.iadd, 1) := by decide +kernel
theorem dL_774 : decode code 774 = .ok (.iaload, 1) := by decide +kernel
theorem dL_775 : decode code 775 = .ok (.invokevirtual 105, 3) := by decide +kernel
theorem dL_778 : decode code 778 = .ok (.if_icmp .eq 351, 3) := by decide +kernel
theorem dL_781 : decode code 781 = .ok (.iconst 0, 1) := by decide +kernel
theorem dL_782 : decode code 782 = .ok (.ireturn, 1) := by decide +kernel
theorem dL_783 : decode code 783 = .ok (.aload_n 1, 1) := by decide +kernel
theorem dL_784 : decode code 784 = .ok (.aload_n 0, 1) := by decide +kernel
theorem dL_785 : decode code 785 = .ok (.iload_n 3, 1) := by decide +kernel
theorem dL_786 : decode code 786 = .ok (.iconst 1, 1) := by decide +kernel
theorem dL_787 : decode code 787 = .ok (.iadd, 1) := by decide +kernel
theorem dL_788 : decode code 788 = .ok (.iaload, 1) := by decide +kernel
theorem dL_789 : decode code 789 = .ok (.aload_n 0, 1) := by decide +kernel
theorem dL_790 : decode code 790 = .ok (.iload_n 3, 1) := by decide +kernel
theorem dL_791 : decode code 791 = .ok (.iconst 2, 1) := by decide +kernel
theorem dL_792 : decode code 792 = .ok (.iadd, 1) := by decide +kernel
theorem dL_793 : decode code 793 = .ok (.iaload, 1) := by decide +kernel
theorem dL_794 : decode code 794 = .ok (.invokevirtual 106, 3) := by decide +kernel
theorem dL_797 : decode code 797 = .ok (.aload_n 2, 1) := by decide +kernel
theorem dL_798 : decode code 798 = .ok (.aload_n 0, 1) := by decide +kernel
theorem dL_799 : decode code 799 = .ok (.iload_n 3, 1) := by decide +kernel
theorem dL_800 : decode code 800 = .ok (.iconst 1, 1) := by decide +kernel
theorem dL_801 : decode code 801 = .ok (.iadd, 1) := by decide +kernel
theorem dL_802 : decode code 802 = .ok (.iaload, 1) := by decide +kernel
theorem dL_803 : decode code 803 = .ok (.aload_n 0, 1) := by decide +kernel
theorem dL_804 : decode code 804 = .ok (.iload_n 3, 1) := by decide +kernel
theorem dL_805 : decode code 805 = .ok (.iconst 2, 1) := by decide +kernel
theorem dL_806 : decode code 806 = .ok (.iadd, 1) := by decide +kernel
theorem dL_807 : decode code 807 = .ok (.iaload, 1) := by decide +kernel
theorem dL_808 : decode code 808 = .ok (.invokevirtual 109, 3) := by decide +kernel
theorem dL_811 : decode code 811 = .ok (.if_icmp .eq 318, 3) := by decide +kernel
theorem dL_814 : decode code 814 = .ok (.iconst 0, 1) := by decide +kernel
theorem dL_815 : decode code 815 = .ok (.ireturn, 1) := by decide +kernel
theorem dL_816 : decode code 816 = .ok (.aload_n 1, 1) := by decide +kernel
theorem dL_817 : decode code 817 = .ok (.aload_n 0, 1) := by decide +kernel
theorem dL_818 : decode code 818 = .ok (.iload_n 3, 1) := by decide +kernel
theorem dL_819 : decode code 819 = .ok (.iconst 1, 1) := by decide +kernel
theorem dL_820 : decode code 820 = .ok (.iadd, 1) := by decide +kernel
theorem dL_821 : decode code 821 = .ok (.iaload, 1) := by decide +kernel
theorem dL_822 : decode code 822 = .ok (.aload_n 0, 1) := by decide +kernel
theorem dL_823 : decode code 823 = .ok (.iload_n 3, 1) := by decide +kernel
theorem dL_824 : decode code 824 = .ok (.iconst 2, 1) := by decide +kernel
theorem dL_825 : decode code 825 = .ok (.iadd, 1) := by decide +kernel
theorem dL_826 : decode code 826 = .ok (.iaload, 1) := by decide +kernel
theorem dL_827 : decode code 827 = .ok (.aload_n 0, 1) := by decide +kernel
theorem dL_828 : decode code 828 = .ok (.iload_n 3, 1) := by decide +kernel
theorem dL_829 : decode code 829 = .ok (.iconst 3, 1) := by decide +kernel
theorem dL_830 : decode code 830 = .ok (.iadd, 1) := by decide +kernel
theorem dL_831 : decode code 831 = .ok (.iaload, 1) := by decide +kernel
theorem dL_832 : decode code 832 = .ok (.invokevirtual 110, 3) := by decide +kernel
theorem dL_835 : decode code 835 = .ok (.aload_n 2, 1) := by decide +kernel
theorem dL_836 : decode code 836 = .ok (.aload_n 0, 1) := by decide +kernel
theorem dL_837 : decode code 837 = .ok (.iload_n 3, 1) := by decide +kernel
theorem dL_838 : decode code 838 = .ok (.iconst 1, 1) := by decide +kernel
theorem dL_839 : decode code 839 = .ok (.iadd, 1) := by decide +kernel
theorem dL_840 : decode code 840 = .ok (.iaload, 1) := by decide +kernel
theorem dL_841 : decode code 841 = .ok (.aload_n 0, 1) := by decide +kernel
theorem dL_842 : decode code 842 = .ok (.iload_n 3, 1) := by decide +kernel
theorem dL_843 : decode code 843 = .ok (.iconst 2, 1) := by decide +kernel
theorem dL_844 : decode code 844 = .ok (.iadd, 1) := by decide +kernel
theorem dL_845 : decode code 845 = .ok (.iaload, 1) := by decide +kernel
theorem dL_846 : decode code 846 = .ok (.aload_n 0, 1) := by decide +kernel
theorem dL_847 : decode code 847 = .ok (.iload_n 3, 1) := by decide +kernel
theorem dL_848 : decode code 848 = .ok (.iconst 3, 1) := by decide +kernel
theorem dL_849 : decode code 849 = .ok (.iadd, 1) := by decide +kernel
theorem dL_850 : decode code 850 = .ok (.iaload, 1) := by decide +kernel
theorem dL_851 : decode code 851 = .ok (.invokevirtual 113, 3) := by decide +kernel
theorem dL_854 : decode code 854 = .ok (.if_icmp .eq 275, 3) := by decide +kernel
theorem dL_857 : decode code 857 = .ok (.iconst 0, 1) := by decide +kernel
theorem dL_858 : decode code 858 = .ok (.ireturn, 1) := by decide +kernel
theorem dL_859 : decode code 859 = .ok (.aload_n 1, 1) := by decide +kernel
theorem dL_860 : decode code 860 = .ok (.aload_n 0, 1) := by decide +kernel
theorem dL_861 : decode code 861 = .ok (.iload_n 3, 1) := by decide +kernel
theorem dL_862 : decode code 862 = .ok (.iconst 1, 1) := by decide +kernel
theorem dL_863 : decode code 863 = .ok (.iadd, 1) := by decide +kernel
theorem dL_864 : decode code 864 = .ok (.iaload, 1) := by decide +kernel
theorem dL_865 : decode code 865 = .ok (.invokevirtual 114, 3) := by decide +kernel
theorem dL_868 : decode code 868 = .ok (.aload_n 2, 1) := by decide +kernel
theorem dL_869 : decode code 869 = .ok (.aload_n 0, 1) := by decide +kernel
theorem dL_870 : decode code 870 = .ok (.iload_n 3, 1) := by decide +kernel
theorem dL_871 : decode code 871 = .ok (.iconst 1, 1) := by decide +kernel
theorem dL_872 : decode code 872 = .ok (.iadd, 1) := by decide +kernel
theorem dL_873 : decode code 873 = .ok (.iaload, 1) := by decide +kernel
theorem dL_874 : decode code 874 = .ok (.invokevirtual 117, 3) := by decide +kernel
theorem dL_877 : decode code 877 = .ok (.if_icmp .eq 252, 3) := by decide +kernel
theorem dL_880 : decode code 880 = .ok (.iconst 0, 1) := by decide +kernel
theorem dL_881 : decode code 881 = .ok (.ireturn, 1) := by decide +kernel
theorem dL_882 : decode code 882 = .ok (.aload_n 1, 1) := by decide +kernel
theorem dL_883 : decode code 883 = .ok (.aload_n 0, 1) := by decide +kernel
theorem dL_884 : decode code 884 = .ok (.iload_n 3, 1) := by decide +kernel
theorem dL_885 : decode code 885 = .ok (.iconst 1, 1) := by decide +kernel
theorem dL_886 : decode code 886 = .ok (.iadd, 1) := by decide +kernel
theorem dL_887 : decode code 887 = .ok (.iaload, 1) := by decide +kernel
theorem dL_888 : decode code 888 = .ok (.aload_n 0, 1) := by decide +kernel
theorem dL_889 : decode code 889 = .ok (.iload_n 3, 1) := by decide +kernel
theorem dL_890 : decode code 890 = .ok (.iconst 2, 1) := by decide +kernel
theorem dL_891 : decode code 891 = .ok (.iadd, 1) := by decide +kernel
theorem dL_892 : decode code 892 = .ok (.iaload, 1) := by decide +kernel
theorem dL_893 : decode code 893 = .ok (.invokevirtual 118, 3) := by decide +kernel
theorem dL_896 : decode code 896 = .ok (.aload_n 2, 1) := by decide +kernel
theorem dL_897 : decode code 897 = .ok (.aload_n 0, 1) := by decide +kernel
theorem dL_898 : decode code 898 = .ok (.iload_n 3, 1) := by decide +kernel
theorem dL_899 : decode code 899 = .ok (.iconst 1, 1) := by decide +kernel
theorem dL_900 : decode code 900 = .ok (.iadd, 1) := by decide +kernel
theorem dL_901 : decode code 901 = .ok (.iaload, 1) := by decide +kernel
theorem dL_902 : decode code 902 = .ok (.aload_n 0, 1) := by decide +kernel
theorem dL_903 : decode code 903 = .ok (.iload_n 3, 1) := by decide +kernel
theorem dL_904 : decode code 904 = .ok (.iconst 2, 1) := by decide +kernel
theorem dL_905 : decode code 905 = .ok (.iadd, 1) := by decide +kernel
theorem dL_906 : decode code 906 = .ok (.iaload, 1) := by decide +kernel
theorem dL_907 : decode code 907 = .ok (.invokevirtual 121, 3) := by decide +kernel
theorem dL_910 : decode code 910 = .ok (.if_icmp .eq 219, 3) := by decide +kernel
theorem dL_913 : decode code 913 = .ok (.iconst 0, 1) := by decide +kernel
theorem dL_914 : decode code 914 = .ok (.ireturn, 1) := by decide +kernel
theorem dL_915 : decode code 915 = .ok (.aload_n 1, 1) := by decide +kernel
theorem dL_916 : decode code 916 = .ok (.aload_n 0, 1) := by decide +kernel
theorem dL_917 : decode code 917 = .ok (.iload_n 3, 1) := by decide +kernel
theorem dL_918 : decode code 918 = .ok (.iconst 1, 1) := by decide +kernel
theorem dL_919 : decode code 919 = .ok (.iadd, 1) := by decide +kernel
theorem dL_920 : decode code 920 = .ok (.iaload, 1) := by decide +kernel
theorem dL_921 : decode code 921 = .ok (.invokevirtual 122, 3) := by decide +kernel
theorem dL_924 : decode code 924 = .ok (.aload_n 2, 1) := by decide +kernel
theorem dL_925 : decode code 925 = .ok (.aload_n 0, 1) := by decide +kernel
theorem dL_926 : decode code 926 = .ok (.iload_n 3, 1) := by decide +kernel
theorem dL_927 : decode code 927 = .ok (.iconst 1, 1) := by decide +kernel
theorem dL_928 : decode code 928 = .ok (.iadd, 1) := by decide +kernel
theorem dL_929 : decode code 929 = .ok (.iaload, 1) := by decide +kernel
theorem dL_930 : decode code 930 = .ok (.invokevirtual 125, 3) := by decide +kernel
theorem dL_933 : decode code 933 = .ok (.if_icmp .eq 196, 3) := by decide +kernel
theorem dL_936 : decode code 936 = .ok (.iconst 0, 1) := by decide +kernel
theorem dL_937 : decode code 937 = .ok (.ireturn, 1) := by decide +kernel
theorem dL_938 : decode code 938 = .ok (.aload_n 1, 1) := by decide +kernel
theorem dL_939 : decode code 939 = .ok (.aload_n 0, 1) := by decide +kernel
theorem dL_940 : decode code 940 = .ok (.iload_n 3, 1) := by decide +kernel
theorem dL_941 : decode code 941 = .ok (.iconst 1, 1) := by decide +kernel
theorem dL_942 : decode code 942 = .ok (.iadd, 1) := by decide +kernel
theorem dL_943 : decode code 943 = .ok (.iaload, 1) := by decide +kernel
theorem dL_944 : decode code 944 = .ok (.aload_n 0, 1) := by decide +kernel
theorem dL_945 : decode code 945 = .ok (.iload_n 3, 1) := by decide +kernel
theorem dL_946 : decode code 946 = .ok (.iconst 2, 1) := by decide +kernel
theorem dL_947 : decode code 947 = .ok (.iadd, 1) := by decide +kernel
theorem dL_948 : decode code 948 = .ok (.iaload, 1) := by decide +kernel
theorem dL_949 : decode code 949 = .ok (.aload_n 0, 1) := by decide +kernel
theorem dL_950 : decode code 950 = .ok (.iload_n 3, 1) := by decide +kernel
theorem dL_951 : decode code 951 = .ok (.iconst 3, 1) := by decide +kernel
theorem dL_952 : decode code 952 = .ok (.iadd, 1) := by decide +kernel
theorem dL_953 : decode code 953 = .ok (.iaload, 1) := by decide +kernel
theorem dL_954 : decode code 954 = .ok (.invokevirtual 126, 3) := by decide +kernel
theorem dL_957 : decode code 957 = .ok (.aload_n 2, 1) := by decide +kernel
theorem dL_958 : decode code 958 = .ok (.aload_n 0, 1) := by decide +kernel
theorem dL_959 : decode code 959 = .ok (.iload_n 3, 1) := by decide +kernel
theorem dL_960 : decode code 960 = .ok (.iconst 1, 1) := by decide +kernel
theorem dL_961 : decode code 961 = .ok (.iadd, 1) := by decide +kernel
theorem dL_962 : decode code 962 = .ok (.iaload, 1) := by decide +kernel
theorem dL_963 : decode code 963 = .ok (.aload_n 0, 1) := by decide +kernel
theorem dL_964 : decode code 964 = .ok (.iload_n 3, 1) := by decide +kernel
theorem dL_965 : decode code 965 = .ok (.iconst 2, 1) := by decide +kernel
theorem dL_966 : decode code 966 = .ok (.iadd, 1) := by decide +kernel
theorem dL_967 : decode code 967 = .ok (.iaload, 1) := by decide +kernel
theorem dL_968 : decode code 968 = .ok (.aload_n 0, 1) := by decide +kernel
theorem dL_969 : decode code 969 = .ok (.iload_n 3, 1) := by decide +kernel
theorem dL_970 : decode code 970 = .ok (.iconst 3, 1) := by decide +kernel
theorem dL_971 : decode code 971 = .ok (.iadd, 1) := by decide +kernel
theorem dL_972 : decode code 972 = .ok (.iaload, 1) := by decide +kernel
theorem dL_973 : decode code 973 = .ok (.invokevirtual 129, 3) := by decide +kernel
theorem dL_976 : decode code 976 = .ok (.if_icmp .eq 153, 3) := by decide +kernel
theorem dL_979 : decode code 979 = .ok (.iconst 0, 1) := by decide +kernel
theorem dL_980 : decode code 980 = .ok (.ireturn, 1) := by decide +kernel
theorem dL_981 : decode code 981 = .ok (.aload_n 1, 1) := by decide +kernel
theorem dL_982 : decode code 982 = .ok (.aload_n 0, 1) := by decide +kernel
theorem dL_983 : decode code 983 = .ok (.iload_n 3, 1) := by decide +kernel
theorem dL_984 : decode code 984 = .ok (.iconst 1, 1) := by decide +kernel
theorem dL_985 : decode code 985 = .ok (.iadd, 1) := by decide +kernel
theorem dL_986 : decode code 986 = .ok (.iaload, 1) := by decide +kernel
theorem dL_987 : decode code 987 = .ok (.aload_n 0, 1) := by decide +kernel
theorem dL_988 : decode code 988 = .ok (.iload_n 3, 1) := by decide +kernel
theorem dL_989 : decode code 989 = .ok (.iconst 2, 1) := by decide +kernel
theorem dL_990 : decode code 990 = .ok (.iadd, 1) := by decide +kernel
theorem dL_991 : decode code 991 = .ok (.iaload, 1) := by decide +kernel
theorem dL_992 : decode code 992 = .ok (.aload_n 0, 1) := by decide +kernel
theorem dL_993 : decode code 993 = .ok (.iload_n 3, 1) := by decide +kernel
theorem dL_994 : decode code 994 = .ok (.iconst 3, 1) := by decide +kernel
theorem dL_995 : decode code 995 = .ok (.iadd, 1) := by decide +kernel
theorem dL_996 : decode code 996 = .ok (.iaload, 1) := by decide +kernel
theorem dL_997 : decode code 997 = .ok (.invokevirtual 130, 3) := by decide +kernel
theorem dL_1000 : decode code 1000 = .ok (.aload_n 2, 1) := by decide +kernel
theorem dL_1001 : decode code 1001 = .ok (.aload_n 0, 1) := by decide +kernel
theorem dL_1002 : decode code 1002 = .ok (.iload_n 3, 1) := by decide +kernel
theorem dL_1003 : decode code 1003 = .ok (.iconst 1, 1) := by decide +kernel
theorem dL_1004 : decode code 1004 = .ok (.iadd, 1) := by decide +kernel
theorem dL_1005 : decode code 1005 = .ok (.iaload, 1) := by decide +kernel
theorem dL_1006 : decode code 1006 = .ok (.aload_n 0, 1) := by decide +kernel
theorem dL_1007 : decode code 1007 = .ok (.iload_n 3, 1) := by decide +kernel
theorem dL_1008 : decode code 1008 = .ok (.iconst 2, 1) := by decide +kernel
theorem dL_1009 : decode code 1009 = .ok (.iadd, 1) := by decide +kernel
theorem dL_1010 : decode code 1010 = .ok (.iaload, 1) := by decide +kernel
theorem dL_1011 : decode code 1011 = .ok (.aload_n 0, 1) := by decide +kernel
theorem dL_1012 : decode code 1012 = .ok (.iload_n 3, 1) := by decide +kernel
theorem dL_1013 : decode code 1013 = .ok (.iconst 3, 1) := by decide +kernel
theorem dL_1014 : decode code 1014 = .ok (.iadd, 1) := by decide +kernel
theorem dL_1015 : decode code 1015 = .ok (.iaload, 1) := by decide +kernel
theorem dL_1016 : decode code 1016 = .ok (.invokevirtual 133, 3) := by decide +kernel
theorem dL_1019 : decode code 1019 = .ok (.if_icmp .eq 110, 3) := by decide +kernel
theorem dL_1022 : decode code 1022 = .ok (.iconst 0, 1) := by decide +kernel
theorem dL_1023 : decode code 1023 = .ok (.ireturn, 1) := by decide +kernel
theorem dL_1024 : decode code 1024 = .ok (.aload_n 1, 1) := by decide +kernel
theorem dL_1025 : decode code 1025 = .ok (.aload_n 0, 1) := by decide +kernel
theorem dL_1026 : decode code 1026 = .ok (.iload_n 3, 1) := by decide +kernel
theorem dL_1027 : decode code 1027 = .ok (.iconst 1, 1) := by decide +kernel
theorem dL_1028 : decode code 1028 = .ok (.iadd, 1) := by decide +kernel
theorem dL_1029 : decode code 1029 = .ok (.iaload, 1) := by decide +kernel
theorem dL_1030 : decode code 1030 = .ok (.aload_n 0, 1) := by decide +kernel
theorem dL_1031 : decode code 1031 = .ok (.iload_n 3, 1) := by decide +kernel
theorem dL_1032 : decode code 1032 = .ok (.iconst 2, 1) := by decide +kernel
theorem dL_1033 : decode code 1033 = .ok (.iadd, 1) := by decide +kernel
theorem dL_1034 : decode code 1034 = .ok (.iaload, 1) := by decide +kernel
theorem dL_1035 : decode code 1035 = .ok (.invokevirtual 134, 3) := by decide +kernel
theorem dL_1038 : decode code 1038 = .ok (.aload_n 2, 1) := by decide +kernel
theorem dL_1039 : decode code 1039 = .ok (.aload_n 0, 1) := by decide +kernel
theorem dL_1040 : decode code 1040 = .ok (.iload_n 3, 1) := by decide +kernel
theorem dL_1041 : decode code 1041 = .ok (.iconst 1, 1) := by decide +kernel
theorem dL_1042 : decode code 1042 = .ok (.iadd, 1) := by decide +kernel
theorem dL_1043 : decode code 1043 = .ok (.iaload, 1) := by decide +kernel
theorem dL_1044 : decode code 1044 = .ok (.aload_n 0, 1) := by decide +kernel
theorem dL_1045 : decode code 1045 = .ok (.iload_n 3, 1) := by decide +kernel
theorem dL_1046 : decode code 1046 = .ok (.iconst 2, 1) := by decide +kernel
theorem dL_1047 : decode code 1047 = .ok (.iadd, 1) := by decide +kernel
theorem dL_1048 : decode code 1048 = .ok (.iaload, 1) := by decide +kernel
theorem dL_1049 : decode code 1049 = .ok (.invokevirtual 137, 3) := by decide +kernel
theorem dL_1052 : decode code 1052 = .ok (.if_icmp .eq 77, 3) := by decide +kernel
theorem dL_1055 : decode code 1055 = .ok (.iconst 0, 1) := by decide +kernel
theorem dL_1056 : decode code 1056 = .ok (.ireturn, 1) := by decide +kernel
theorem dL_1057 : decode code 1057 = .ok (.aload_n 1, 1) := by decide +kernel
theorem dL_1058 : decode code 1058 = .ok (.invokevirtual 138, 3) := by decide +kernel
theorem dL_1061 : decode code 1061 = .ok (.aload_n 2, 1) := by decide +kernel
theorem dL_1062 : decode code 1062 = .ok (.invokevirtual 141, 3) := by decide +kernel
theorem dL_1065 : decode code 1065 = .ok (.if_icmp .eq 64, 3) := by decide +kernel
theorem dL_1068 : decode code 1068 = .ok (.iconst 0, 1) := by decide +kernel
theorem dL_1069 : decode code 1069 = .ok (.ireturn, 1) := by decide +kernel
theorem dL_1070 : decode code 1070 = .ok (.aload_n 1, 1) := by decide +kernel
theorem dL_1071 : decode code 1071 = .ok (.aload_n 0, 1) := by decide +kernel
theorem dL_1072 : decode code 1072 = .ok (.iload_n 3, 1) := by decide +kernel
theorem dL_1073 : decode code 1073 = .ok (.iconst 1, 1) := by decide +kernel
theorem dL_1074 : decode code 1074 = .ok (.iadd, 1) := by decide +kernel
theorem dL_1075 : decode code 1075 = .ok (.iaload, 1) := by decide +kernel
theorem dL_1076 : decode code 1076 = .ok (.invokevirtual 142, 3) := by decide +kernel
theorem dL_1079 : decode code 1079 = .ok (.aload_n 2, 1) := by decide +kernel
theorem dL_1080 : decode code 1080 = .ok (.aload_n 0, 1) := by decide +kernel
theorem dL_1081 : decode code 1081 = .ok (.iload_n 3, 1) := by decide +kernel
theorem dL_1082 : decode code 1082 = .ok (.iconst 1, 1) := by decide +kernel
theorem dL_1083 : decode code 1083 = .ok (.iadd, 1) := by decide +kernel
theorem dL_1084 : decode code 1084 = .ok (.iaload, 1) := by decide +kernel
theorem dL_1085 : decode code 1085 = .ok (.invokevirtual 145, 3) := by decide +kernel
theorem dL_1088 : decode code 1088 = .ok (.if_icmp .eq 41, 3) := by decide +kernel
theorem dL_1091 : decode code 1091 = .ok (.iconst 0, 1) := by decide +kernel
theorem dL_1092 : decode code 1092 = .ok (.ireturn, 1) := by decide +kernel
theorem dL_1093 : decode code 1093 = .ok (.aload_n 1, 1) := by decide +kernel
theorem dL_1094 : decode code 1094 = .ok (.invokevirtual 146, 3) := by decide +kernel
theorem dL_1097 : decode code 1097 = .ok (.aload_n 2, 1) := by decide +kernel
theorem dL_1098 : decode code 1098 = .ok (.invokevirtual 149, 3) := by decide +kernel
theorem dL_1101 : decode code 1101 = .ok (.if_icmp .eq 28, 3) := by decide +kernel
theorem dL_1104 : decode code 1104 = .ok (.iconst 0, 1) := by decide +kernel
theorem dL_1105 : decode code 1105 = .ok (.ireturn, 1) := by decide +kernel
theorem dL_1106 : decode code 1106 = .ok (.aload_n 1, 1) := by decide +kernel
theorem dL_1107 : decode code 1107 = .ok (.aload_n 0, 1) := by decide +kernel
theorem dL_1108 : decode code 1108 = .ok (.iload_n 3, 1) := by decide +kernel
theorem dL_1109 : decode code 1109 = .ok (.iconst 1, 1) := by decide +kernel
theorem dL_1110 : decode code 1110 = .ok (.iadd, 1) := by decide +kernel
theorem dL_1111 : decode code 1111 = .ok (.iaload, 1) := by decide +kernel
theorem dL_1112 : decode code 1112 = .ok (.invokevirtual 150, 3) := by decide +kernel
theorem dL_1115 : decode code 1115 = .ok (.aload_n 2, 1) := by decide +kernel
theorem dL_1116 : decode code 1116 = .ok (.aload_n 0, 1) := by decide +kernel
theorem dL_1117 : decode code 1117 = .ok (.iload_n 3, 1) := by decide +kernel
theorem dL_1118 : decode code 1118 = .ok (.iconst 1, 1) := by decide +kernel
theorem dL_1119 : decode code 1119 = .ok (.iadd, 1) := by decide +kernel
theorem dL_1120 : decode code 1120 = .ok (.iaload, 1) := by decide +kernel
theorem dL_1121 : decode code 1121 = .ok (.invokevirtual 153, 3) := by decide +kernel
theorem dL_1124 : decode code 1124 = .ok (.if_icmp .eq 5, 3) := by decide +kernel
theorem dL_1127 : decode code 1127 = .ok (.iconst 0, 1) := by decide +kernel
theorem dL_1128 : decode code 1128 = .ok (.ireturn, 1) := by decide +kernel
theorem dL_1129 : decode code 1129 = .ok (.iinc 3 6, 3) := by decide +kernel
theorem dL_1132 : decode code 1132 = .ok (.goto (-1114), 3) := by decide +kernel
theorem dL_1135 : decode code 1135 = .ok (.iconst 1, 1) := by decide +kernel
theorem dL_1136 : decode code 1136 = .ok (.ireturn, 1) := by decide +kernel
end LAWS

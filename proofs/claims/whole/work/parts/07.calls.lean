section CALLS
/-! ===== a method's beginning and end; calls; new cells; what nobody writes ===== -/
def argsL : Nat → List AV → List (Nat × AV)
  | _, [] => []
  | i, v :: vs => (i, v) :: argsL (if isL v = true then i + 2 else i + 1) vs
def catL (S : List AV) : Nat := (S.map fun v => if isL v = true then 2 else 1).sum
theorem argsL_map (ad : Nat → Nat) : ∀ (as : List AV) (i : Nat), lv_args i (as.map (cv ad)) = (argsL i as).map (fun q => (q.1, cv ad q.2))
  | [], _ => rfl
  | v :: vs, i => by
    simp only [List.map_cons, lv_args, argsL, cv_cat]
    rw [argsL_map ad vs]
    cases isL v <;> simp
theorem catL_sl (ad : Nat → Nat) (as : List AV) : (lg_sl (as.map (cv ad))).length = catL as := by
  induction as with
  | nil => rfl
  | cons v vs ih =>
    simp only [lg_sl, catL, List.map_cons, List.flatMap_cons, List.length_append, List.sum_cons] at ih ⊢
    rw [ih, cv_cat]
    cases isL v <;> simp
theorem catL_map (ad : Nat → Nat) (S : List AV) : ((S.map (cv ad)).map fun v => v.category).sum = catL S := by
  rw [List.map_map]
  have e : ((fun v : Value => v.category) ∘ cv ad) = (fun v => if isL v = true then 2 else 1) := by funext v; exact cv_cat _ v
  rw [e]
  rfl
/-- a contract out of a walk, for a class that the machine knows, too -/
theorem Met.ofWF {l : Launch} {y : MethodName} {ws ws' : List Cond} {rm : Room} {Pc : Array Value → State → Prop} {Qc : Array Value → State → Outcome → State → Prop} {mc ms : Nat} {free : Addr → Prop} {cc : ByteArray} {maxL : Nat} {ret : Option FieldType} (hy : plainFor y = true) (hw : ws = Cond.code y cc maxL ret :: ws')
    (body : ∀ p e s m args below meth c s₁, BodyLoose p l y (headSpec ws rm) cc maxL ret e s m args below meth c s₁ → c.maxLocals = maxL → Pc args s → W p l e (headSpec ws rm).room s m args below meth c s.heap [] 0 0 (MQ below Qc args s mc ms free) (entryFrame m args maxL)) : Met l y ws rm Pc Qc mc ms free := by
  refine MetFree.of_bodySF (code := cc) (maxLocals := maxL) (ret := ret) hy (fun args s m h hn => ?_) (fun p e s m args below meth c s₁ B hml hP _ => ?_)
  · obtain ⟨meth, c, q⟩ := Cond.code_spec hn (atoms_spec (ws := ws) h _ (hw ▸ List.mem_cons_self))
    exact ⟨meth, c, q.1, q.2.1, q.2.2.1, q.2.2.2.1, q.2.2.2.2.1, q.2.2.2.2.2.1⟩
  · obtain ⟨t, a1, o, b1, b2, b3⟩ := body p e s m args below meth c s₁ B hml hP s₁ (by rw [B.state]; rfl) (Stand.of_body B)
    exact ⟨t, o, a1, b1, b2, ⟨b3.1, b3.2⟩⟩
theorem WPm.of {k n : Nat} {E : List LT} {md : MD} {as : List AV} {M : Mem} {Q : Option AV → Mem → Prop} (hk : mdN md n) (hw : catL as ≤ md.2.2.1) (h : WP k E md 0 (argsL 0 as) [] M Q) : WPm k E md as M Q := by
  intro l G
  refine Met.ofWF (cc := md.2.1) (maxL := md.2.2.1) (ret := md.2.2.2) hk.1 rfl ?_
  intro p e s m args below meth c s₁ B hml hv
  obtain ⟨rfl, hH, hK, hSt, hn, hz, hE⟩ := hv
  have hts := atoms_spec (ws := wds md) B.pre
  rw [lg_entry_eq]
  have hl := lv_entry (as.map (cv (gA G))) (n := md.2.2.1) (by rw [catL_sl]; exact hw)
  rw [argsL_map] at hl
  exact h p l e _ s m _ below meth c G M.1.length (slo M.1) ⟨B.exec, B.bytes, hml, B.returns, findClass_of_methodNamed B.named, hts, B.notSynchronized, ⟨(name_of_methodNamed B.named B.method).1, hk.2.2.2⟩, hK, ⟨Nat.le_refl _, Nat.le_refl _⟩, ⟨show E.length ≤ (E.length - M.1.length) + M.1.length by omega, show slo E ≤ (slo E - slo M.1) + slo M.1 by omega, hE⟩, hH.2.1, hSt⟩ s.heap [] 0 0 _ hH va_S.rf (Nat.zero_add _) (Nat.zero_add _) ⟨hn, hz⟩ hl
theorem hold_end {p : Program} {l : Launch} {e : Env} {R : Room} {s : State} {m : MethodId} {args : Array Value} {below : List Frame} {meth : Method} {c : Code} {G : Geo} {n0 z0 k : Nat} {E : List LT} {md : MD} {M : Mem} {H : Heap} {locs : List Loc} {t : State} {r : Option AV} {Q : Option AV → Mem → Prop} (C : Cx p l e R s m args below meth c G n0 z0 k E md) (hH : Hd G M H) (hS : va_S (gF G) s.heap H locs) (hE : M.1 = E) (ht : t.heap = H) (hW : s.WarmedH t.vm) (h : Q r M) : Qf G E Q args s (.returned (r.map (cv (gA G)))) t := by
  subst ht
  exact ⟨r, M, rfl, h, hE, ⟨hH, va_K.moved hW.alike C.2.2.2.2.2.2.2.2.1, C.2.2.2.2.2.2.2.2.2.2.2.2.to hS hW, by rw [hE]; exact Nat.le_refl _, by rw [hE]; exact Nat.le_refl _, C.2.2.2.2.2.2.2.2.2.2.1.2.2⟩, hS.F rfl⟩
theorem st_iret {k : Nat} {E : List LT} {md : MD} {pc : Nat} {L : List (Nat × AV)} {M : Mem} {Q : Option AV → Mem → Prop} {z : Int} {ty : FieldType} (hd : decode md.2.1 pc = .ok (.ireturn, 1)) (hr : md.2.2.2 = some ty) (hn : narrow ty (.int (iI z)) = .int (iI z)) (hE : M.1 = E) (h : Q (some (vI z)) M) : WP k E md pc L [vI z] M Q := by
  intro p l e R s m args below meth c G n0 z0 C H locs cells slots ls hH hS h1 h2 h3 hl
  have e1 : E.length - n0 = cells := by rw [← hE]; omega
  have e2 : slo E - z0 = slots := by rw [← hE]; omega
  rw [e1, e2]
  exact W.zret (cc := md.2.1) (v := iI z) C.1 C.2.1 (C.2.2.2.1.trans hr) hn (fun t ht hW => hold_end (r := some (vI z)) C hH hS hE ht hW h) hS.2.2 hd C.2.2.2.2.2.2.1
theorem st_lret {k : Nat} {E : List LT} {md : MD} {pc : Nat} {L : List (Nat × AV)} {M : Mem} {Q : Option AV → Mem → Prop} {z : Int} (hd : decode md.2.1 pc = .ok (.lreturn, 1)) (hr : md.2.2.2 = some .long) (hE : M.1 = E) (h : Q (some (vL z)) M) : WP k E md pc L [vL z] M Q := by
  intro p l e R s m args below meth c G n0 z0 C H locs cells slots ls hH hS h1 h2 h3 hl
  have e1 : E.length - n0 = cells := by rw [← hE]; omega
  have e2 : slo E - z0 = slots := by rw [← hE]; omega
  rw [e1, e2]
  exact W.lret (cc := md.2.1) (v := iL z) C.1 C.2.1 (C.2.2.2.1.trans hr) (fun t ht hW => hold_end (r := some (vL z)) C hH hS hE ht hW h) hS.2.2 hd C.2.2.2.2.2.2.1
theorem st_vret {k : Nat} {E : List LT} {md : MD} {pc : Nat} {L : List (Nat × AV)} {M : Mem} {Q : Option AV → Mem → Prop} (hd : decode md.2.1 pc = .ok (.return_, 1)) (hr : md.2.2.2 = none) (hE : M.1 = E) (h : Q none M) : WP k E md pc L [] M Q := by
  intro p l e R s m args below meth c G n0 z0 C H locs cells slots ls hH hS h1 h2 h3 hl
  have e1 : E.length - n0 = cells := by rw [← hE]; omega
  have e2 : slo E - z0 = slots := by rw [← hE]; omega
  rw [e1, e2]
  exact W.vret (cc := md.2.1) C.1 C.2.1 (C.2.2.2.1.trans hr) (fun t ht hW => hold_end (r := none) C hH hS hE ht hW h) hS.2.2 hd C.2.2.2.2.2.2.1
/-- behind a call -/
theorem run_go {p : Program} {l : Launch} {e : Env} {R : Room} {s : State} {m : MethodId} {args : Array Value} {below : List Frame} {meth : Method} {c : Code} {H : Heap} {locs : List Loc} {cells slots mc ms pc : Nat} {ls : Array Slot} {st0 rest : List Value} {Z : State → Prop} {G : Geo} {E' : List LT} {Q1 : Option AV → Mem → Prop} {a : Array Value} (hr : va_Run p l e R s m args below meth c H locs cells slots mc ms (F0 m pc ls st0) rest (Qf G E' Q1 a) (gF G)) (hS : va_S (gF G) s.heap H locs)
    (kk : ∀ (r : Option AV) (M' : Mem) (H1 : Heap) (locs1 : List Loc), Q1 r M' → M'.1 = E' → Hd G M' H1 → va_S (gF G) s.heap H1 locs1 → W p l e R s m args below meth c H1 locs1 (cells + mc) (slots + ms) Z (F0 m (pc + 3) ls ((r.map (cv (gA G))).toList ++ rest))) : W p l e R s m args below meth c H locs cells slots Z (F0 m pc ls st0) := by
  intro T hT X
  obtain ⟨v, st₀, t, T', L, h0, X', hL, e1, e2, ⟨r, M', hv, hq, hE, hHold, hz, hk⟩, st⟩ := hr T hT X
  cases hv
  rw [h0] at hz hk
  obtain ⟨t2, a1, b1⟩ := kk r M' T'.heap (locs ++ L) hq hE (by rw [e1]; exact hHold.1)
    ⟨Nat.le_trans hS.1 (by rw [e1]; exact hz), fun q h1 h2 => by rw [e1, hk q (Nat.lt_of_lt_of_le h1 hS.1) h2]; exact hS.2.1 q h1 h2, fun q hq => by
      rcases List.mem_append.mp hq with h | h
      · exact hS.2.2 q h
      · exact hL q h⟩ T' rfl X'
  exact ⟨t2, st t2 a1, b1⟩
theorem hold_call {p : Program} {l : Launch} {e : Env} {R : Room} {s : State} {m : MethodId} {args : Array Value} {below : List Frame} {meth : Method} {c : Code} {G : Geo} {n0 z0 k : Nat} {E E' : List LT} {md : MD} {M : Mem} {H : Heap} {locs : List Loc} (C : Cx p l e R s m args below meth c G n0 z0 k E md) (hH : Hd G M H) (hS : va_S (gF G) s.heap H locs) (hE : M.1.length ≤ E'.length ∧ slo M.1 ≤ slo E' ∧ E'.length ≤ E.length ∧ slo E' ≤ slo E) {as : List AV} {U : State} (hU : U.heap = H) (hW : s.WarmedH U.vm) : va_Pc (as.map (cv (gA G))) (Hold G E' M) (as.map (cv (gA G))).toArray U := by
  subst hU
  exact ⟨rfl, hH, va_K.moved hW.alike C.2.2.2.2.2.2.2.2.1, C.2.2.2.2.2.2.2.2.2.2.2.2.to hS hW, hE.1, hE.2.1, Nat.le_trans hE.2.2.1 C.2.2.2.2.2.2.2.2.2.2.1.2.2⟩
theorem hold_blind {G : Geo} {E' : List LT} {M : Mem} {av : List Value} : FrameBlind (va_Pc av (Hold G E' M)) := by
  intro a U g mk h
  obtain ⟨h1, h2, h3, h4, h5⟩ := h
  exact ⟨h1, h2, va_K.moved (u := U) (U := U.calling g mk a) (Vm.Alike.refl U.vm) h3, Stat.call h4 g mk a, h5⟩
/-- the caller's room and words for a callee -/
theorem call_room {p : Program} {l : Launch} {e : Env} {R : Room} {s : State} {m : MethodId} {args : Array Value} {below : List Frame} {meth : Method} {c : Code} {G : Geo} {n0 z0 k kc n : Nat} {E E' : List LT} {md cal : MD} {M : Mem} {cells slots : Nat} (C : Cx p l e R s m args below meth c G n0 z0 k E md) (hv : mdN cal n) (hk : kc + 1 ≤ k) (h1 : cells + n0 = M.1.length) (h2 : slots + z0 = slo M.1) (hE : M.1.length ≤ E'.length ∧ slo M.1 ≤ slo E' ∧ E'.length ≤ E.length ∧ slo E' ≤ slo E) : (kc + 1 ≤ R.frames ∧ 8 + (cal.2.2.1 + 11) + 64 * kc ≤ R.locals) ∧ (cells + (E'.length - M.1.length) ≤ R.cells ∧ slots + (slo E' - slo M.1) ≤ R.slots) := by
  have a := C.2.2.2.2.2.2.2.2.2.1
  have b := C.2.2.2.2.2.2.2.2.2.2.1
  have d := hv.2.2.2
  omega
theorem goodV {md cal : MD} {own : String} {x : Nat} {n : Nat} (hv : mdV cal n) (hl0 : Cond.methodLink own x cal.1 ∈ wG) : GoodIn (wds md) (wsV own x cal.1.cls cal.1 (wds cal)) := by
  intro w hw
  have h : w ∈ wG := by
    rcases List.mem_append.mp hw with h | h
    · simp only [List.mem_cons, List.not_mem_nil, or_false] at h
      rcases h with rfl | rfl | rfl | rfl
      · exact hl0
      · exact hv.2.1
      · exact hv.2.2.1
      · exact hv.2.2.2.1
    · rcases List.mem_cons.mp h with rfl | h
      · exact hv.2.2.2.2
      · exact h
  exact ⟨List.mem_cons_of_mem _ h, good_of_word (wG_good h)⟩
theorem goodS {md cal : MD} {own : String} {x : Nat} {n : Nat} (hv : mdS cal n) (hl0 : Cond.methodLink own x cal.1 ∈ wG) : GoodIn (wds md) (va_wsS own x cal.1 (wds cal)) := by
  intro w hw
  have h : w ∈ wG := by
    rcases List.mem_append.mp hw with h | h
    · simp only [List.mem_cons, List.not_mem_nil, or_false] at h
      rcases h with rfl | rfl | rfl
      · exact hl0
      · exact hv.2.1
      · exact hv.2.2.1
    · rcases List.mem_cons.mp h with rfl | h
      · exact hv.2.2.2
      · exact h
  exact ⟨List.mem_cons_of_mem _ h, good_of_word (wG_good h)⟩
theorem go_on {k : Nat} {E E' : List LT} {md : MD} {pc : Nat} {L : List (Nat × AV)} {S : List AV} {M M' : Mem} {Q : Option AV → Mem → Prop} {p : Program} {l : Launch} {e : Env} {R : Room} {s : State} {m : MethodId} {args : Array Value} {below : List Frame} {meth : Method} {c : Code} {G : Geo} {n0 z0 : Nat} {H1 : Heap} {locs1 : List Loc} {cells slots : Nat} {ls : Array Slot} (C : Cx p l e R s m args below meth c G n0 z0 k E md) (r : Option AV) (h : WP k E md pc L (r.toList ++ S) M' Q) (hM : M'.1 = E') (hH : Hd G M' H1) (hS : va_S (gF G) s.heap H1 locs1) (h1 : cells + n0 = M.1.length) (h2 : slots + z0 = slo M.1) (hE : M.1.length ≤ E'.length ∧ slo M.1 ≤ slo E' ∧ E'.length ≤ E.length ∧ slo E' ≤ slo E) (hl : lv_has ls md.2.2.1 (L.map (fun q => (q.1, cv (gA G) q.2)))) :
    W p l e R s m args below meth c H1 locs1 (cells + (E'.length - M.1.length)) (slots + (slo E' - slo M.1)) (MQ below (Qf G E Q) args s (E.length - n0) (slo E - z0) (gF G)) (F0 m pc ls ((r.map (cv (gA G))).toList ++ S.map (cv (gA G)))) := by
  subst hM
  have h9 := h p l e R s m args below meth c G n0 z0 C H1 locs1 (cells + (M'.1.length - M.1.length)) (slots + (slo M'.1 - slo M.1)) ls hH hS (by omega) (by omega) ⟨hE.2.2.1, hE.2.2.2⟩ hl
  cases r <;> exact h9
theorem st_callV {k : Nat} {E : List LT} {md : MD} {pc pc' : Nat} {L : List (Nat × AV)} {S : List AV} {M : Mem} {Q : Option AV → Mem → Prop} {kc : Nat} {E' : List LT} {cal : MD} {x b ci nf n : Nat} {as S' : List AV} {r0 : vw_C} {Q1 : Option AV → Mem → Prop} (hd : decode md.2.1 pc = .ok (.invokevirtual x, 3)) (hp : pc + 3 = pc') (hl0 : Cond.methodLink md.1.cls x cal.1 ∈ wG) (hv : mdV cal n) (hn : as.length = n) (ha : M.1[b]? = some (ci + 3, nf)) (hr : vwCl[ci]? = some r0) (hC : r0.1 = cal.1.cls) (hS' : as.reverse ++ vR (some b) :: S = S') (hc : catL S ≤ 8) (hk : kc + 1 ≤ k) (hE : M.1.length ≤ E'.length ∧ slo M.1 ≤ slo E' ∧ E'.length ≤ E.length ∧ slo E' ≤ slo E)
    (h : WPm kc E' cal (vR (some b) :: as) M Q1) (h2 : ∀ r M', Q1 r M' → WP k E md pc' L (r.toList ++ S) M' Q) : WP k E md pc L S' M Q := by
  intro p l e R s m args below meth c G n0 z0 C H locs cells slots ls hH hS h1 h3 h4 hl
  subst hp; subst hS'
  have hro := call_room C hv.1 hk h1 h3 hE
  have e1 : (as.reverse ++ vR (some b) :: S).map (cv (gA G)) = (as.map (cv (gA G))).reverse ++ .ref (gA G b) :: S.map (cv (gA G)) := by simp [cv, va_rf]
  rw [e1]
  have hrun := va_runV (p := p) (l := l) (e := e) (R := R) (s := s) (m := m) (args := args) (below := below) (meth := meth) (c := c) (H := H) (locs := locs) (cells := cells) (slots := slots) (cc := md.2.1) (nL := md.2.2.1) (own := md.1.cls) (Ts := wds md) (C := cal.1.cls) (b := gA G b) (As := as.map (cv (gA G))) (rest := S.map (cv (gA G))) (g := F0 m pc ls ((as.map (cv (gA G))).reverse ++ .ref (gA G b) :: S.map (cv (gA G)))) ⟨C.1, C.2.1, C.2.2.1, C.2.2.2.2.1, C.2.2.2.2.2.1⟩ (h l G)
    (cwV n C.2.2.2.2.2.1 (goodV hv hl0) rfl rfl rfl ⟨rfl, hv.1.2.1.1, hv.1.2.1.2, hv.1.2.2.1⟩ hro.1) ⟨hold_blind, by rw [← hC]; exact va_recv C.2.2.2.2.2.2.2.2.1 hH.1 hr (ws_get ha), fun U hU hW => hold_call C hH hS hE (as := vR (some b) :: as) hU hW⟩ rfl (by rw [List.length_map]; exact hn) hl.1 rfl (lv_room (by rw [catL_map]; exact hc)) hd hro.2
  exact run_go hrun hS (fun r M' H1 locs1 q hM hH1 hS1 => go_on C r (h2 r M' q) hM hH1 hS1 h1 h3 hE hl)
theorem st_callS {k : Nat} {E : List LT} {md : MD} {pc pc' : Nat} {L : List (Nat × AV)} {S : List AV} {M : Mem} {Q : Option AV → Mem → Prop} {kc : Nat} {E' : List LT} {cal : MD} {x n : Nat} {as S' : List AV} {Q1 : Option AV → Mem → Prop} (hd : decode md.2.1 pc = .ok (.invokestatic x, 3)) (hp : pc + 3 = pc') (hl0 : Cond.methodLink md.1.cls x cal.1 ∈ wG) (hv : mdS cal n) (hn : as.length = n) (hS' : as.reverse ++ S = S') (hc : catL S ≤ 8) (hk : kc + 1 ≤ k) (hE : M.1.length ≤ E'.length ∧ slo M.1 ≤ slo E' ∧ E'.length ≤ E.length ∧ slo E' ≤ slo E)
    (h : WPm kc E' cal as M Q1) (h2 : ∀ r M', Q1 r M' → WP k E md pc' L (r.toList ++ S) M' Q) : WP k E md pc L S' M Q := by
  intro p l e R s m args below meth c G n0 z0 C H locs cells slots ls hH hS h1 h3 h4 hl
  subst hp; subst hS'
  have hro := call_room C hv.1 hk h1 h3 hE
  have e1 : (as.reverse ++ S).map (cv (gA G)) = (as.map (cv (gA G))).reverse ++ S.map (cv (gA G)) := by simp
  rw [e1]
  have hrun := va_runS (p := p) (l := l) (e := e) (R := R) (s := s) (m := m) (args := args) (below := below) (meth := meth) (c := c) (H := H) (locs := locs) (cells := cells) (slots := slots) (cc := md.2.1) (nL := md.2.2.1) (own := md.1.cls) (Ts := wds md) (As := as.map (cv (gA G))) (rest := S.map (cv (gA G))) (g := F0 m pc ls ((as.map (cv (gA G))).reverse ++ S.map (cv (gA G)))) ⟨C.1, C.2.1, C.2.2.1, C.2.2.2.2.1, C.2.2.2.2.2.1⟩ (h l G)
    (va_cwS n C.2.2.2.2.2.1 (goodS hv hl0) rfl rfl rfl ⟨hv.1.2.1.1, hv.1.2.1.2, hv.1.2.2.1⟩ hro.1) ⟨hold_blind, fun U hU hW => hold_call C hH hS hE (as := as) hU hW⟩ rfl (by rw [List.length_map]; exact hn) hl.1 rfl (lv_room (by rw [catL_map]; exact hc)) hd hro.2
  exact run_go hrun hS (fun r M' H1 locs1 q hM hH1 hS1 => go_on C r (h2 r M' q) hM hH1 hS1 h1 h3 hE hl)
theorem st_callI {k : Nat} {E : List LT} {md : MD} {pc pc' : Nat} {L : List (Nat × AV)} {S : List AV} {M : Mem} {Q : Option AV → Mem → Prop} {kc : Nat} {E' : List LT} {cal : MD} {x b n : Nat} {as S' : List AV} {Q1 : Option AV → Mem → Prop} (hd : decode md.2.1 pc = .ok (.invokespecial x, 3)) (hp : pc + 3 = pc') (hl0 : Cond.methodLink md.1.cls x cal.1 ∈ wG) (hv : mdI cal n) (hy : cal.1.name = "<init>") (hret : cal.2.2.2 = none) (hn : as.length = n) (hS' : as.reverse ++ vR (some b) :: S = S') (hc : catL S ≤ 8) (hk : kc + 1 ≤ k) (hE : M.1.length ≤ E'.length ∧ slo M.1 ≤ slo E' ∧ E'.length ≤ E.length ∧ slo E' ≤ slo E)
    (h : WPm kc E' cal (vR (some b) :: as) M Q1) (h2 : ∀ r M', Q1 r M' → WP k E md pc' L (r.toList ++ S) M' Q) : WP k E md pc L S' M Q := by
  intro p l e R s m args below meth c G n0 z0 C H locs cells slots ls hH hS h1 h3 h4 hl
  subst hp; subst hS'
  have hro := call_room C hv.1 hk h1 h3 hE
  have e1 : (as.reverse ++ vR (some b) :: S).map (cv (gA G)) = (as.map (cv (gA G))).reverse ++ .ref (gA G b) :: S.map (cv (gA G)) := by simp [cv, va_rf]
  rw [e1]
  have hrun := va_runI (p := p) (l := l) (e := e) (R := R) (s := s) (m := m) (args := args) (below := below) (meth := meth) (c := c) (H := H) (locs := locs) (cells := cells) (slots := slots) (cc := md.2.1) (nL := md.2.2.1) (own := md.1.cls) (Ts := wds md) (b := gA G b) (As := as.map (cv (gA G))) (rest := S.map (cv (gA G))) (g := F0 m pc ls ((as.map (cv (gA G))).reverse ++ .ref (gA G b) :: S.map (cv (gA G)))) ⟨C.1, C.2.1, C.2.2.1, C.2.2.2.2.1, C.2.2.2.2.2.1⟩ (h l G)
    (cwI (bytes := cal.2.1) (maxL := cal.2.2.1) (ws' := wG) n C.2.2.2.2.2.1 (wds_in (fun w h => List.mem_cons_of_mem _ h) hv.2.2.2) (by unfold wds; rw [hret]) rfl rfl (C.ts hv.2.2.1) (C.ts hl0) (C.ts hv.2.1) hy ⟨hv.1.2.1.1, hv.1.2.1.2, hv.1.2.2.1⟩ hro.1) ⟨hold_blind, fun U hU hW => hold_call C hH hS hE (as := vR (some b) :: as) hU hW⟩ rfl (by rw [List.length_map]; exact hn) hl.1 rfl (lv_room (by rw [catL_map]; exact hc)) hd hro.2
  exact run_go hrun hS (fun r M' H1 locs1 q hM hH1 hS1 => go_on C r (h2 r M' q) hM hH1 hS1 h1 h3 hE hl)
/-- a constructor of a nest mate -/
theorem st_callIN {k : Nat} {E : List LT} {md : MD} {pc pc' : Nat} {L : List (Nat × AV)} {S : List AV} {M : Mem} {Q : Option AV → Mem → Prop} {kc : Nat} {E' : List LT} {cal : MD} {x b n : Nat} {host : String} {as S' : List AV} {Q1 : Option AV → Mem → Prop} (hd : decode md.2.1 pc = .ok (.invokespecial x, 3)) (hp : pc + 3 = pc') (hl0 : ∀ G U H, Stat G U H → va_Nw (.methodLinkNest md.1.cls x cal.1 host) U) (hv : mdI cal n) (hy : cal.1.name = "<init>") (hret : cal.2.2.2 = none) (hn : as.length = n) (hS' : as.reverse ++ vR (some b) :: S = S') (hc : catL S ≤ 8) (hk : kc + 1 ≤ k) (hE : M.1.length ≤ E'.length ∧ slo M.1 ≤ slo E' ∧ E'.length ≤ E.length ∧ slo E' ≤ slo E)
    (h : WPm kc E' cal (vR (some b) :: as) M Q1) (h2 : ∀ r M', Q1 r M' → WP k E md pc' L (r.toList ++ S) M' Q) : WP k E md pc L S' M Q := by
  intro p l e R s m args below meth c G n0 z0 C H locs cells slots ls hH hS h1 h3 h4 hl
  subst hp; subst hS'
  have hro := call_room C hv.1 hk h1 h3 hE
  have e1 : (as.reverse ++ vR (some b) :: S).map (cv (gA G)) = (as.map (cv (gA G))).reverse ++ .ref (gA G b) :: S.map (cv (gA G)) := by simp [cv, va_rf]
  rw [e1]
  have hrun := va_runIN (p := p) (l := l) (e := e) (R := R) (s := s) (m := m) (args := args) (below := below) (meth := meth) (c := c) (H := H) (locs := locs) (cells := cells) (slots := slots) (cc := md.2.1) (nL := md.2.2.1) (own := md.1.cls) (Ts := wds md) (b := gA G b) (As := as.map (cv (gA G))) (rest := S.map (cv (gA G))) (g := F0 m pc ls ((as.map (cv (gA G))).reverse ++ .ref (gA G b) :: S.map (cv (gA G)))) ⟨C.1, C.2.1, C.2.2.1, C.2.2.2.2.1, C.2.2.2.2.2.1⟩ (h l G)
    ⟨va_cnB (bytes := cal.2.1) (maxL := cal.2.2.1) (ws' := wG) n C.2.2.2.2.2.1 (wds_in (fun w h => List.mem_cons_of_mem _ h) hv.2.2.2) (by unfold wds; rw [hret]) rfl rfl (hl0 G s s.heap C.2.2.2.2.2.2.2.2.2.2.2.2) (C.ts hv.2.2.1) ⟨hv.1.2.1.1, hv.1.2.1.2, hv.1.2.2.1⟩ hro.1, hy, C.ts hv.2.1⟩ ⟨hold_blind, fun U hU hW => hold_call C hH hS hE (as := vR (some b) :: as) hU hW⟩ rfl (by rw [List.length_map]; exact hn) hl.1 rfl (lv_room (by rw [catL_map]; exact hc)) hd hro.2
  exact run_go hrun hS (fun r M' H1 locs1 q hM hH1 hS1 => go_on C r (h2 r M' q) hM hH1 hS1 h1 h3 hE hl)
/-- Object's constructor -/
theorem st_objInit {k : Nat} {E : List LT} {md : MD} {pc pc' : Nat} {L : List (Nat × AV)} {S : List AV} {M : Mem} {Q : Option AV → Mem → Prop} {x a : Nat} (hd : decode md.2.1 pc = .ok (.invokespecial x, 3)) (hp : pc + 3 = pc') (hl0 : Cond.methodLink md.1.cls x objectInit ∈ wG) (hw : Cond.instanceMethod objectInit ∈ wG ∧ Cond.code objectInit ⟨#[0xb1]⟩ 1 none ∈ wG) (hc : catL S ≤ 8) (hk : 1 ≤ k) (h : WP k E md pc' L S M Q) : WP k E md pc L (vR (some a) :: S) M Q := by
  intro p l e R s m args below meth c G n0 z0 C H locs cells slots ls hH hS h1 h2 h3 hl
  subst hp
  have a0 := C.2.2.2.2.2.2.2.2.2.1
  refine W.objInit (cc := md.2.1) (own := md.1.cls) (rest := S.map (cv (gA G))) (a := gA G a) C.1 C.2.1 C.2.2.2.2.1 (C.ts hl0) (C.ts hw.1) (C.ts hw.2) rfl (hl.1.trans C.2.2.1.symm) rfl hd (by omega) ?_ (h p l e R s m args below meth c G n0 z0 C H locs cells slots ls hH hS h1 h2 h3 hl)
  have e2 := catL_map (gA G) S
  show 2 * 0 + _ + 12 ≤ _
  omega
/-- a new row -/
theorem st_newarr {k : Nat} {E : List LT} {md : MD} {pc pc' : Nat} {L : List (Nat × AV)} {S : List AV} {M : Mem} {Q : Option AV → Mem → Prop} (kd : Nat) (aty : ArrayType) (tye : FieldType) {n : Int} {N q : Nat} {M' : Mem} (hcase : (kd = 0 ∧ aty = .int ∧ tye = .int) ∨ (kd = 1 ∧ aty = .long ∧ tye = .long) ∨ (kd = 2 ∧ aty = .boolean ∧ tye = .boolean)) (hd : decode md.2.1 pc = .ok (.newarray aty, 2)) (hp : pc + 2 = pc') (hw : Cond.arrayClass tye ∈ wG) (hN : n = (N : Int)) (hN2 : N ≤ 1000000) (hE : M.1.length + 1 ≤ E.length ∧ slo M.1 + N ≤ slo E) (hq : M.1.length = q) (hM : newC M (kd, N) = M') (h : WP k E md pc' L (vR (some q) :: S) M' Q) : WP k E md pc L (vI n :: S) M Q := by
  intro p l e R s m args below meth c G n0 z0 C H locs cells slots ls hH hS h1 h2 h3 hl
  subst hp; subst hM; subst hq; subst hN
  have b0 := C.2.2.2.2.2.2.2.2.2.2.1
  have hty : newarray.typeOf aty = tye := by rcases hcase with ⟨rfl, rfl, rfl⟩ | ⟨rfl, rfl, rfl⟩ | ⟨rfl, rfl, rfl⟩ <;> rfl
  have hby : componentBytes tye ≤ 8 := by rcases hcase with ⟨rfl, rfl, rfl⟩ | ⟨rfl, rfl, rfl⟩ | ⟨rfl, rfl, rfl⟩ <;> decide
  have had : gA G M.1.length = gB G + M.1.length := hH.2.2.2.1 _ (Nat.le_refl _) (by omega)
  refine va_newaK (cc := md.2.1) (atype := aty) (n := iI (N : Int)) (N := N) (rest := S.map (cv (gA G))) C.1 C.2.1 (by rw [hty]; exact C.ts hw) rfl hd rfl (by rw [z_lt ⟨by omega, by omega⟩]; omega) (by rw [iI_nat (by omega) (by omega)]; omega) (by rw [hty]; exact Nat.le_trans (Nat.mul_le_mul hN2 hby) (by decide)) (by omega) (by omega) (h := gB G + M.1.length) hH.2.1 (fun H1 cA f1 f2 f3 f4 f5 => ?_)
  rw [hty] at f1 f4 f5
  have hcell : va_P (gD G) vwCl [(gA G M.1.length, encC G (newC M (kd, N)) M.1.length (kd, N))] H1 := by
    intro j x hx
    have hz : j < 1 := (List.getElem?_eq_some_iff.mp hx).1
    rw [show j = 0 by omega] at hx
    cases hx
    rw [had]
    rcases hcase with ⟨rfl, rfl, rfl⟩ | ⟨rfl, rfl, rfl⟩ | ⟨rfl, rfl, rfl⟩
    · have hc : cA = gCI G := Option.some.inj (f5.symm.trans (C.2.2.2.2.2.2.2.2.1.2 0 _ rfl).2)
      subst hc
      show H1[gB G + M.1.length]? = some (vp_cell _ _)
      rw [f1]
      simp only [newC, ze2, if_true]
      rfl
    · have hc : cA = gCJ G := Option.some.inj (f5.symm.trans (C.2.2.2.2.2.2.2.2.1.2 1 _ rfl).2)
      subst hc
      show H1[gB G + M.1.length]? = some (vp_cell _ _)
      rw [f1]
      simp only [newC, ze2, if_true]
      rfl
    · have hc : cA = gCZ G := Option.some.inj (f5.symm.trans (C.2.2.2.2.2.2.2.2.1.2 2 _ rfl).2)
      subst hc
      show H1[gB G + M.1.length]? = some (vp_cell _ _)
      rw [f1]
      simp only [newC, ze2, if_true]
      rfl
  have hk : ∀ (j : Nat) (x : Nat × va_E), (wsC G M)[j]? = some x → H1[x.1]? = H[x.1]? := fun j x hx => f3 x.1 (by rw [← hH.2.1]; exact (hH.1 j x hx).lt)
  have hP1 : va_P (gD G) vwCl (wsC G (newC M (kd, N))) H1 := by
    rw [ws_new]
    exact (hH.1.kept hk).app hcell
  have hS1 : va_S (gF G) s.heap H1 locs := ⟨Nat.le_trans hS.1 (by rw [f2, hH.2.1]; omega), fun y g1 g2 => (f3 y (by rw [← hH.2.1]; exact Nat.lt_of_lt_of_le g1 hS.1)).trans (hS.2.1 y g1 g2), hS.2.2⟩
  have hln : (newC M (kd, N)).1.length = M.1.length + 1 := by simp [newC]
  have hsl : slo (newC M (kd, N)).1 = slo M.1 + N := by simp [newC, slo]
  have h9 := h p l e R s m args below meth c G n0 z0 C H1 locs (cells + 1) (slots + N) ls ⟨hP1, by rw [hln, f2]; omega, by rw [hln]; exact hH.2.2.succ (by omega)⟩ hS1 (by rw [hln]; omega) (by rw [hsl]; omega) ⟨by rw [hln]; omega, by rw [hsl]; omega⟩ hl
  change W p l e R s m args below meth c H1 locs (cells + 1) (slots + N) _ (F0 m (pc + 2) ls (.ref (gA G M.1.length) :: S.map (cv (gA G)))) at h9
  rw [had] at h9
  exact h9
def okTy : FieldType → Bool
  | .int => true
  | .long => true
  | .boolean => true
  | .object _ => true
  | .array _ => true
  | _ => false
/-- a new object -/
theorem st_new {k : Nat} {E : List LT} {md : MD} {pc pc' : Nat} {L : List (Nat × AV)} {S : List AV} {M : Mem} {Q : Option AV → Mem → Prop} {x ci q : Nat} {r0 : vw_C} {M' : Mem} (hd : decode md.2.1 pc = .ok (.new x, 3)) (hp : pc + 3 = pc') (hr : vwCl[ci]? = some r0) (hl0 : Cond.classLink md.1.cls x r0.1 ∈ wG) (hw : Cond.instantiable r0.1 r0.2.2 ∈ wG ∧ Cond.initialized r0.1 ∈ wG) (hty : (List.range r0.2.2).all (fun j => okTy (Ty ci j)) = true) (hE : M.1.length + 1 ≤ E.length ∧ slo M.1 + r0.2.2 ≤ slo E) (hq : M.1.length = q) (hM : newC M (ci + 3, r0.2.2) = M') (h : WP k E md pc' L (vR (some q) :: S) M' Q) : WP k E md pc L S M Q := by
  intro p l e R s m args below meth c G n0 z0 C H locs cells slots ls hH hS h1 h2 h3 hl
  subst hp; subst hM; subst hq
  have b0 := C.2.2.2.2.2.2.2.2.2.2.1
  have hc := cl_ok ci r0 hr
  have hts : ∀ w ∈ wds md, w.before args s = true := C.2.2.2.2.2.1
  have hin : ∀ w ∈ u_ws r0.1 r0.2.1 r0.2.2, w ∈ wds md := fun w hw => List.mem_cons_of_mem _ (hc.1 w hw)
  have hKn := C.2.2.2.2.2.2.2.2.1.1 ci _ hr
  have had : gA G M.1.length = gB G + M.1.length := hH.2.2.2.1 _ (Nat.le_refl _) (by omega)
  refine W.newcK (cc := md.2.1) (own := md.1.cls) (C := r0.1) (n := r0.2.2) C.1 C.2.1 C.2.2.2.2.1 (C.ts hl0) (C.ts hw.1) (C.ts hw.2) rfl hd (by omega) (by omega) hKn.2.1 (h := gB G + M.1.length) hH.2.1 (fun H1 kC hkC f1 f2 f3 => ?_)
  have hcell : va_P (gD G) vwCl [(gA G M.1.length, encC G (newC M (ci + 3, r0.2.2)) M.1.length (ci + 3, r0.2.2))] H1 := by
    intro j x hx
    have hz : j < 1 := (List.getElem?_eq_some_iff.mp hx).1
    rw [show j = 0 by omega] at hx
    cases hx
    rw [had]
    refine ⟨r0, hr, (u_born (Ty ci) hts hin hKn hkC f1 hc.2.1).to fun j hj => ?_⟩
    show defaultValue (Ty ci j) = (fsC (gA G) (newC M (ci + 3, r0.2.2)) M.1.length ci r0.2.2).getD j .null
    rw [List.getD_eq_getElem?_getD, fs_get hj]
    have ht := List.all_eq_true.mp hty j (List.mem_range.mpr hj)
    revert ht
    cases Ty ci j <;> simp [fv, newC, ze2, defaultValue, va_rf, okTy]
  have hk : ∀ (j : Nat) (x : Nat × va_E), (wsC G M)[j]? = some x → H1[x.1]? = H[x.1]? := fun j x hx => f3 x.1 (by rw [← hH.2.1]; exact (hH.1 j x hx).lt)
  have hP1 : va_P (gD G) vwCl (wsC G (newC M (ci + 3, r0.2.2))) H1 := by
    rw [ws_new]
    exact (hH.1.kept hk).app hcell
  have hS1 : va_S (gF G) s.heap H1 locs := ⟨Nat.le_trans hS.1 (by rw [f2, hH.2.1]; omega), fun y g1 g2 => (f3 y (by rw [← hH.2.1]; exact Nat.lt_of_lt_of_le g1 hS.1)).trans (hS.2.1 y g1 g2), hS.2.2⟩
  have hln : (newC M (ci + 3, r0.2.2)).1.length = M.1.length + 1 := by simp [newC]
  have hsl : slo (newC M (ci + 3, r0.2.2)).1 = slo M.1 + r0.2.2 := by simp [newC, slo]
  have h9 := h p l e R s m args below meth c G n0 z0 C H1 locs (cells + 1) (slots + r0.2.2) ls ⟨hP1, by rw [hln, f2]; omega, by rw [hln]; exact hH.2.2.succ (by omega)⟩ hS1 (by rw [hln]; omega) (by rw [hsl]; omega) ⟨by rw [hln]; omega, by rw [hsl]; omega⟩ hl
  change W p l e R s m args below meth c H1 locs (cells + 1) (slots + r0.2.2) _ (F0 m (pc + 3) ls (.ref (gA G M.1.length) :: S.map (cv (gA G)))) at h9
  rw [had] at h9
  exact h9
/-! the static row of first names -/
theorem st_getsFN {k : Nat} {E : List LT} {md : MD} {pc pc' : Nat} {L : List (Nat × AV)} {S : List AV} {M : Mem} {Q : Option AV → Mem → Prop} (hd : decode md.2.1 pc = .ok (.getstatic 70, 3)) (hp : pc + 3 = pc') (ho : md.1.cls = RX7) (h : WP k E md pc' L (vR (some 1000000) :: S) M Q) : WP k E md pc L S M Q := by
  intro p l e R s m args below meth c G n0 z0 C H locs cells slots ls hH hS h1 h2 h3 hl
  subst hp
  have hSt := C.2.2.2.2.2.2.2.2.2.2.2.2
  exact va_getsN (cc := md.2.1) (own := RX7) C.1 C.2.1 hSt.1 hS (by rw [← ho]; exact C.2.2.2.2.1) (va_Nw.use rfl hSt.2.2.1) (fun _ q => q) hd (h p l e R s m args below meth c G n0 z0 C H locs cells slots ls hH hS h1 h2 h3 hl)
theorem st_getsF {k : Nat} {E : List LT} {md : MD} {pc pc' : Nat} {L : List (Nat × AV)} {S : List AV} {M : Mem} {Q : Option AV → Mem → Prop} {x : Nat} (hd : decode md.2.1 pc = .ok (.getstatic x, 3)) (hp : pc + 3 = pc') (hl0 : Cond.fieldLink md.1.cls x "CandleInch" "FIRST_NAME" "[I" ∈ wG) (h : WP k E md pc' L (vR (some 1000000) :: S) M Q) : WP k E md pc L S M Q := by
  intro p l e R s m args below meth c G n0 z0 C H locs cells slots ls hH hS h1 h2 h3 hl
  subst hp
  have hSt := C.2.2.2.2.2.2.2.2.2.2.2.2
  exact va_gets (cc := md.2.1) (own := md.1.cls) C.1 C.2.1 hSt.1 hS C.2.2.2.2.1 (C.ts hl0) (fun _ q => q) hd (h p l e R s m args below meth c G n0 z0 C H locs cells slots ls hH hS h1 h2 h3 hl)
theorem st_fnld {k : Nat} {E : List LT} {md : MD} {pc pc' : Nat} {L : List (Nat × AV)} {S : List AV} {M : Mem} {Q : Option AV → Mem → Prop} {z v : Int} (hd : decode md.2.1 pc = .ok (.iaload, 1)) (hp : pc + 1 = pc') (h0 : 0 ≤ z ∧ z < 4) (hv : firstN.getD z.toNat 0 = v) (h : WP k E md pc' L (vI v :: S) M Q) : WP k E md pc L (vI z :: vR (some 1000000) :: S) M Q := by
  intro p l e R s m args below meth c G n0 z0 C H locs cells slots ls hH hS h1 h2 h3 hl
  subst hp; subst hv
  have hSt := C.2.2.2.2.2.2.2.2.2.2.2.2
  exact va_ti (cc := md.2.1) C.1 C.2.1 hSt.2.1 hS (i := iI z) (iI_in (n := 4) h0.1 h0.2 (by decide)) (by rw [iI_nat h0.1 (by omega)]; rfl) hd (h p l e R s m args below meth c G n0 z0 C H locs cells slots ls hH hS h1 h2 h3 hl)
end CALLS

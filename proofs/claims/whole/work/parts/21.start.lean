section STARTS
theorem in_ok : ∀ (ci : Nat) (r : vw_C), vwCl[ci]? = some r → Cond.instantiable r.1 r.2.2 ∈ wG ∧ clOk ci r := by
  intro ci r h
  match ci, h with
  | 0, h => cases h; exact ⟨i_X0.1, cl_ok 0 _ rfl⟩
  | 1, h => cases h; exact ⟨i_X1.1, cl_ok 1 _ rfl⟩
  | 2, h => cases h; exact ⟨i_X2.1, cl_ok 2 _ rfl⟩
  | 3, h => cases h; exact ⟨i_X3.1, cl_ok 3 _ rfl⟩
  | 4, h => cases h; exact ⟨i_X4.1, cl_ok 4 _ rfl⟩
  | 5, h => cases h; exact ⟨i_X5.1, cl_ok 5 _ rfl⟩
  | 6, h => cases h; exact ⟨i_X6.1, cl_ok 6 _ rfl⟩
  | 7, h => cases h; exact ⟨i_X7.1, cl_ok 7 _ rfl⟩
  | 8, h => cases h; exact ⟨i_X8.1, cl_ok 8 _ rfl⟩
  | 9, h => cases h; exact ⟨i_X9.1, cl_ok 9 _ rfl⟩
  | 10, h => cases h; exact ⟨i_X10.1, cl_ok 10 _ rfl⟩
  | 11, h => cases h; exact ⟨i_X11.1, cl_ok 11 _ rfl⟩
  | 12, h => cases h; exact ⟨i_X12.1, cl_ok 12 _ rfl⟩
  | n + 13, h => cases h
theorem arr_kn {args : Array Value} {s : State} {ty : FieldType} (h : (Cond.arrayClass ty).before args s = true) : ∃ cA : ClassId, ArrOfT s cA ty ∧ s.vm.findClass ("[" ++ ty.toString) = some cA := by
  obtain ⟨c, k, comp, h1, h2, h3⟩ := Cond.arrayClass_spec h
  exact ⟨c, fun n z => ⟨fun k h => (by cases h), k, h2, comp, h3⟩, h1⟩
def tmF : Term := .static "CandleInch" "FIRST_NAME" "[I"
def tmS : Term := .string RX10 61
def tmV : Term := .field tmS "java/lang/String" "value" "[B"
def fw : List Cond := flatC (Jvm.Cond.and given_1 narrow_1)
theorem fw_F : (List.range 4).all (fun j => decide (Cond.eq (.elem tmF (.int (Int32.ofNat j))) (.int (iI (firstN.getD j 0))) ∈ fw)) = true := by decide +kernel
theorem fw_S : (fw.drop 20).take 175 = (List.range 175).map (fun j => Cond.eq (.elem tmV (.int (Int32.ofNat j))) (.int (([ownB].getD 0 []).getD j 0))) := by decide +kernel
theorem fw_Sj {j : Nat} (hj : j < 175) : Cond.eq (.elem tmV (.int (Int32.ofNat j))) (.int (([ownB].getD 0 []).getD j 0)) ∈ fw := by
  have h : Cond.eq (.elem tmV (.int (Int32.ofNat j))) (.int (([ownB].getD 0 []).getD j 0)) ∈ (fw.drop 20).take 175 := by
    rw [fw_S]
    exact List.mem_map.mpr ⟨j, List.mem_range.mpr hj, rfl⟩
  exact List.mem_of_mem_drop (List.mem_of_mem_take h)
theorem all_at' {n : Nat} {f : Nat → Bool} (h : (List.range n).all f = true) {c : Nat} (hc : c < n) : f c = true := List.all_eq_true.mp h c (List.mem_range.mpr hc)
theorem geo_ex {p : Program} {s : State} {m : MethodId} {meth : Method} {c : Code} {b L : Nat} {xs : Nat → Int32} (l : Launch) (e : Env) (below : List Frame) (hL : L ≤ 3072) (C0 : lw_At p s m meth c b L xs) : ∃ G : Geo, LCx p l e s m b below meth c L xs G ∧ adOk G 0 := by
  obtain ⟨a1, a2, a3, a4, a5, hts, a7, a8, a9, hgv⟩ := C0
  have hg : ∀ w ∈ wG, w.before #[Value.ref b] s = true := fun w hw => hts w (List.mem_filter.mp hw).1
  have hs : ∀ w ∈ fw, w.before #[Value.ref b] s = true := flat_of_before _ hgv
  have hA : ∀ a : Nat, a < s.heap.size → ¬ (fun q => s.heap.size ≤ q) a := fun a ha h => absurd h (Nat.not_le.mpr ha)
  -- the classes
  have hk0 : ∀ ci : Nat, ∃ x : ClassId × (Nat → Nat), ∀ r, vwCl[ci]? = some r → u_Kn s r.1 r.2.1 r.2.2 x.1 x.2 := by
    intro ci
    cases hr : vwCl[ci]? with
    | none => exact ⟨(s.heap.size, fun k => k), fun r h => by cases h⟩
    | some r =>
      have h := in_ok ci r hr
      obtain ⟨cC, iS, hk⟩ := u_known (ws := wG) (T := r.2.1) (N := r.2.2) hg h.2.1 (hg _ h.1)
      exact ⟨(cC, iS), fun r' h' => by cases h'; exact hk⟩
  obtain ⟨D, hD⟩ := Classical.axiomOfChoice hk0
  obtain ⟨cI, hI1, hI2⟩ := arr_kn (hg _ a_int)
  obtain ⟨cJ, hJ1, hJ2⟩ := arr_kn (hg _ a_long)
  obtain ⟨cZ, hZ1, hZ2⟩ := arr_kn (hg _ a_boolean)
  -- the static row
  obtain ⟨t, ht, hT⟩ := va_Tof (tm := tmF) (ty := .int) (N := 4) (f := fun j => .int (iI (firstN.getD j 0))) (by decide) (hs _ (by decide +kernel)) (va_eqt (hs _ (by decide +kernel))) (fun j hj => va_eqt (hs _ (of_decide_eq_true (all_at' fw_F hj)))) hA
  -- the own words' text
  have hN1 : ∀ i : Nat, i < 1 → [175].getD i 0 < 2 ^ 31 := by
    intro i hi
    have h0 : i = 0 := by omega
    subst h0
    decide
  obtain ⟨adK, adV, hS, hSt⟩ := vk_Sof (args := #[Value.ref b]) (s := s) (N := 1) (tm := fun _ => tmS) (len := [175]) (byt := [ownB]) (A := fun q => s.heap.size ≤ q) hN1 (fun i hi => hs _ (by decide +kernel)) (fun i hi => hs _ (by decide +kernel)) (fun i hi => hs _ (by decide +kernel)) (fun i hi => by
      have : i = 0 := by omega
      subst this
      exact hs _ (by decide +kernel)) (fun i hi j hj => by
      have : i = 0 := by omega
      subst this
      exact hs _ (fw_Sj hj)) (fun i j hi hj hij => by omega) hA
  refine ⟨(fun ci => (D ci).1, fun ci => (D ci).2, (cI, cJ, cZ), s.heap.size, fun q => if q = 1000000 then t else if q = 1000001 then adK 0 else if q = 1000002 then adV 0 else if q = 1000005 then b else s.heap.size + q), ⟨a1, a2, a4, a3, a5, hg, a9, ⟨fun ci r hr => hD ci r hr, fun k q hk => ?_⟩, rfl, ⟨?_, hT, ?_, ?_, ?_, ?_, ?_, ?_, ?_⟩, a7, a8, rfl, hL⟩, ?_⟩
  · match k, hk with
    | 0, hk => cases hk; exact ⟨hI1, hI2⟩
    | 1, hk => cases hk; exact ⟨hJ1, hJ2⟩
    | 2, hk => cases hk; exact ⟨hZ1, hZ2⟩
    | n + 3, hk => cases hk
  · exact va_Zref (hts _ (by decide +kernel)) (hg _ i_X11.2) ht hA
  · exact va_Nw.of rfl (hts _ (by decide +kernel))
  · exact va_Nw.of rfl (hts _ (by decide +kernel))
  · exact va_Nw.of rfl (hts _ (by decide +kernel))
  · exact vk_R.of (A := #[Value.ref b]) (hts _ (by decide +kernel)) (hSt 0 (by decide))
  · refine ⟨fun i hi => ?_, fun i j hi hj _ => by omega⟩
    have : i = 0 := by omega
    subst this
    exact hS.1 0 (by decide)
  · exact va_Zof (hts _ (by decide +kernel)) (hts _ (by decide +kernel)) (va_eqt (hs _ (by decide +kernel))) hA
  · exact va_Zqof (hts _ (by decide +kernel)) (hts _ (by decide +kernel)) (hs _ (by decide +kernel)) hA
  · refine ⟨by decide, fun c h1 h2 => ?_, fun c h => absurd h (Nat.not_lt_zero _), fun c c' h => absurd h (Nat.not_lt_zero _)⟩
    show (if c = 1000000 then t else if c = 1000001 then adK 0 else if c = 1000002 then adV 0 else if c = 1000005 then b else s.heap.size + c) = s.heap.size + c
    rw [if_neg (by omega), if_neg (by omega), if_neg (by omega), if_neg (by omega)]
theorem start_of {V : Nat → Cpl} (hm : ∀ n I J, V n I J → V (n + 6) I J) (T : ∀ n, n ≤ 3072 → Steps (V n) (V (n + 6))) (hV : V 0 IC_197 JC_134) {p : Program} {e : Env} {s : State} {m : MethodId} {below : List Frame} {meth : Method} {c : Code} (l : Launch) {b L : Nat} {xs : Nat → Int32} (hL : L ≤ 3072) (C0 : lw_At p s m meth c b L xs) : W p l e room_1 s m #[Value.ref b] below meth c s.heap [] 0 0 (lw_Z below #[Value.ref b] s) (entryFrame m ([Value.ref b] : List Value).toArray 4) := by
  obtain ⟨G, C, hA⟩ := geo_ex l e below hL C0
  have hB : s.heap.size = gB G := C.2.2.2.2.2.2.2.2.1
  have hb : gA G 1000005 = b := C.2.2.2.2.2.2.2.2.2.2.2.2.1
  have h := law_go hm T hL C hV
  rw [lg_entry_eq]
  have hl := lv_entry [Value.ref b] (n := 4) (Nat.le_of_ble_eq_true rfl)
  have hH : Hd G MC_0 s.heap := ⟨fun k q hk => (by cases hk), (by rw [hB]; rfl), hA⟩
  exact h s.heap [] 0 0 _ hH va_S.rf rfl rfl ⟨by decide +kernel, by decide +kernel⟩ (by rw [← hb] at hl ⊢; exact hl)
end STARTS

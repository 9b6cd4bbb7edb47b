/-! ===== numbers: the machine's ints and longs as whole numbers ===== -/
abbrev inR (z : Int) : Prop := -2147483648 ≤ z ∧ z < 2147483648
abbrev inL (z : Int) : Prop := -9223372036854775808 ≤ z ∧ z < 9223372036854775808
def iI (z : Int) : Int32 := Int32.ofInt z
def iL (z : Int) : Int64 := Int64.ofInt z
theorem iI_of (x : Int32) : iI x.toInt = x := Int32.ofInt_toInt x
theorem iL_of (x : Int64) : iL x.toInt = x := Int64.ofInt_toInt x
theorem iI_to {z : Int} (h : inR z) : (iI z).toInt = z := Int32.toInt_ofInt_of_le h.1 h.2
theorem iL_to {z : Int} (h : inL z) : (iL z).toInt = z := Int64.toInt_ofInt_of_le h.1 h.2
theorem iI_add (a b : Int) : iI a + iI b = iI (a + b) := (Int32.ofInt_add a b).symm
theorem iI_sub (a b : Int) : iI a - iI b = iI (a - b) := (Int32.ofInt_sub a b).symm
theorem iI_mul (a b : Int) : iI a * iI b = iI (a * b) := (Int32.ofInt_mul a b).symm
theorem iI_neg (a : Int) : - iI a = iI (-a) := (Int32.ofInt_neg a).symm
theorem iL_add (a b : Int) : iL a + iL b = iL (a + b) := (Int64.ofInt_add a b).symm
theorem iL_sub (a b : Int) : iL a - iL b = iL (a - b) := (Int64.ofInt_sub a b).symm
theorem iL_mul (a b : Int) : iL a * iL b = iL (a * b) := (Int64.ofInt_mul a b).symm
theorem iL_neg (a : Int) : - iL a = iL (-a) := (Int64.ofInt_neg a).symm
theorem iI_lt {a b : Int} (ha : inR a) (hb : inR b) : iI a < iI b ↔ a < b := by rw [Int32.lt_iff_toInt_lt, iI_to ha, iI_to hb]
theorem iI_le {a b : Int} (ha : inR a) (hb : inR b) : iI a ≤ iI b ↔ a ≤ b := by rw [Int32.le_iff_toInt_le, iI_to ha, iI_to hb]
theorem iI_eq {a b : Int} (ha : inR a) (hb : inR b) : iI a = iI b ↔ a = b := by rw [← Int32.toInt_inj, iI_to ha, iI_to hb]
theorem iL_lt {a b : Int} (ha : inL a) (hb : inL b) : iL a < iL b ↔ a < b := by rw [Int64.lt_iff_toInt_lt, iL_to ha, iL_to hb]
theorem iL_eq {a b : Int} (ha : inL a) (hb : inL b) : iL a = iL b ↔ a = b := by rw [← Int64.toInt_inj, iL_to ha, iL_to hb]
theorem iI_0 : iI 0 = 0 := by decide
theorem iI_nat {z : Int} (h0 : 0 ≤ z) (h : z < 2147483648) : (iI z).toNatClampNeg = z.toNat := Int32.toNatClampNeg_ofInt_of_le (by omega) (by omega)
theorem iI_in {z : Int} {n : Nat} (h0 : 0 ≤ z) (h : z < n) (hn : n < 2147483648) : vp_in (iI z) n := by
  rw [vp_in_iff, iI_to ⟨by omega, by omega⟩]
  exact ⟨h0, h⟩
theorem iI_l {z : Int} (h : inR z) : (iI z).toInt64 = iL z := by
  rw [← Int64.toInt_inj, Int32.toInt_toInt64, iI_to h, iL_to ⟨by omega, by omega⟩]
theorem iL_i (z : Int) : (iL z).toInt32 = iI z := Int64.toInt32_ofInt
theorem i32_in (x : Int32) : inR x.toInt := ⟨Int32.le_toInt x, Int32.toInt_lt x⟩
theorem i64_in (x : Int64) : inL x.toInt := ⟨Int64.le_toInt x, Int64.toInt_lt x⟩
/-! ===== the abstract machine: cells by number; what each holds ===== -/
abbrev AV : Type := Int ⊕ Int ⊕ Option Nat
abbrev vI (z : Int) : AV := Sum.inl z
abbrev vL (z : Int) : AV := Sum.inr (Sum.inl z)
abbrev vR (r : Option Nat) : AV := Sum.inr (Sum.inr r)
abbrev LT : Type := Nat × Nat
abbrev Mem : Type := List LT × (Nat → Nat → Int32) × (Nat → Nat → Int64) × (Nat → Nat → Option Nat)
def isL : AV → Bool
  | .inr (.inl _) => true
  | _ => false
def cv (ad : Nat → Nat) : AV → Value
  | .inl z => .int (iI z)
  | .inr (.inl z) => .long (iL z)
  | .inr (.inr r) => va_rf (r.map ad)
theorem cv_cat (ad : Nat → Nat) (v : AV) : (cv ad v).category = if isL v = true then 2 else 1 := by
  match v with
  | .inl z => rfl
  | .inr (.inl z) => rfl
  | .inr (.inr none) => rfl
  | .inr (.inr (some a)) => rfl
def up2 {α : Type} (f : Nat → Nat → α) (c k : Nat) (v : α) : Nat → Nat → α := fun c' => if c' = c then (fun k' => if k' = k then v else f c k') else f c'
def ze2 {α : Type} (f : Nat → Nat → α) (c : Nat) (v : α) : Nat → Nat → α := fun c' => if c' = c then (fun _ => v) else f c'
def seI (M : Mem) (c k : Nat) (x : Int32) : Mem := (M.1, up2 M.2.1 c k x, M.2.2.1, M.2.2.2)
def seL (M : Mem) (c k : Nat) (x : Int64) : Mem := (M.1, M.2.1, up2 M.2.2.1 c k x, M.2.2.2)
def seR (M : Mem) (c k : Nat) (x : Option Nat) : Mem := (M.1, M.2.1, M.2.2.1, up2 M.2.2.2 c k x)
def newC (M : Mem) (t : LT) : Mem := (M.1 ++ [t], ze2 M.2.1 M.1.length 0, ze2 M.2.2.1 M.1.length 0, ze2 M.2.2.2 M.1.length none)
def cpI (M : Mem) (src sp dst dp n : Nat) : Mem := (M.1, (fun c' => if c' = dst then va_cpy (M.2.1 src) (M.2.1 dst) sp dp n else M.2.1 c'), M.2.2.1, M.2.2.2)
def slo (l : List LT) : Nat := (l.map (fun q => q.2)).sum
/-- where the cells lie, and what the classes are -/
abbrev Geo : Type := (Nat → ClassId) × (Nat → Nat → Nat) × (ClassId × ClassId × ClassId) × Nat × (Nat → Nat)
abbrev gD (G : Geo) : va_G := (G.1, G.2.1)
abbrev gCI (G : Geo) : ClassId := G.2.2.1.1
abbrev gCJ (G : Geo) : ClassId := G.2.2.1.2.1
abbrev gCZ (G : Geo) : ClassId := G.2.2.1.2.2
abbrev gB (G : Geo) : Nat := G.2.2.2.1
abbrev gA (G : Geo) : Nat → Nat := G.2.2.2.2
abbrev gF (G : Geo) : Nat → Prop := fun q => gB G ≤ q
abbrev gT (G : Geo) : List (ClassId × FieldType) := [(gCI G, .int), (gCJ G, .long), (gCZ G, .boolean)]
def fv (ad : Nat → Nat) (M : Mem) (c k : Nat) : FieldType → Value
  | .int => .int (M.2.1 c k)
  | .boolean => .int (M.2.1 c k)
  | .long => .long (M.2.2.1 c k)
  | _ => va_rf ((M.2.2.2 c k).map ad)
def fsC (ad : Nat → Nat) (M : Mem) (c ci n : Nat) : List Value := (List.range n).map (fun k => fv ad M c k (Ty ci k))
def encC (G : Geo) (M : Mem) (c : Nat) : LT → va_E
  | (0, n) => .inl (gCI G, n, .inl (M.2.1 c))
  | (1, n) => .inl (gCJ G, n, .inr (.inl (M.2.2.1 c)))
  | (2, n) => .inl (gCZ G, n, .inl (M.2.1 c))
  | (ci + 3, n) => .inr (ci, fsC (gA G) M c ci n)
def wsC (G : Geo) (M : Mem) : va_W := (List.range M.1.length).map (fun c => (gA G c, encC G M c (M.1.getD c (0, 0))))
theorem ws_len (G : Geo) (M : Mem) : (wsC G M).length = M.1.length := by simp [wsC]
theorem ws_get {G : Geo} {M : Mem} {c : Nat} {t : LT} (h : M.1[c]? = some t) : (wsC G M)[c]? = some (gA G c, encC G M c t) := by
  have hl : c < M.1.length := (List.getElem?_eq_some_iff.mp h).1
  simp [wsC, hl, List.getD_eq_getElem?_getD, h]
  exact (List.getElem?_eq_some_iff.mp h).2 ▸ rfl
theorem ws_set {G : Geo} {M M' : Mem} {c : Nat} {t : LT} (h : M.1[c]? = some t) (e1 : M'.1 = M.1) (e2 : ∀ c', c' ≠ c → ∀ t, encC G M' c' t = encC G M c' t) : (wsC G M).set c (gA G c, encC G M' c t) = wsC G M' := by
  have hl : c < M.1.length := (List.getElem?_eq_some_iff.mp h).1
  apply List.ext_getElem?
  intro i
  by_cases hi : i = c
  · subst hi
    rw [List.getElem?_set_self (by rw [ws_len]; exact hl), ws_get (M := M') (by rw [e1]; exact h)]
  · rw [List.getElem?_set_ne (fun q => hi q.symm)]
    by_cases hb : i < M.1.length
    · have h1 : M.1[i]? = some M.1[i] := List.getElem?_eq_getElem hb
      rw [ws_get h1, ws_get (M := M') (by rw [e1]; exact h1), e2 i hi]
    · rw [List.getElem?_eq_none (by rw [ws_len]; omega), List.getElem?_eq_none (by rw [ws_len, e1]; omega)]
theorem ws_new {G : Geo} {M : Mem} (t : LT) : wsC G (newC M t) = wsC G M ++ [(gA G M.1.length, encC G (newC M t) M.1.length t)] := by
  apply List.ext_getElem?
  intro i
  by_cases hb : i < M.1.length
  · have h1 : M.1[i]? = some M.1[i] := List.getElem?_eq_getElem hb
    have h2 : (newC M t).1[i]? = some M.1[i] := by
      show (M.1 ++ [t])[i]? = _
      rw [List.getElem?_append_left hb, h1]
    rw [List.getElem?_append_left (by rw [ws_len]; exact hb), ws_get h1, ws_get h2]
    have hne : i ≠ M.1.length := by omega
    have e1 : (newC M t).2.1 i = M.2.1 i := by simp [newC, ze2, hne]
    have e2 : (newC M t).2.2.1 i = M.2.2.1 i := by simp [newC, ze2, hne]
    have e3 : (newC M t).2.2.2 i = M.2.2.2 i := by simp [newC, ze2, hne]
    congr 2
    match M.1[i] with
    | (0, n) => simp [encC, e1]
    | (1, n) => simp [encC, e2]
    | (2, n) => simp [encC, e1]
    | (ci + 3, n) =>
      simp only [encC, fsC]
      congr 2
      apply List.map_congr_left
      intro k _
      cases Ty ci k <;> simp [fv, e1, e2, e3]
  · by_cases hi : i = M.1.length
    · subst hi
      have h2 : (newC M t).1[M.1.length]? = some t := by
        show (M.1 ++ [t])[M.1.length]? = _
        rw [List.getElem?_append_right (Nat.le_refl _), Nat.sub_self]
        rfl
      rw [ws_get h2, List.getElem?_append_right (by rw [ws_len]; exact Nat.le_refl _), ws_len, Nat.sub_self]
      rfl
    · rw [List.getElem?_eq_none (by rw [ws_len]; show (M.1 ++ [t]).length ≤ i; simp; omega), List.getElem?_eq_none (by simp [ws_len]; omega)]
def adOk (G : Geo) (n : Nat) : Prop := n ≤ 1000000 ∧ (∀ c, n ≤ c → c < 1000000 → gA G c = gB G + c) ∧ (∀ c, c < n → gB G ≤ gA G c ∧ gA G c < gB G + n) ∧ ∀ c c', c < n → c' < n → gA G c = gA G c' → c = c'
theorem adOk.D {G : Geo} {M : Mem} (h : adOk G M.1.length) : va_D (gF G) (wsC G M) := by
  have key : ∀ (k : Nat) (q : Nat × va_E), (wsC G M)[k]? = some q → k < M.1.length ∧ q.1 = gA G k := by
    intro k q hk
    have hl : k < M.1.length := by rw [← ws_len G M]; exact (List.getElem?_eq_some_iff.mp hk).1
    rw [ws_get (List.getElem?_eq_getElem hl)] at hk
    cases hk
    exact ⟨hl, rfl⟩
  refine ⟨fun i j p q hi hj e => ?_, fun k q hk => ?_⟩
  · obtain ⟨a1, a2⟩ := key i p hi
    obtain ⟨b1, b2⟩ := key j q hj
    exact h.2.2.2 i j a1 b1 (by rw [← a2, ← b2, e])
  · obtain ⟨a1, a2⟩ := key k q hk
    rw [a2]
    exact (h.2.2.1 k a1).1
theorem adOk.succ {G : Geo} {n : Nat} (h : adOk G n) (hn : n + 1 ≤ 1000000) : adOk G (n + 1) := by
  have hn' : gA G n = gB G + n := h.2.1 n (Nat.le_refl _) (by omega)
  refine ⟨hn, fun c h1 h2 => h.2.1 c (by omega) h2, fun c hc => ?_, fun c c' hc hc' e => ?_⟩
  · rcases Nat.lt_or_ge c n with q | q
    · have := h.2.2.1 c q
      omega
    · have : c = n := by omega
      subst this
      omega
  · rcases Nat.lt_or_ge c n with q | q <;> rcases Nat.lt_or_ge c' n with q' | q'
    · exact h.2.2.2 c c' q q' e
    · have := h.2.2.1 c q
      have : c' = n := by omega
      subst this
      omega
    · have := h.2.2.1 c' q'
      have : c = n := by omega
      subst this
      omega
    · omega
/-! what nobody writes: the static row, the text of the own words, what they stand on -/
def ownT : String := "book   page   of     lines  big    needs  reader pace   eyes   table  draft  inch   burns  takes  tells  print  knows  sittingnight  or     and    not    all    min    max    "
def ownB : List Int32 := [98, 111, 111, 107, 32, 32, 32, 112, 97, 103, 101, 32, 32, 32, 111, 102, 32, 32, 32, 32, 32, 108, 105, 110, 101, 115, 32, 32, 98, 105, 103, 32, 32, 32, 32, 110, 101, 101, 100, 115, 32, 32, 114, 101, 97, 100, 101, 114, 32, 112, 97, 99, 101, 32, 32, 32, 101, 121, 101, 115, 32, 32, 32, 116, 97, 98, 108, 101, 32, 32, 100, 114, 97, 102, 116, 32, 32, 105, 110, 99, 104, 32, 32, 32, 98, 117, 114, 110, 115, 32, 32, 116, 97, 107, 101, 115, 32, 32, 116, 101, 108, 108, 115, 32, 32, 112, 114, 105, 110, 116, 32, 32, 107, 110, 111, 119, 115, 32, 32, 115, 105, 116, 116, 105, 110, 103, 110, 105, 103, 104, 116, 32, 32, 111, 114, 32, 32, 32, 32, 32, 97, 110, 100, 32, 32, 32, 32, 110, 111, 116, 32, 32, 32, 32, 97, 108, 108, 32, 32, 32, 32, 109, 105, 110, 32, 32, 32, 32, 109, 97, 120, 32, 32, 32, 32]
def firstN : List Int := [0, 5, 19, 25]
def Stat (G : Geo) (U : State) (H : Heap) : Prop :=
  va_Z "CandleInch" "FIRST_NAME" "[I" (.ref (gA G 1000000)) (gF G) U H ∧ va_T .int (gA G 1000000) 4 (fun j => .int (iI (firstN.getD j 0))) (gF G) U H ∧
  va_Nw (.fieldLinkNest RX7 70 "CandleInch" "FIRST_NAME" "[I" "CandleInch") U ∧ va_Nw (.methodLinkNest RX11 9 yX10_init "CandleInch") U ∧ va_Nw (.methodLinkNest RX11 89 yX4_init "CandleInch") U ∧
  vk_R RX10 61 ownT (gA G 1000001) U ∧ vk_S 1 [175] [ownB] (fun _ => gA G 1000001) (fun _ => gA G 1000002) (gF G) U H ∧
  va_Z "java/lang/String" "COMPACT_STRINGS" "Z" (.int 1) (gF G) U H ∧ va_Zq "jdk/internal/util/Preconditions" "SIOOBE_FORMATTER" "Ljava/util/function/BiFunction;" (gF G) U H
theorem Stat.to {G : Geo} {s U : State} {H : Heap} {locs : List Loc} (h : Stat G s s.heap) (hS : va_S (gF G) s.heap H locs) (hW : s.WarmedH U.vm) : Stat G U H := by
  obtain ⟨h1, h2, h3, h4, h5, h6, h7, h8, h9⟩ := h
  have k := hS.2.1
  have a := hW.alike
  exact ⟨(h1.moved a).kept k, (h2.moved a).kept k, va_Nw.warmF hW h3, va_Nw.warmM hW h4, va_Nw.warmM hW h5, vk_R.warm hW h6, (h7.moved a).kept k, (h8.moved a).kept k, (h9.moved a).kept k⟩
theorem Stat.call {G : Geo} {U : State} {H : Heap} (h : Stat G U H) (g : JFrame) (mk : MethodId) (a : Array Value) : Stat G (U.calling g mk a) H := by
  obtain ⟨h1, h2, h3, h4, h5, h6, h7, h8, h9⟩ := h
  have al : U.vm.Alike (U.calling g mk a).vm := Vm.Alike.refl U.vm
  exact ⟨h1.moved al, h2.moved al, va_Nw.same rfl (show U.vm = (U.calling g mk a).vm from rfl) h3, va_Nw.same rfl (show U.vm = (U.calling g mk a).vm from rfl) h4, va_Nw.same rfl (show U.vm = (U.calling g mk a).vm from rfl) h5, vk_R.same (show (U.calling g mk a).vm = U.vm from rfl) h6, h7.moved al, h8.moved al, h9.moved al⟩
/-- a heap that holds a memory; a state that does -/
def Hd (G : Geo) (M : Mem) (H : Heap) : Prop := va_P (gD G) vwCl (wsC G M) H ∧ H.size = gB G + M.1.length ∧ adOk G M.1.length
def Hold (G : Geo) (E : List LT) (M : Mem) (U : State) : Prop := Hd G M U.heap ∧ va_K (gD G) vwCl (gT G) U ∧ Stat G U U.heap ∧ M.1.length ≤ E.length ∧ slo M.1 ≤ slo E ∧ E.length ≤ 1000000
/-- a method's words -/
def wds (md : MD) : List Cond := .code md.1 md.2.1 md.2.2.1 md.2.2.2 :: wG
theorem wds_in {Ts : List Cond} {md : MD} (hT : ∀ w ∈ wG, w ∈ Ts) (hc : Cond.code md.1 md.2.1 md.2.2.1 md.2.2.2 ∈ wG) : GoodIn Ts (wds md) := by
  intro w hw
  have h : w ∈ wG := by
    rcases List.mem_cons.mp hw with rfl | h
    · exact hc
    · exact h
  exact ⟨hT w h, good_of_word (wG_good h)⟩
/-- a method's end: what it answers, and the memory behind it -/
def Qf (G : Geo) (E : List LT) (Q : Option AV → Mem → Prop) : Array Value → State → Outcome → State → Prop := fun _ st o t =>
  ∃ r M', o = .returned (r.map (cv (gA G))) ∧ Q r M' ∧ M'.1 = E ∧ Hold G E M' t ∧ va_F (gF G) st t
/-- a method's contract: begun with these values and this memory it ends with Q, the cells then being E -/
def WPm (k : Nat) (E : List LT) (md : MD) (as : List AV) (M : Mem) (Q : Option AV → Mem → Prop) : Prop :=
  ∀ (l : Launch) (G : Geo), Met l md.1 (wds md) { frames := k, cells := E.length - M.1.length, slots := slo E - slo M.1, locals := 64 * k } (va_Pc (as.map (cv (gA G))) (Hold G E M)) (Qf G E Q) (E.length - M.1.length) (slo E - slo M.1) (gF G)
/-- the surroundings of a walk -/
def Cx (p : Program) (l : Launch) (e : Env) (R : Room) (s : State) (m : MethodId) (args : Array Value) (below : List Frame) (meth : Method) (c : Code) (G : Geo) (n0 z0 k : Nat) (E : List LT) (md : MD) : Prop :=
  p.tables.exec = Jvm.exec ∧ c.code = md.2.1 ∧ c.maxLocals = md.2.2.1 ∧ meth.sig.returnType = md.2.2.2 ∧ s.vm.findClass md.1.cls = some m.cls ∧ (∀ w ∈ wds md, w.before args s = true) ∧ meth.locks = false ∧ (meth.name = md.1.name ∧ md.2.2.1 ≤ 44) ∧
  va_K (gD G) vwCl (gT G) s ∧ (k ≤ R.frames ∧ 64 * k ≤ R.locals) ∧ (E.length ≤ R.cells + n0 ∧ slo E ≤ R.slots + z0 ∧ E.length ≤ 1000000) ∧ s.heap.size = gB G + n0 ∧ Stat G s s.heap
/-- the walk at a state -/
def Wm (p : Program) (l : Launch) (e : Env) (R : Room) (s : State) (m : MethodId) (args : Array Value) (below : List Frame) (meth : Method) (c : Code) (G : Geo) (n0 z0 : Nat) (E : List LT) (md : MD) (Z : State → Prop) (pc : Nat) (L : List (Nat × AV)) (S : List AV) (M : Mem) : Prop :=
  ∀ (H : Heap) (locs : List Loc) (cells slots : Nat) (ls : Array Slot), Hd G M H → va_S (gF G) s.heap H locs → cells + n0 = M.1.length → slots + z0 = slo M.1 → (M.1.length ≤ E.length ∧ slo M.1 ≤ slo E) → lv_has ls md.2.2.1 (L.map (fun q => (q.1, cv (gA G) q.2))) →
    W p l e R s m args below meth c H locs cells slots Z (F0 m pc ls (S.map (cv (gA G))))
/-- from this state the method ends with Q -/
def WP (k : Nat) (E : List LT) (md : MD) (pc : Nat) (L : List (Nat × AV)) (S : List AV) (M : Mem) (Q : Option AV → Mem → Prop) : Prop :=
  ∀ p l e R s m args below meth c G n0 z0, Cx p l e R s m args below meth c G n0 z0 k E md → Wm p l e R s m args below meth c G n0 z0 E md (MQ below (Qf G E Q) args s (E.length - n0) (slo E - z0) (gF G)) pc L S M

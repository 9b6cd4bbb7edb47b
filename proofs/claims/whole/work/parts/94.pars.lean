section PARS
/-! ===== what both readers of a rule come to: codes and a place, or a fault ===== -/
abbrev Res : Type := (Int × Int) ⊕ (List Int × Nat)
/-- a sign, an own word -/
def sgn (T : Nat → Int) (n p : Nat) (x : Int) : Prop := kR T n p = 3 ∧ vl T n p = x
def wd (T : Nat → Int) (n p : Nat) (w : Int) : Prop := kR T n p = 1 ∧ ow T n p = w
theorem bd_3 {T : Nat → Int} {n p : Nat} (h : kR T n p = 3 ∨ kR T n p = 0) : bd T n p = -1 := by
  have ng : ¬ glu T n p := fun q => by rcases q.2.1 with q | q <;> omega
  rw [bd_n ng, if_neg (fun q => by omega), if_neg (fun q => by omega)]
theorem pl_g {T : Nat → Int} {n p : Nat} (h : bd T n p = -1) : pl T n p = tS T n p := by unfold pl; rw [if_pos h]
theorem pl_b {T : Nat → Int} {n p : Nat} (h : bd T n p ≠ -1) : pl T n p = bd T n p := by unfold pl; rw [if_neg h]
theorem vl_w {T : Nat → Int} {n p : Nat} (h : kR T n p = 1) : vl T n p = ow T n p := by
  unfold vl
  rw [if_neg (by omega), if_pos h]
theorem vl_d {T : Nat → Int} {n p : Nat} (hp : p ≤ n) (h : kR T n p = 2) : 0 ≤ vl T n p ∧ vl T n p < 10000 := by
  have hr := tE_rng (T := T) hp
  unfold vl
  rw [if_neg (by omega), if_neg (by omega), if_pos h]
  have hlt : tS T n p < n := by
    have := (not_congr (kR_0 (T := T) (n := n) (p := p))).mp (by omega)
    omega
  have erun : tE T n p = runS zD T n (tS T n p) := by
    have ek' := h
    unfold kR at ek'
    unfold tE
    rcases rK_cases T n (tS T n p) with ⟨a, e, e2⟩ | ⟨a, b, e, e2⟩ | ⟨a, -, b, e, e2⟩ | ⟨a, b, c, e, e2⟩
    · omega
    · omega
    · exact e2
    · omega
  have hb := nvF_bd (T := T) (s := tS T n p) (min 4 (tE T n p - tS T n p)) (by omega) (fun j hj => runS_all (g := zD) (p := tS T n p) (n := n) (by omega) (by rw [← erun]; omega))
  have h4 : (10 : Int) ^ (min 4 (tE T n p - tS T n p)) ≤ 10000 := by
    have hj3 : min 4 (tE T n p - tS T n p) = 0 ∨ min 4 (tE T n p - tS T n p) = 1 ∨ min 4 (tE T n p - tS T n p) = 2 ∨ min 4 (tE T n p - tS T n p) = 3 ∨ min 4 (tE T n p - tS T n p) = 4 := by omega
    rcases hj3 with e | e | e | e | e <;> rw [e] <;> decide
  omega
theorem vl_s {T : Nat → Int} {n p : Nat} (hX : TX T n) (hp : p ≤ n) (h : kR T n p = 3) : 0 ≤ vl T n p ∧ vl T n p ≤ 255 := by
  unfold vl
  rw [if_neg (by omega), if_neg (by omega), if_neg (by omega)]
  have := (not_congr (kR_0 (T := T) (n := n) (p := p))).mp (by omega)
  exact hX.2 _ (by omega)
/-- a token that is there is passed -/
theorem tE_gt {T : Nat → Int} {n p : Nat} (hp : p ≤ n) (h : kR T n p ≠ 0) : p < tE T n p ∧ tE T n p ≤ n ∧ tS T n p < n := by
  have hr := tE_rng (T := T) hp
  have hs := tS_rng (T := T) hp
  have := (not_congr (kR_0 (T := T) (n := n) (p := p))).mp h
  omega
/-! what the two tapes' readers tell of a token -/
theorem CT.s {I : Nat → Nat → Int32} {T : Nat → Int} {n p : Nat} (h : CT I T n p) (x : Int) : (gi I 1 2 = 4 ∧ gi I 1 5 = x) ↔ sgn T n p x := by
  rw [h.2.1, h.2.2.2.2.1]
  unfold kC sgn
  have hk := kR_le T n p
  have hb := bd_3 (T := T) (n := n) (p := p)
  by_cases b : bd T n p = -1
  · rw [if_pos b]
    refine and_congr_left (fun _ => ?_)
    by_cases c0 : kR T n p = 0
    · rw [if_pos c0]; omega
    · rw [if_neg c0]
      by_cases c1 : kR T n p = 1
      · rw [if_pos c1]; split <;> omega
      · rw [if_neg c1]; split <;> omega
  · rw [if_neg b]
    exact ⟨fun q => absurd q.1 (by decide), fun q => absurd (hb (Or.inl q.1)) b⟩
theorem CT.k {I : Nat → Nat → Int32} {T : Nat → Int} {n p : Nat} (h : CT I T n p) : (gi I 1 2 = 4 ↔ kR T n p = 3) ∧ (gi I 1 2 = 3 ↔ bd T n p = -1 ∧ kR T n p = 2) ∧ (gi I 1 2 = 2 ↔ bd T n p = -1 ∧ kR T n p = 1 ∧ ow T n p ≠ -1) ∧ (gi I 1 2 = 1 ↔ bd T n p = -1 ∧ kR T n p = 1 ∧ ow T n p = -1) ∧ (gi I 1 2 = 0 ↔ kR T n p = 0) ∧ (gi I 1 2 = 5 ↔ bd T n p ≠ -1) := by
  rw [h.2.1]
  unfold kC
  have hk := kR_le T n p
  have hb := bd_3 (T := T) (n := n) (p := p)
  by_cases b : bd T n p = -1
  · rw [if_pos b]
    by_cases c0 : kR T n p = 0
    · rw [if_pos c0]; omega
    · rw [if_neg c0]
      by_cases c1 : kR T n p = 1
      · rw [if_pos c1]; split <;> omega
      · rw [if_neg c1]; split <;> omega
  · rw [if_neg b]
    omega
theorem CT.w {I : Nat → Nat → Int32} {T : Nat → Int} {n p : Nat} (h : CT I T n p) (w : Int) (hw : 0 ≤ w) : (gi I 1 2 = 2 ∧ gi I 1 5 = w) ↔ bd T n p = -1 ∧ wd T n p w := by
  rw [h.k.2.2.1, h.2.2.2.2.1]
  unfold wd
  constructor
  · intro q
    rw [vl_w q.1.2.1] at q
    exact ⟨q.1.1, q.1.2.1, q.2⟩
  · intro q
    rw [vl_w q.2.1]
    exact ⟨⟨q.1, q.2.1, by omega⟩, q.2.2⟩
theorem RT.s {I : Nat → Nat → Int32} {J : Nat → Nat → Int64} {T : Nat → Int} {n p : Nat} (h : RT I J T n p) (x : Int) : (gi I 74 3 = 3 ∧ gi I 74 6 = x) ↔ sgn T n p x := by
  unfold sgn
  rw [h.2.1]
  constructor
  · intro q
    have e : kR T n p = 3 := by omega
    exact ⟨e, by rw [← h.2.2.2.2.2.1 (Or.inr e)]; exact q.2⟩
  · intro q
    exact ⟨by omega, by rw [h.2.2.2.2.2.1 (Or.inr q.1)]; exact q.2⟩
theorem RT.w {I : Nat → Nat → Int32} {J : Nat → Nat → Int64} {T : Nat → Int} {n p : Nat} (h : RT I J T n p) (hp : p ≤ n) {w : Nat} (hw : w < 25) {c : Int} (hc : c = ((ownK.getD w 0 : Nat) : Int)) : (gi I 74 3 = 1 ∧ gl J 74 7 = c) ↔ wd T n p w := by
  unfold wd
  rw [h.2.1]
  have key : kR T n p = 1 → (gl J 74 7 = c ↔ ow T n p = (w : Int)) := by
    intro ek
    have hr := tE_rng (T := T) hp
    have hall : ∀ i, tS T n p ≤ i → i < tE T n p → 97 ≤ T i ∧ T i ≤ 122 := fun i a b => by
      have ek' := ek
      unfold kR at ek'
      unfold tE at b
      rcases rK_cases T n (tS T n p) with ⟨a', e, e2⟩ | ⟨a', b', e, e2⟩ | ⟨a', -, b', e, e2⟩ | ⟨a', b', c', e, e2⟩
      · omega
      · exact zL_t.mp (runS_all (p := tS T n p) (n := n) a (by rw [← e2]; exact b))
      · omega
      · omega
    have hmem : ∀ j, j ≤ tE T n p - tS T n p → ∀ c ∈ ltR T (tS T n p) j, 97 ≤ c ∧ c ≤ 122 := fun j hj c hc => by
      obtain ⟨i, hi, e⟩ := ltR_mem hc
      have := hall (tS T n p + i) (by omega) (by omega)
      omega
    have ho := ownK_at hw
    rw [h.2.2.2.2.2.2 ek, hc, ho.1]
    have e1 : (((pkN (ltR T (tS T n p) (min 8 (tE T n p - tS T n p))) : Nat) : Int) = ((pkN (ownR w) : Nat) : Int)) ↔ pkN (ltR T (tS T n p) (min 8 (tE T n p - tS T n p))) = pkN (ownR w) := by omega
    rw [e1, owI_pk (hmem _ (by omega)) hw]
    unfold ow
    rw [if_pos ek]
    by_cases c8 : tE T n p - tS T n p ≤ 8
    · rw [show min 8 (tE T n p - tS T n p) = tE T n p - tS T n p by omega]
      rfl
    · have l1 : ¬ owI (ltR T (tS T n p) (min 8 (tE T n p - tS T n p))) = (w : Int) := fun q => by
        have a1 := congrArg List.length ((owI_iff hw).mp q)
        have a2 := own_l hw
        unfold ownR at a1
        rw [ltR_len, ltR_len] at a1
        omega
      have l2 : ¬ owI (lR T n p) = (w : Int) := fun q => by
        have a1 := congrArg List.length ((owI_iff hw).mp q)
        have a2 := own_l hw
        unfold ownR lR at a1
        rw [ltR_len, ltR_len] at a1
        omega
      exact ⟨fun q => absurd q l1, fun q => absurd q l2⟩
  constructor
  · intro q
    have ek : kR T n p = 1 := by omega
    exact ⟨ek, (key ek).mp q.2⟩
  · intro q
    exact ⟨by omega, (key q.1).mpr q.2⟩
/-! the operators -/
def opn (x : Int) : Int := if x = 43 then 10100 else if x = 45 then 10101 else if x = 42 then 10102 else if x = 47 then 10103 else if x = 37 then 10104 else if x = 60 then 10107 else if x = 62 then 10108 else if x = 61 then 10109 else -1
def opT (T : Nat → Int) (n p : Nat) : Int := if kR T n p = 3 then opn (vl T n p) else -1
def pOp (T : Nat → Int) (n p : Nat) : Prop := 10102 ≤ opT T n p ∧ opT T n p ≤ 10104
def sOp (T : Nat → Int) (n p : Nat) : Prop := 10100 ≤ opT T n p ∧ opT T n p ≤ 10101
def tOp (T : Nat → Int) (n p : Nat) : Prop := 10107 ≤ opT T n p ∧ opT T n p ≤ 10109
theorem opn_in (x : Int) : opn x = -1 ∨ (10100 ≤ opn x ∧ opn x ≤ 10104) ∨ (10107 ≤ opn x ∧ opn x ≤ 10109) := by
  unfold opn
  repeat' split
  all_goals omega
theorem opT_in (T : Nat → Int) (n p : Nat) : opT T n p = -1 ∨ (kR T n p = 3 ∧ ((10100 ≤ opT T n p ∧ opT T n p ≤ 10104) ∨ (10107 ≤ opT T n p ∧ opT T n p ≤ 10109))) := by
  unfold opT
  by_cases c : kR T n p = 3
  · rw [if_pos c]
    rcases opn_in (vl T n p) with h | h
    · exact Or.inl h
    · exact Or.inr ⟨c, h⟩
  · rw [if_neg c]
    exact Or.inl rfl
theorem opT_3 {T : Nat → Int} {n p : Nat} (h : opT T n p ≠ -1) : kR T n p = 3 := by
  rcases opT_in T n p with q | q
  · exact absurd q h
  · exact q.1
theorem opT_sgn {T : Nat → Int} {n p : Nat} : (sgn T n p 43 ↔ opT T n p = 10100) ∧ (sgn T n p 45 ↔ opT T n p = 10101) ∧ (sgn T n p 42 ↔ opT T n p = 10102) ∧ (sgn T n p 47 ↔ opT T n p = 10103) ∧ (sgn T n p 37 ↔ opT T n p = 10104) ∧ (sgn T n p 60 ↔ opT T n p = 10107) ∧ (sgn T n p 62 ↔ opT T n p = 10108) ∧ (sgn T n p 61 ↔ opT T n p = 10109) := by
  unfold sgn opT
  by_cases c : kR T n p = 3
  · rw [if_pos c]
    unfold opn
    refine ⟨?_, ?_, ?_, ?_, ?_, ?_, ?_, ?_⟩
    all_goals
      repeat' split
      all_goals omega
  · rw [if_neg c]
    refine ⟨?_, ?_, ?_, ?_, ?_, ?_, ?_, ?_⟩ <;> exact ⟨fun q => absurd q.1 c, fun q => absurd q (by decide)⟩
/-! codes in a row -/
theorem cds_app {f : Nat → Int} : ∀ {a b : List Int} {m : Nat}, cds f m (a ++ b) ↔ cds f m a ∧ cds f (m + a.length) b
  | [], b, m => ⟨fun h => ⟨trivial, h⟩, fun h => h.2⟩
  | c :: a, b, m => by
    have ih := cds_app (f := f) (a := a) (b := b) (m := m + 1)
    rw [List.length_cons, show m + (a.length + 1) = m + 1 + a.length by omega]
    show (f m = c ∧ cds f (m + 1) (a ++ b)) ↔ (f m = c ∧ cds f (m + 1) a) ∧ _
    rw [ih, and_assoc]
theorem cds_congr {f g : Nat → Int} : ∀ {c : List Int} {m : Nat}, (∀ i, m ≤ i → i < m + c.length → f i = g i) → cds f m c → cds g m c
  | [], _, _, _ => trivial
  | c :: cs, m, h, hc => by
    refine ⟨by rw [← h m (Nat.le_refl _) (by rw [List.length_cons]; omega)]; exact hc.1, cds_congr (fun i a b => h i (by omega) (by rw [List.length_cons]; omega)) hc.2⟩
theorem cds_rng {f : Nat → Int} : ∀ {c : List Int} {m : Nat}, cds f m c → (List.range' m c.length).map f = c
  | [], _, _ => rfl
  | c :: cs, m, h => by
    rw [List.length_cons, List.range'_succ, List.map_cons, h.1, cds_rng h.2]
/-! codes that leave one value of a kind -/
def Tyc (g : Bool) (c : List Int) (d : Nat) : Prop := ∀ g' rest ts, ts.length + d ≤ 60 → tok g' rest (g :: ts) → tok g' (c ++ rest) ts
theorem Tyc.up {g : Bool} {c : List Int} {d d' : Nat} (h : Tyc g c d) (hd : d ≤ d') : Tyc g c d' := fun g' rest ts hl ht => h g' rest ts (by omega) ht
theorem Tyc.tk {g : Bool} {c : List Int} {d : Nat} (h : Tyc g c d) (hd : d ≤ 60) : tok g c [] := by
  have := h g [] [] (by simpa using hd) rfl
  rwa [List.append_nil] at this
theorem Tyc.num {z : Int} (hz : 0 ≤ z ∧ z < 10000) : Tyc false [z] 1 := fun g' rest ts hl ht => Or.inl ⟨hz, by omega, Or.inl ht⟩
theorem Tyc.all : Tyc true [1] 1 := fun g' rest ts hl ht => Or.inl ⟨⟨by decide, by decide⟩, by omega, Or.inr ⟨rfl, ht⟩⟩
theorem Tyc.val {z : Int} (hz : isV z) : Tyc false [z] 1 := fun g' rest ts hl ht => Or.inr (Or.inl ⟨hz, by omega, ht⟩)
theorem Tyc.two {a b : List Int} {d e : Nat} {z : Int} (hz : 10100 ≤ z ∧ z ≤ 10106) (ha : Tyc false a d) (hb : Tyc false b e) (h1 : d ≤ e + 1) : Tyc false (a ++ b ++ [z]) (e + 1) := fun g' rest ts hl ht => by
  rw [List.append_assoc, List.append_assoc]
  refine ha g' _ ts (by omega) (hb g' _ (false :: ts) (by rw [List.length_cons]; omega) ?_)
  exact Or.inr (Or.inr (Or.inl ⟨hz, ts, rfl, ht⟩))
theorem Tyc.cmp {a b : List Int} {d e : Nat} {z : Int} (hz : 10107 ≤ z ∧ z ≤ 10109) (ha : Tyc false a d) (hb : Tyc false b e) (h1 : d ≤ e + 1) : Tyc true (a ++ b ++ [z]) (e + 1) := fun g' rest ts hl ht => by
  rw [List.append_assoc, List.append_assoc]
  refine ha g' _ ts (by omega) (hb g' _ (false :: ts) (by rw [List.length_cons]; omega) ?_)
  exact Or.inr (Or.inr (Or.inr (Or.inl ⟨hz, ts, rfl, ht⟩)))
theorem Tyc.and {a b : List Int} {d e : Nat} {z : Int} (hz : 10110 ≤ z ∧ z ≤ 10111) (ha : Tyc true a d) (hb : Tyc true b e) (h1 : d ≤ e + 1) : Tyc true (a ++ b ++ [z]) (e + 1) := fun g' rest ts hl ht => by
  rw [List.append_assoc, List.append_assoc]
  refine ha g' _ ts (by omega) (hb g' _ (true :: ts) (by rw [List.length_cons]; omega) ?_)
  exact Or.inr (Or.inr (Or.inr (Or.inr (Or.inl ⟨hz, ts, rfl, ht⟩))))
theorem Tyc.not {a : List Int} {d : Nat} (ha : Tyc true a d) : Tyc true (a ++ [10112]) d := fun g' rest ts hl ht => by
  rw [List.append_assoc]
  refine ha g' _ ts (by omega) ?_
  exact Or.inr (Or.inr (Or.inr (Or.inr (Or.inr ⟨rfl, ts, rfl, ht⟩))))
end PARS

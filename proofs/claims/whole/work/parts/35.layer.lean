section LAYER
/-! ===== the reference's layers: copied, compared ===== -/
/-- layer v' of one memory is layer v of another -/
def LayEq (I : Nat → Nat → Int32) (v : Nat) (I' : Nat → Nat → Int32) (v' : Nat) : Prop := (∀ c, c = 108 ∨ c = 109 ∨ c = 117 → I' c v' = I c v) ∧ (∀ c i, 110 ≤ c ∧ c ≤ 115 → i < 6 → I' c (6 * v' + i) = I c (6 * v + i)) ∧ (∀ i, i < 48 → I' 116 (48 * v' + i) = I 116 (48 * v + i)) ∧ ∀ c i, 118 ≤ c ∧ c ≤ 120 → i < 60 → I' c (60 * v' + i) = I c (60 * v + i)
theorem LayEq.rf (I : Nat → Nat → Int32) (v : Nat) : LayEq I v I v := ⟨fun _ _ => rfl, fun _ _ _ _ => rfl, fun _ _ => rfl, fun _ _ _ _ => rfl⟩
theorem LayEq.tr {I I' I'' : Nat → Nat → Int32} {v v' v'' : Nat} (h : LayEq I v I' v') (h' : LayEq I' v' I'' v'') : LayEq I v I'' v'' := ⟨fun c hc => (h'.1 c hc).trans (h.1 c hc), fun c i hc hi => (h'.2.1 c i hc hi).trans (h.2.1 c i hc hi), fun i hi => (h'.2.2.1 i hi).trans (h.2.2.1 i hi), fun c i hc hi => (h'.2.2.2 c i hc hi).trans (h.2.2.2 c i hc hi)⟩
theorem gi_eq {I I' : Nat → Nat → Int32} {c k k' : Nat} (h : I' c k' = I c k) : gi I' c k' = gi I c k := congrArg Int32.toInt h
theorem HR_lay {I I' : Nat → Nat → Int32} {v v' : Nat} (h : LayEq I v I' v') (hb : gi I' 83 (gi I' 74 13).toNat = gi I 83 (gi I 74 13).toNat) (hn : gi I 83 (gi I 74 13).toNat ≤ 6) (h8 : ∀ r : Int, 0 ≤ r → r < gi I 83 (gi I 74 13).toNat → gi I 115 ((6 * (v : Int)) + r).toNat ≤ 8) : HR I' v' = HR I v := by
  have key : ∀ (c : Nat) (i : Int), 110 ≤ c ∧ c ≤ 115 → tr (gi I' 83 (gi I' 74 13).toNat) (gi I' c ((6 * (v' : Int)) + i).toNat) i = tr (gi I 83 (gi I 74 13).toNat) (gi I c ((6 * (v : Int)) + i).toNat) i := by
    intro c i hc
    rw [hb]
    by_cases hi : 0 ≤ i ∧ i < gi I 83 (gi I 74 13).toNat
    · rw [tr_in hi, tr_in hi, show ((6 * (v' : Int)) + i).toNat = 6 * v' + i.toNat by omega, show ((6 * (v : Int)) + i).toNat = 6 * v + i.toNat by omega]
      exact gi_eq (h.2.1 c _ hc (by omega))
    · rw [tr_out hi, tr_out hi]
  have e1 : ∀ i, HR I' v' 1 i = HR I v 1 i := fun i => key 110 i (by decide)
  have e2 : ∀ i, HR I' v' 2 i = HR I v 2 i := fun i => key 111 i (by decide)
  have e3 : ∀ i, HR I' v' 3 i = HR I v 3 i := fun i => key 112 i (by decide)
  have e4 : ∀ i, HR I' v' 4 i = HR I v 4 i := fun i => key 113 i (by decide)
  have e5 : ∀ i, HR I' v' 5 i = HR I v 5 i := fun i => key 114 i (by decide)
  have e6 : ∀ i, HR I' v' 6 i = HR I v 6 i := fun i => key 115 i (by decide)
  have e7 : ∀ i, HR I' v' 7 i = HR I v 7 i := by
    intro i
    show tr (gi I' 83 (gi I' 74 13).toNat) (tr (gi I' 115 ((6 * (v' : Int)) + (i / 8)).toNat) (gi I' 116 ((8 * ((6 * (v' : Int)) + (i / 8))) + i % 8).toNat) (i % 8)) (i / 8) = tr (gi I 83 (gi I 74 13).toNat) (tr (gi I 115 ((6 * (v : Int)) + (i / 8)).toNat) (gi I 116 ((8 * ((6 * (v : Int)) + (i / 8))) + i % 8).toNat) (i % 8)) (i / 8)
    rw [hb]
    by_cases hi : 0 ≤ i / 8 ∧ i / 8 < gi I 83 (gi I 74 13).toNat
    · have q := h8 (i / 8) hi.1 hi.2
      have q2 : gi I' 115 ((6 * (v' : Int)) + (i / 8)).toNat = gi I 115 ((6 * (v : Int)) + (i / 8)).toNat := by
        rw [show ((6 * (v' : Int)) + (i / 8)).toNat = 6 * v' + (i / 8).toNat by omega, show ((6 * (v : Int)) + (i / 8)).toNat = 6 * v + (i / 8).toNat by omega]
        exact gi_eq (h.2.1 115 _ (by decide) (by omega))
      rw [tr_in hi, tr_in hi, q2]
      by_cases hj : 0 ≤ i % 8 ∧ i % 8 < gi I 115 ((6 * (v : Int)) + (i / 8)).toNat
      · rw [tr_in hj, tr_in hj, show ((8 * ((6 * (v' : Int)) + (i / 8))) + i % 8).toNat = 48 * v' + i.toNat by omega, show ((8 * ((6 * (v : Int)) + (i / 8))) + i % 8).toNat = 48 * v + i.toNat by omega]
        exact gi_eq (h.2.2.1 _ (by omega))
      · rw [tr_out hj, tr_out hj]
    · rw [tr_out hi, tr_out hi]
  have e8 : ∀ i, HR I' v' 8 i = HR I v 8 i := fun i => gi_eq (h.1 108 (by decide))
  have e9 : ∀ i, HR I' v' 9 i = HR I v 9 i := fun i => gi_eq (h.1 109 (by decide))
  funext f i
  by_cases hf : f = 0 ∨ 10 ≤ f
  · rw [HR_big I' v' i hf, HR_big I v i hf]
  · have hc : f = 1 ∨ f = 2 ∨ f = 3 ∨ f = 4 ∨ f = 5 ∨ f = 6 ∨ f = 7 ∨ f = 8 ∨ f = 9 := by omega
    rcases hc with rfl | rfl | rfl | rfl | rfl | rfl | rfl | rfl | rfl
    · exact e1 i
    · exact e2 i
    · exact e3 i
    · exact e4 i
    · exact e5 i
    · exact e6 i
    · exact e7 i
    · exact e8 i
    · exact e9 i
theorem KP_lay {I I' : Nat → Nat → Int32} {kc : Int} {v v' : Nat} (h : LayEq I v I' v') (hg : ∀ j : Nat, (j : Int) < kc → gi I' 20 j = gi I 20 j) (hK : KP I kc v) : KP I' kc v' := by
  obtain ⟨h1, h2, h3⟩ := hK
  refine ⟨h1, ?_, fun k h0 hk => ?_⟩
  · rw [← h2]
    exact gi_eq (h.1 117 (by decide))
  · have e : ∀ c, 118 ≤ c ∧ c ≤ 120 → gi I' c ((60 * (v' : Int)) + k).toNat = gi I c ((60 * (v : Int)) + k).toNat := by
      intro c hc
      rw [show ((60 * (v' : Int)) + k).toNat = 60 * v' + k.toNat by omega, show ((60 * (v : Int)) + k).toNat = 60 * v + k.toNat by omega]
      exact gi_eq (h.2.2.2 c _ hc (by omega))
    rw [e 118 (by decide), e 119 (by decide), e 120 (by decide), hg _ (by omega)]
    exact h3 k h0 hk
/-- a layer copied as far as told -/
def cpS (I : Nat → Nat → Int32) (to fr nr nl nm nk : Nat) : Nat → Nat → Int32 := fun c k =>
  if c = 108 ∨ c = 109 then (if k = to then I c fr else I c k)
  else if 110 ≤ c ∧ c ≤ 115 then (if 6 * to ≤ k ∧ k < 6 * to + nr then I c (6 * fr + (k - 6 * to)) else I c k)
  else if c = 116 then (if 48 * to ≤ k ∧ k < 48 * to + nl then I c (48 * fr + (k - 48 * to)) else I c k)
  else if c = 117 then (if k = to ∧ nm = 1 then I c fr else I c k)
  else if 118 ≤ c ∧ c ≤ 120 then (if 60 * to ≤ k ∧ k < 60 * to + nk then I c (60 * fr + (k - 60 * to)) else I c k)
  else I c k
theorem cpS_A {I : Nat → Nat → Int32} {to fr nr nl nm nk c k : Nat} (hc : 110 ≤ c ∧ c ≤ 115) : cpS I to fr nr nl nm nk c k = if 6 * to ≤ k ∧ k < 6 * to + nr then I c (6 * fr + (k - 6 * to)) else I c k := by
  unfold cpS
  rw [if_neg (by omega), if_pos hc]
theorem cpS_B {I : Nat → Nat → Int32} {to fr nr nl nm nk k : Nat} : cpS I to fr nr nl nm nk 116 k = if 48 * to ≤ k ∧ k < 48 * to + nl then I 116 (48 * fr + (k - 48 * to)) else I 116 k := rfl
theorem cpS_C {I : Nat → Nat → Int32} {to fr nr nl nm nk k : Nat} : cpS I to fr nr nl nm nk 117 k = if k = to ∧ nm = 1 then I 117 fr else I 117 k := rfl
theorem cpS_D {I : Nat → Nat → Int32} {to fr nr nl nm nk c k : Nat} (hc : 118 ≤ c ∧ c ≤ 120) : cpS I to fr nr nl nm nk c k = if 60 * to ≤ k ∧ k < 60 * to + nk then I c (60 * fr + (k - 60 * to)) else I c k := by
  unfold cpS
  rw [if_neg (by omega), if_neg (by omega), if_neg (by omega), if_neg (by omega), if_pos hc]
theorem cpS_E {I : Nat → Nat → Int32} {to fr nr nl nm nk c k : Nat} (hc : c = 108 ∨ c = 109) : cpS I to fr nr nl nm nk c k = if k = to then I c fr else I c k := by
  unfold cpS
  rw [if_pos hc]
theorem cpS_F {I : Nat → Nat → Int32} {to fr nr nl nm nk c k : Nat} (hc : ¬ (108 ≤ c ∧ c ≤ 120)) : cpS I to fr nr nl nm nk c k = I c k := by
  unfold cpS
  rw [if_neg (by omega), if_neg (by omega), if_neg (by omega), if_neg (by omega), if_neg (by omega)]
/-- the cells of the readers', of the lists and of the kept ones don't rest on the other counts -/
theorem cpS_n {I : Nat → Nat → Int32} {to fr nr nl nm nk nr' : Nat} {c : Nat} (k : Nat) (hc : ¬ (110 ≤ c ∧ c ≤ 115)) : cpS I to fr nr nl nm nk c k = cpS I to fr nr' nl nm nk c k := by
  unfold cpS
  rw [if_neg hc, if_neg hc]
theorem cpS_nl {I : Nat → Nat → Int32} {to fr nr nl nm nk nl' : Nat} {c : Nat} (k : Nat) (hc : ¬ c = 116) : cpS I to fr nr nl nm nk c k = cpS I to fr nr nl' nm nk c k := by
  unfold cpS
  rw [if_neg hc, if_neg hc]
theorem cpS_nm {I : Nat → Nat → Int32} {to fr nr nl nm nk nm' : Nat} {c : Nat} (k : Nat) (hc : ¬ c = 117) : cpS I to fr nr nl nm nk c k = cpS I to fr nr nl nm' nk c k := by
  unfold cpS
  rw [if_neg hc, if_neg hc]
theorem cpS_nk {I : Nat → Nat → Int32} {to fr nr nl nm nk nk' : Nat} {c : Nat} (k : Nat) (hc : ¬ (118 ≤ c ∧ c ≤ 120)) : cpS I to fr nr nl nm nk c k = cpS I to fr nr nl nm nk' c k := by
  unfold cpS
  rw [if_neg hc, if_neg hc]
theorem si_at (X : Nat → Nat → Int32) (c k c' k' : Nat) (z : Int) : si X c k z c' k' = if c' = c ∧ k' = k then iI z else X c' k' := by
  unfold si up2
  by_cases h : c' = c
  · subst h
    by_cases h2 : k' = k
    · subst h2; simp
    · simp [h2]
  · simp [h]
theorem iI_gi (X : Nat → Nat → Int32) (c k : Nat) : iI (gi X c k) = X c k := iI_of _
theorem cpS_0 {I : Nat → Nat → Int32} {to fr : Nat} : si (si I 108 to (gi I 108 fr)) 109 to (gi I 109 fr) = cpS I to fr 0 0 0 0 := by
  funext c k
  rw [si_at, si_at, iI_gi, iI_gi]
  by_cases h : c = 108 ∨ c = 109
  · rw [cpS_E h]
    rcases h with rfl | rfl
    · by_cases h2 : k = to <;> simp [h2]
    · by_cases h2 : k = to <;> simp [h2]
  · rw [if_neg (by omega), if_neg (by omega)]
    by_cases h1 : 110 ≤ c ∧ c ≤ 115
    · rw [cpS_A h1, if_neg (by omega)]
    · by_cases h2 : c = 116
      · subst h2
        rw [cpS_B, if_neg (by omega)]
      · by_cases h3 : c = 117
        · subst h3
          rw [cpS_C, if_neg (by omega)]
        · by_cases h4 : 118 ≤ c ∧ c ≤ 120
          · rw [cpS_D h4, if_neg (by omega)]
          · rw [cpS_F (by omega)]
theorem cpS_r {I X : Nat → Nat → Int32} {to fr nr nl nm nk d s : Nat} (hne : to ≠ fr) (hn : nr < 6) (hX : X = cpS I to fr nr nl nm nk) (hd : d = 6 * to + nr) (hs : s = 6 * fr + nr) : si (si (si (si (si (si X 110 d (gi X 110 s)) 111 d (gi X 111 s)) 112 d (gi X 112 s)) 113 d (gi X 113 s)) 114 d (gi X 114 s)) 115 d (gi X 115 s) = cpS I to fr (nr + 1) nl nm nk := by
  have hsrc : ∀ c, 110 ≤ c ∧ c ≤ 115 → X c s = I c s := by
    intro c hc
    rw [hX, cpS_A hc, if_neg (by omega)]
  funext c k
  by_cases hc : 110 ≤ c ∧ c ≤ 115
  · by_cases hk : k = d
    · subst hk
      rw [cpS_A hc, if_pos (by omega), show 6 * fr + (k - 6 * to) = s by omega, ← hsrc c hc]
      have hcc : c = 110 ∨ c = 111 ∨ c = 112 ∨ c = 113 ∨ c = 114 ∨ c = 115 := by omega
      rcases hcc with rfl | rfl | rfl | rfl | rfl | rfl <;> simp [si_at, iI_gi]
    · have e : si (si (si (si (si (si X 110 d (gi X 110 s)) 111 d (gi X 111 s)) 112 d (gi X 112 s)) 113 d (gi X 113 s)) 114 d (gi X 114 s)) 115 d (gi X 115 s) c k = X c k := by simp [si_at, hk]
      rw [e, hX, cpS_A hc, cpS_A hc]
      by_cases q : 6 * to ≤ k ∧ k < 6 * to + nr
      · rw [if_pos q, if_pos (by omega)]
      · rw [if_neg q, if_neg (by omega)]
  · rw [si_at, if_neg (by omega), si_at, if_neg (by omega), si_at, if_neg (by omega), si_at, if_neg (by omega), si_at, if_neg (by omega), si_at, if_neg (by omega), hX]
    exact cpS_n k hc
theorem cpS_l {I X : Nat → Nat → Int32} {to fr nr nl nm nk d s : Nat} (hne : to ≠ fr) (hn : nl < 48) (hX : X = cpS I to fr nr nl nm nk) (hd : d = 48 * to + nl) (hs : s = 48 * fr + nl) : si X 116 d (gi X 116 s) = cpS I to fr nr (nl + 1) nm nk := by
  funext c k
  rw [si_at, iI_gi, hX]
  by_cases hc : c = 116
  · subst hc
    rw [cpS_B, cpS_B, cpS_B]
    by_cases hk : k = d
    · rw [if_pos ⟨rfl, hk⟩, if_neg (by omega), if_pos (by omega), show 48 * fr + (k - 48 * to) = s by omega]
    · rw [if_neg (fun z => hk z.2)]
      by_cases q : 48 * to ≤ k ∧ k < 48 * to + nl
      · rw [if_pos q, if_pos (by omega)]
      · rw [if_neg q, if_neg (by omega)]
  · rw [if_neg (by omega)]
    exact cpS_nl k hc
theorem cpS_m {I X : Nat → Nat → Int32} {to fr nr nl nk : Nat} (hne : to ≠ fr) (hX : X = cpS I to fr nr nl 0 nk) : si X 117 to (gi X 117 fr) = cpS I to fr nr nl 1 nk := by
  funext c k
  rw [si_at, iI_gi, hX]
  by_cases hc : c = 117
  · subst hc
    rw [cpS_C, cpS_C, cpS_C]
    by_cases hk : k = to
    · rw [if_pos ⟨rfl, hk⟩, if_neg (by omega), if_pos ⟨hk, rfl⟩]
    · rw [if_neg (fun z => hk z.2), if_neg (fun z => hk z.1), if_neg (fun z => hk z.1)]
  · rw [if_neg (by omega)]
    exact cpS_nm k hc
theorem cpS_k {I X : Nat → Nat → Int32} {to fr nr nl nm nk d s : Nat} (hne : to ≠ fr) (hn : nk < 60) (hX : X = cpS I to fr nr nl nm nk) (hd : d = 60 * to + nk) (hs : s = 60 * fr + nk) : si (si (si X 118 d (gi X 118 s)) 119 d (gi X 119 s)) 120 d (gi X 120 s) = cpS I to fr nr nl nm (nk + 1) := by
  have hsrc : ∀ c, 118 ≤ c ∧ c ≤ 120 → X c s = I c s := by
    intro c hc
    rw [hX, cpS_D hc, if_neg (by omega)]
  funext c k
  by_cases hc : 118 ≤ c ∧ c ≤ 120
  · by_cases hk : k = d
    · subst hk
      rw [cpS_D hc, if_pos (by omega), show 60 * fr + (k - 60 * to) = s by omega, ← hsrc c hc]
      have hcc : c = 118 ∨ c = 119 ∨ c = 120 := by omega
      rcases hcc with rfl | rfl | rfl <;> simp [si_at, iI_gi]
    · have e : si (si (si X 118 d (gi X 118 s)) 119 d (gi X 119 s)) 120 d (gi X 120 s) c k = X c k := by simp [si_at, hk]
      rw [e, hX, cpS_D hc, cpS_D hc]
      by_cases q : 60 * to ≤ k ∧ k < 60 * to + nk
      · rw [if_pos q, if_pos (by omega)]
      · rw [if_neg q, if_neg (by omega)]
  · rw [si_at, if_neg (by omega), si_at, if_neg (by omega), si_at, if_neg (by omega), hX]
    exact cpS_nk k hc
/-- the whole layer -/
def cpL (I : Nat → Nat → Int32) (to fr : Nat) : Nat → Nat → Int32 := cpS I to fr 6 48 1 60
theorem S_X12_copies {k : Nat} {P : Option Nat} {I : Nat → Nat → Int32} {J : Nat → Nat → Int64} {Q : Option AV → Mem → Prop} {to fr : Nat} (ht : to < 22) (hf : fr < 22) (hne : to ≠ fr) (hQ : Q none (mem (rv0 P) (cpL I to fr) J)) : WPm k LAY m_X12_copies [vR (some 74), vI (to : Int), vI (fr : Int)] (mem (rv0 P) I J) Q := by
  have lk : ∀ (d n : Nat) (x : Int) (X : Nat → Nat → Int32), n + d = 60 → x = n → X = cpS I to fr 6 48 1 n → WP k LAY m_X12_copies 194 [(0, vR (some 74)), (1, vI (to : Int)), (2, vI (fr : Int)), (3, vI x)] [] (mem (rv0 P) X J) Q := by
    intro d
    induction d with
    | zero =>
      intro n x X hn hx hX
      refine B_X12_copies_194 (by omega) ⟨⟨by omega, by omega⟩, fun _ => ?_, fun q => absurd q (by omega)⟩
      rw [hX, show n = 60 by omega]
      exact hQ
    | succ d ih =>
      intro n x X hn hx hX
      refine B_X12_copies_194 (by omega) ⟨⟨by omega, by omega⟩, fun q => absurd q (by omega), fun _ => ⟨⟨by omega, by omega⟩, ⟨by omega, by omega⟩, ?_⟩⟩
      exact ih (n + 1) _ _ (by omega) (by omega) (cpS_k hne (by omega) hX (by omega) (by omega))
  have lr : ∀ (d n : Nat) (x : Int) (X : Nat → Nat → Int32), n + d = 6 → x = n → X = cpS I to fr n (8 * n) 0 0 → WP k LAY m_X12_copies 26 [(0, vR (some 74)), (1, vI (to : Int)), (2, vI (fr : Int)), (3, vI x)] [] (mem (rv0 P) X J) Q := by
    intro d
    induction d with
    | zero =>
      intro n x X hn hx hX
      refine B_X12_copies_26 (by omega) ⟨⟨by omega, by omega⟩, fun _ => ⟨⟨by omega, by omega⟩, ⟨by omega, by omega⟩, ?_⟩, fun q => absurd q (by omega)⟩
      rw [show n = 6 by omega] at hX
      refine lk 60 0 _ _ rfl rfl ?_
      rw [Int.toNat_natCast, Int.toNat_natCast]
      exact cpS_m hne hX
    | succ d ih =>
      intro n x X hn hx hX
      refine B_X12_copies_26 (by omega) ⟨⟨by omega, by omega⟩, fun q => absurd q (by omega), fun _ => ⟨⟨by omega, by omega⟩, ⟨by omega, by omega⟩, ?_⟩⟩
      have ll : ∀ (e m : Nat) (y x4 x5 : Int) (X : Nat → Nat → Int32), m + e = 8 → y = m → x4 = 6 * (to : Int) + n → x5 = 6 * (fr : Int) + n → X = cpS I to fr (n + 1) (8 * n + m) 0 0 → WP k LAY m_X12_copies 135 [(0, vR (some 74)), (1, vI (to : Int)), (2, vI (fr : Int)), (3, vI x), (4, vI x4), (5, vI x5), (6, vI y)] [] (mem (rv0 P) X J) Q := by
        intro e
        induction e with
        | zero =>
          intro m y x4 x5 X hm hy h4 h5 hX
          refine B_X12_copies_135 (by omega) ⟨⟨by omega, by omega⟩, fun _ => ?_, fun q => absurd q (by omega)⟩
          exact ih (n + 1) _ X (by omega) (by omega) (by rw [hX, show 8 * n + m = 8 * (n + 1) by omega])
        | succ e ih2 =>
          intro m y x4 x5 X hm hy h4 h5 hX
          refine B_X12_copies_135 (by omega) ⟨⟨by omega, by omega⟩, fun q => absurd q (by omega), fun _ => ⟨⟨by omega, by omega⟩, ⟨by omega, by omega⟩, ?_⟩⟩
          exact ih2 (m + 1) _ _ _ _ (by omega) (by omega) h4 h5 (cpS_l (nl := 8 * n + m) hne (by omega) hX (by omega) (by omega))
      exact ll 8 0 _ _ _ _ rfl rfl (by omega) (by omega) (cpS_r hne (by omega) hX (by omega) (by omega))
  refine WPm.of k_X12_copies.1 (Nat.le_of_ble_eq_true rfl) (B_X12_copies_0 (by omega) ⟨⟨by omega, by omega⟩, ⟨by omega, by omega⟩, ?_⟩)
  refine lr 6 0 _ _ rfl rfl ?_
  rw [Int.toNat_natCast, Int.toNat_natCast]
  exact cpS_0
theorem cpL_lay {I : Nat → Nat → Int32} {to fr : Nat} : LayEq I fr (cpL I to fr) to := by
  unfold cpL
  refine ⟨fun c hc => ?_, fun c i hc hi => ?_, fun i hi => ?_, fun c i hc hi => ?_⟩
  · rcases hc with rfl | rfl | rfl
    · rw [cpS_E (Or.inl rfl), if_pos rfl]
    · rw [cpS_E (Or.inr rfl), if_pos rfl]
    · rw [cpS_C, if_pos ⟨rfl, rfl⟩]
  · rw [cpS_A hc, if_pos (by omega), show 6 * to + i - 6 * to = i by omega]
  · rw [cpS_B, if_pos (by omega), show 48 * to + i - 48 * to = i by omega]
  · rw [cpS_D hc, if_pos (by omega), show 60 * to + i - 60 * to = i by omega]
theorem cpL_oth {I : Nat → Nat → Int32} {to fr v : Nat} (hv : v ≠ to) : LayEq I v (cpL I to fr) v := by
  unfold cpL
  refine ⟨fun c hc => ?_, fun c i hc hi => ?_, fun i hi => ?_, fun c i hc hi => ?_⟩
  · rcases hc with rfl | rfl | rfl
    · rw [cpS_E (Or.inl rfl), if_neg hv]
    · rw [cpS_E (Or.inr rfl), if_neg hv]
    · rw [cpS_C, if_neg (fun z => hv z.1)]
  · rw [cpS_A hc, if_neg (by omega)]
  · rw [cpS_B, if_neg (by omega)]
  · rw [cpS_D hc, if_neg (by omega)]
theorem cpL_cell {I : Nat → Nat → Int32} {to fr c : Nat} (hc : ¬ (108 ≤ c ∧ c ≤ 120)) : cpL I to fr c = I c := by
  funext k
  unfold cpL
  rw [cpS_F hc]
end LAYER

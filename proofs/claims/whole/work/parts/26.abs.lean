section ABSS
/-! ===== what both objects tell of the library and of the readers: two numbered tables ===== -/
abbrev Lb : Type := Nat → Int → Int
def tr (n : Int) (z : Int) (i : Int) : Int := if 0 ≤ i ∧ i < n then z else 0
theorem tr_in {n z i : Int} (h : 0 ≤ i ∧ i < n) : tr n z i = z := if_pos h
theorem tr_out {n z i : Int} (h : ¬ (0 ≤ i ∧ i < n)) : tr n z i = 0 := if_neg h
/-- 1 book of a page, 2 lines, 3 big, 4 needs; 5 pace, 6 eyes; 7 draft; 10 .. 13 names; 20 books, 21 pages, 22 readers, 23 tables, 24 needs, 25 inch -/
def LC (I : Nat → Nat → Int32) : Lb := fun f i => match f with
  | 1 => tr (gi I 6 1) (gi I 8 i.toNat) i
  | 2 => tr (gi I 6 1) (gi I 9 i.toNat) i
  | 3 => tr (gi I 6 1) (gi I 10 i.toNat) i
  | 4 => tr (gi I 6 1) (gi I 11 i.toNat) i
  | 5 => tr (gi I 6 2) (gi I 13 i.toNat) i
  | 6 => tr (gi I 6 2) (gi I 14 i.toNat) i
  | 7 => tr (gi I 6 3) (gi I 15 i.toNat) i
  | 20 => gi I 6 0
  | 21 => gi I 6 1
  | 22 => gi I 6 2
  | 23 => gi I 6 3
  | 24 => gi I 5 14
  | 25 => gi I 5 15
  | _ => 0
def LR (I : Nat → Nat → Int32) : Lb := fun f i => match f with
  | 1 => tr (gi I 77 (gi I 74 13).toNat) (gi I 78 ((14 * (gi I 74 13)) + i).toNat) i
  | 2 => tr (gi I 77 (gi I 74 13).toNat) (gi I 79 ((14 * (gi I 74 13)) + i).toNat) i
  | 3 => tr (gi I 77 (gi I 74 13).toNat) (gi I 80 ((14 * (gi I 74 13)) + i).toNat) i
  | 4 => tr (gi I 77 (gi I 74 13).toNat) (gi I 81 ((14 * (gi I 74 13)) + i).toNat) i
  | 5 => tr (gi I 83 (gi I 74 13).toNat) (gi I 84 ((6 * (gi I 74 13)) + i).toNat) i
  | 6 => tr (gi I 83 (gi I 74 13).toNat) (gi I 85 ((6 * (gi I 74 13)) + i).toNat) i
  | 7 => tr (gi I 86 (gi I 74 13).toNat) (gi I 87 ((5 * (gi I 74 13)) + i).toNat) i
  | 20 => gi I 76 (gi I 74 13).toNat
  | 21 => gi I 77 (gi I 74 13).toNat
  | 22 => gi I 83 (gi I 74 13).toNat
  | 23 => gi I 86 (gi I 74 13).toNat
  | 24 => gi I 82 (gi I 74 13).toNat
  | 25 => gi I 88 (gi I 74 13).toNat
  | _ => 0
abbrev nP (L : Lb) : Int := L 21 0
abbrev nR (L : Lb) : Int := L 22 0
abbrev nT (L : Lb) : Int := L 23 0
/-- the rules: 0 burns, 1 takes, 2 tells; none is the empty one -/
abbrev Rl : Type := Nat → List Int
def RC (I : Nat → Nat → Int32) : Rl := fun ρ => if ρ < 3 ∧ 0 < gi I 18 ρ then (List.range' (gi I 17 ρ).toNat ((gi I 18 ρ).toNat - (gi I 17 ρ).toNat)).map (gi I 16) else []
def encR (I : Nat → Nat → Int32) (i : Nat) : Int := enc (gi I 95 i) (gi I 96 i)
def RR (I : Nat → Nat → Int32) : Rl := fun ρ => if ρ < 3 ∧ ¬ gi I (89 + 2 * ρ) (gi I 74 13).toNat = -1 then (List.range' ((1600 * gi I 74 13) + gi I (89 + 2 * ρ) (gi I 74 13).toNat).toNat ((gi I (90 + 2 * ρ) (gi I 74 13).toNat).toNat - (gi I (89 + 2 * ρ) (gi I 74 13).toNat).toNat)).map (encR I) else []
/-- where the class's rules lie -/
def rgC (I : Nat → Nat → Int32) : Prop := ∀ ρ : Nat, ρ < 3 → gi I 18 ρ ≤ 0 ∨ (0 ≤ gi I 17 ρ ∧ gi I 17 ρ < gi I 18 ρ ∧ gi I 18 ρ ≤ 1600)
def rgR (I : Nat → Nat → Int32) : Prop := ∀ ρ : Nat, ρ < 3 → gi I (89 + 2 * ρ) (gi I 74 13).toNat = -1 ∨ (0 ≤ gi I (89 + 2 * ρ) (gi I 74 13).toNat ∧ gi I (89 + 2 * ρ) (gi I 74 13).toNat < gi I (90 + 2 * ρ) (gi I 74 13).toNat ∧ gi I (90 + 2 * ρ) (gi I 74 13).toNat ≤ 1600)
/-- 1 table, 2 read, 3 heard, 4 left off, 5 into, 6 how many listed, 7 the lists (8 r + k); 8 night, 9 wax -/
abbrev Hl : Type := Nat → Int → Int
def HrC (row : Int → Int) (n : Int) : Hl := fun f i => match f with
  | 1 => tr n (row ((3 + (i * 14)) + 0)) i
  | 2 => tr n (row ((3 + (i * 14)) + 1)) i
  | 3 => tr n (row ((3 + (i * 14)) + 2)) i
  | 4 => tr n (row ((3 + (i * 14)) + 3)) i
  | 5 => tr n (row ((3 + (i * 14)) + 4)) i
  | 6 => tr n (row ((3 + (i * 14)) + 5)) i
  | 7 => tr n (tr (row ((3 + ((i / 8) * 14)) + 5)) (row ((3 + ((i / 8) * 14)) + (6 + i % 8))) (i % 8)) (i / 8)
  | 8 => row 0
  | 9 => row 1
  | _ => 0
def HC (I : Nat → Nat → Int32) : Hl := HrC (fun j => gi I 19 j.toNat) (gi I 6 2)
def HR (I : Nat → Nat → Int32) (v : Int) : Hl := fun f i => match f with
  | 1 => tr (gi I 83 (gi I 74 13).toNat) (gi I 110 ((6 * v) + i).toNat) i
  | 2 => tr (gi I 83 (gi I 74 13).toNat) (gi I 111 ((6 * v) + i).toNat) i
  | 3 => tr (gi I 83 (gi I 74 13).toNat) (gi I 112 ((6 * v) + i).toNat) i
  | 4 => tr (gi I 83 (gi I 74 13).toNat) (gi I 113 ((6 * v) + i).toNat) i
  | 5 => tr (gi I 83 (gi I 74 13).toNat) (gi I 114 ((6 * v) + i).toNat) i
  | 6 => tr (gi I 83 (gi I 74 13).toNat) (gi I 115 ((6 * v) + i).toNat) i
  | 7 => tr (gi I 83 (gi I 74 13).toNat) (tr (gi I 115 ((6 * v) + (i / 8)).toNat) (gi I 116 ((8 * ((6 * v) + (i / 8))) + i % 8).toNat) (i % 8)) (i / 8)
  | 8 => gi I 108 v.toNat
  | 9 => gi I 109 v.toNat
  | _ => 0
/-! what they always keep -/
def WfL (L : Lb) : Prop := (0 ≤ L 20 0 ∧ L 20 0 ≤ 5) ∧ (0 ≤ nP L ∧ nP L ≤ 14) ∧ (0 ≤ nR L ∧ nR L ≤ 6) ∧ (0 ≤ nT L ∧ nT L ≤ 5) ∧ (0 ≤ L 24 0 ∧ L 24 0 ≤ 20) ∧ (10 ≤ L 25 0 ∧ L 25 0 ≤ 120) ∧ (0 < nR L → 0 < nT L) ∧
  (∀ p, 0 ≤ p → p < nP L → (0 ≤ L 1 p ∧ L 1 p < L 20 0) ∧ (1 ≤ L 2 p ∧ L 2 p ≤ 99) ∧ (0 ≤ L 3 p ∧ L 3 p ≤ 1) ∧ (0 ≤ L 4 p ∧ (L 4 p).toNat < 2 ^ p.toNat)) ∧
  (∀ r, 0 ≤ r → r < nR L → (1 ≤ L 5 r ∧ L 5 r ≤ 9) ∧ (0 ≤ L 6 r ∧ L 6 r ≤ 9)) ∧ (∀ t, 0 ≤ t → t < nT L → 0 ≤ L 7 t ∧ L 7 t ≤ 9)
def WfR (R : Rl) : Prop := ∀ ρ, ρ < 3 → R ρ = [] ∨ tok (decide (ρ = 2)) (R ρ) []
/-- a reader's sets, as natural numbers -/
abbrev kn (H : Hl) (r : Int) : Nat := (H 2 r).toNat ||| (H 3 r).toNat
/-- of one reader -/
def WfO (L : Lb) (H : Hl) (r : Int) : Prop := (0 ≤ H 1 r ∧ H 1 r < nT L) ∧ (0 ≤ H 2 r ∧ (H 2 r).toNat < 2 ^ (nP L).toNat) ∧ (0 ≤ H 3 r ∧ (H 3 r).toNat < 2 ^ (nP L).toNat) ∧ (H 2 r).toNat &&& (H 3 r).toNat = 0 ∧
  (0 ≤ H 6 r ∧ H 6 r ≤ 8) ∧ (∀ k, 0 ≤ k → k < H 6 r → (0 ≤ H 7 (8 * r + k) ∧ H 7 (8 * r + k) < nP L) ∧ (kn H r).testBit (H 7 (8 * r + k)).toNat = false ∧ ∀ j, 0 ≤ j → j < k → ¬ H 7 (8 * r + j) = H 7 (8 * r + k)) ∧
  (H 4 r = -1 ∧ H 5 r = 0 ∨ (1 ≤ H 5 r ∧ H 5 r ≤ 499) ∧ ∃ k, 0 ≤ k ∧ k < H 6 r ∧ H 7 (8 * r + k) = H 4 r)
def WfH (L : Lb) (H : Hl) : Prop := (0 ≤ H 8 0 ∧ H 8 0 ≤ 999) ∧ (0 ≤ H 9 0 ∧ H 9 0 ≤ 9999) ∧ ∀ r, 0 ≤ r → r < nR L → WfO L H r
/-! ===== what is asked of them ===== -/
def sit (L : Lb) (H : Hl) (t : Int) : Int := smi (nR L).toNat (fun r => if H 1 r = t then 1 else 0)
def envS (L : Lb) (night r d s k ln pr : Int) : Int → Int := fun w => if w = 3 then ln else if w = 15 then pr else if w = 7 then L 5 r else if w = 8 then L 6 r else if w = 16 then k else if w = 10 then d else if w = 17 then s else if w = 11 then L 25 0 else if w = 18 then night else 0
def takS (L : Lb) (R : Rl) (night r p d s k : Int) : Int := if R 1 = [] then L 2 p else max 1 (min 500 (ev (envS L night r d s k (L 2 p) (L 3 p)) (R 1)))
def burS (L : Lb) (R : Rl) (night r d s k : Int) : Int := if R 0 = [] then L 25 0 else max 0 (min 500 (ev (envS L night r d s k 0 0) (R 0)))
def telS (L : Lb) (R : Rl) (night r p d s k : Int) : Prop := R 2 = [] ∨ ¬ ev (envS L night r d s k (L 2 p) (L 3 p)) (R 2) = 0
theorem takS_in {L : Lb} {R : Rl} (hL : WfL L) {night r p d s k : Int} (hp : 0 ≤ p ∧ p < nP L) : 1 ≤ takS L R night r p d s k ∧ takS L R night r p d s k ≤ 500 := by
  unfold takS
  have := (hL.2.2.2.2.2.2.2.1 p hp.1 hp.2).2.1
  split <;> omega
theorem burS_in {L : Lb} {R : Rl} (hL : WfL L) {night r d s k : Int} : 0 ≤ burS L R night r d s k ∧ burS L R night r d s k ≤ 500 := by
  unfold burS
  have := hL.2.2.2.2.2.1
  split <;> omega
/-- the values that a rule may ask for, all within a million -/
def envB (L : Lb) (night r d s k ln pr : Int) : Prop := mil night ∧ mil d ∧ mil s ∧ mil k ∧ mil ln ∧ mil pr ∧ (0 ≤ r ∧ r < nR L)
theorem envS_ok {L : Lb} (hL : WfL L) {night r d s k ln pr : Int} (h : envB L night r d s k ln pr) : envOk (envS L night r d s k ln pr) := by
  intro c hc
  obtain ⟨h1, h2, h3, h4, h5, h6, h7⟩ := h
  have a := hL.2.2.2.2.2.2.2.2.1 r h7.1 h7.2
  have b := hL.2.2.2.2.2.1
  rcases hc with rfl | rfl | rfl | rfl | rfl | rfl | rfl | rfl | rfl
  · exact h5
  · show mil (L 5 r); omega
  · show mil (L 6 r); omega
  · exact h2
  · show mil (L 25 0); omega
  · exact h6
  · exact h4
  · exact h3
  · exact h1
/-! ===== the class's sums ===== -/
/-- what its row of values holds for a reader at a table -/
def vals (I : Nat → Nat → Int32) (L : Lb) (night r d s k : Int) : Prop := gi I 38 7 = L 5 r ∧ gi I 38 8 = L 6 r ∧ gi I 38 16 = k ∧ gi I 38 10 = d ∧ gi I 38 17 = s ∧ gi I 38 11 = L 25 0 ∧ gi I 38 18 = night
theorem vals_set {I : Nat → Nat → Int32} {L : Lb} {night r d s k z7 z8 z11 : Int} (h7 : z7 = L 5 r) (h8 : z8 = L 6 r) (h11 : z11 = L 25 0) (i7 : inR z7) (i8 : inR z8) (i11 : inR z11) (ik : inR k) (id : inR d) (is : inR s) (in' : inR night) : vals (si (si (si (si (si (si (si I 38 7 z7) 38 8 z8) 38 16 k) 38 10 d) 38 17 s) 38 11 z11) 38 18 night) L night r d s k := by
  subst h7; subst h8; subst h11
  refine ⟨?_, ?_, ?_, ?_, ?_, ?_, ?_⟩
  all_goals simp only [gi_si _ _ _ _ _ i7, gi_si _ _ _ _ _ i8, gi_si _ _ _ _ _ i11, gi_si _ _ _ _ _ ik, gi_si _ _ _ _ _ id, gi_si _ _ _ _ _ is, gi_si _ _ _ _ _ in']
  all_goals simp
theorem vals_fr {I I' : Nat → Nat → Int32} {L : Lb} {night r d s k : Int} (e : I' 38 = I 38) (h : vals I L night r d s k) : vals I' L night r d s k := by
  unfold vals at *
  rw [gi_row e]
  exact h
/-! ===== the library as the class holds it, and what keeps it ===== -/
def sameL (I I' : Nat → Nat → Int32) : Prop := ∀ c, 5 ≤ c → c ≤ 18 → I' c = I c
def CL (I : Nat → Nat → Int32) (L : Lb) (R : Rl) : Prop := LC I = L ∧ RC I = R ∧ rgC I ∧ WfL L ∧ WfR R
theorem LC_fr {I I' : Nat → Nat → Int32} (h : sameL I I') : LC I' = LC I := by
  unfold LC
  rw [gi_row (h 5 (by decide) (by decide)), gi_row (h 6 (by decide) (by decide)), gi_row (h 8 (by decide) (by decide)), gi_row (h 9 (by decide) (by decide)), gi_row (h 10 (by decide) (by decide)), gi_row (h 11 (by decide) (by decide)), gi_row (h 13 (by decide) (by decide)), gi_row (h 14 (by decide) (by decide)), gi_row (h 15 (by decide) (by decide))]
theorem CL.fr {I I' : Nat → Nat → Int32} {L : Lb} {R : Rl} (hC : CL I L R) (h : sameL I I') : CL I' L R := by
  obtain ⟨h1, h2, h3, h4⟩ := hC
  refine ⟨(LC_fr h).trans h1, ?_, ?_, h4⟩
  · rw [← h2]
    unfold RC
    rw [gi_row (h 16 (by decide) (by decide)), gi_row (h 17 (by decide) (by decide)), gi_row (h 18 (by decide) (by decide))]
  · unfold rgC at *
    rw [gi_row (h 17 (by decide) (by decide)), gi_row (h 18 (by decide) (by decide))]
    exact h3
theorem Fr.lib {cs : List Nat} {fs : List (Nat × Nat)} {I I' : Nat → Nat → Int32} (h : Fr cs fs I I') (h1 : ∀ c ∈ cs, ¬ (5 ≤ c ∧ c ≤ 18)) (h2 : ∀ q ∈ fs, ¬ (5 ≤ q.1 ∧ q.1 ≤ 18)) : sameL I I' := fun c a b => h.cell c (fun q => h1 c q ⟨a, b⟩) (fun q hq e => h2 q hq (by omega))
theorem S_X9_run {k : Nat} {P : Option Nat} {I : Nat → Nat → Int32} {J : Nat → Nat → Int64} {Q : Option AV → Mem → Prop} {L : Lb} {R : Rl} {night r d s kn ln pr : Int} (ρ : Nat) (hk : 3 ≤ k) (hρ : ρ < 3) (hr : 0 < gi I 18 ρ) (hC : CL I L R) (hv : vals I L night r d s kn) (h3 : gi I 38 3 = ln) (h15 : gi I 38 15 = pr) (hB : envB L night r d s kn ln pr) (hQ : ¬ R ρ = [] → mil (ev (envS L night r d s kn ln pr) (R ρ)) → (decide (ρ = 2) = true → o1 (ev (envS L night r d s kn ln pr) (R ρ))) → ∀ I', Fr [37] [] I I' → Q (some (vI (ev (envS L night r d s kn ln pr) (R ρ)))) (mem (rv0 P) I' J)) : WPm k LAY m_X9_run [vR (some 36), vI (ρ : Int)] (mem (rv0 P) I J) Q := by
  obtain ⟨hLC, hRC, hg, hL, hR⟩ := hC
  refine WPm.of k_X9_run.1 (Nat.le_of_ble_eq_true rfl) (B_X9_run_0 (by omega) ⟨⟨by omega, by omega⟩, ?_⟩)
  rw [Int.toNat_natCast]
  obtain ⟨f0, f1, f2⟩ : 0 ≤ gi I 17 ρ ∧ gi I 17 ρ < gi I 18 ρ ∧ gi I 18 ρ ≤ 1600 := (hg ρ hρ).elim (fun q => absurd hr (by omega)) id
  have hc : RC I ρ = (List.range' (gi I 17 ρ).toNat ((gi I 18 ρ).toNat - (gi I 17 ρ).toNat)).map (gi I 16) := if_pos ⟨hρ, hr⟩
  rw [hRC] at hc
  have hlen : (R ρ).length = (gi I 18 ρ).toNat - (gi I 17 ρ).toNat := by rw [hc]; simp
  have hne : ¬ R ρ = [] := fun e => by rw [e] at hlen; simp at hlen; omega
  have ht : tok (decide (ρ = 2)) (R ρ) [] := (hR ρ hρ).elim (fun q => absurd q hne) id
  have hF0 : Fr [37] [] I (si I 37 0 0) := (Fr.rf _ _ I).up 37 0 0 (Or.inl (by decide))
  refine run_loop (by omega) (envS_ok hL hB) (min (gi I 18 ρ) 1600) (by omega) (R ρ) [] [] (gi I 17 ρ).toNat _ _ _ ht trivial (by simp) trivial ?_ (by omega) rfl (by omega) ?_ ?_
  · rw [gi_row (hF0.cell 16 (by decide) (by simp)), hc]
    exact cds_map _ _ _
  · intro c hc
    rw [gi_row (hF0.cell 38 (by decide) (by simp))]
    obtain ⟨v1, v2, v3, v4, v5, v6, v7⟩ := hv
    rcases hc with rfl | rfl | rfl | rfl | rfl | rfl | rfl | rfl | rfl
    · exact h3
    · exact v1
    · exact v2
    · exact v4
    · exact v6
    · exact h15
    · exact v3
    · exact v5
    · exact v7
  · intro I' hF
    have hty := evs_ty (envS_ok hL hB) (R ρ) [] [] ht trivial
    exact hQ hne hty.1 hty.2 I' (hF0.tr hF)
theorem RC_none {I : Nat → Nat → Int32} {L : Lb} {R : Rl} (hC : CL I L R) (ρ : Nat) (hρ : ρ < 3) : R ρ = [] ↔ ¬ 0 < gi I 18 ρ := by
  obtain ⟨-, hRC, hg, -, -⟩ := hC
  rw [← hRC]
  unfold RC
  by_cases h : 0 < gi I 18 ρ
  · rw [if_pos ⟨hρ, h⟩]
    have := (hg ρ hρ).elim (fun q => absurd h (by omega)) id
    simp [h]
    omega
  · rw [if_neg (fun q => h q.2)]
    simp [h]
theorem vals_2 {I : Nat → Nat → Int32} {L : Lb} {night r d s kn a b : Int} (ha : inR a) (hb : inR b) (h : vals I L night r d s kn) : vals (si (si I 38 3 a) 38 15 b) L night r d s kn ∧ gi (si (si I 38 3 a) 38 15 b) 38 3 = a ∧ gi (si (si I 38 3 a) 38 15 b) 38 15 = b := by
  obtain ⟨v1, v2, v3, v4, v5, v6, v7⟩ := h
  refine ⟨⟨?_, ?_, ?_, ?_, ?_, ?_, ?_⟩, ?_, ?_⟩
  all_goals simp only [gi_si _ _ _ _ _ ha, gi_si _ _ _ _ _ hb]
  all_goals simp [*]
theorem Fr2 (I : Nat → Nat → Int32) (a b : Int) : Fr [37, 38] [] I (si (si I 38 3 a) 38 15 b) := ((Fr.rf _ _ I).up 38 3 a (Or.inl (by decide))).up 38 15 b (Or.inl (by decide))
theorem S_X9_inch {k : Nat} {P : Option Nat} {I : Nat → Nat → Int32} {J : Nat → Nat → Int64} {Q : Option AV → Mem → Prop} {L : Lb} {R : Rl} {night r d s kn : Int} (hk : 4 ≤ k) (hC : CL I L R) (hv : vals I L night r d s kn) (hB : envB L night r d s kn 0 0) (hQ : ∀ I', Fr [37, 38] [] I I' → Q (some (vI (burS L R night r d s kn))) (mem (rv0 P) I' J)) : WPm k LAY m_X9_inchMinutes [vR (some 36)] (mem (rv0 P) I J) Q := by
  refine WPm.of k_X9_inchMinutes.1 (Nat.le_of_ble_eq_true rfl) (B_X9_inchMinutes_0 (by omega) ⟨fun q => ?_, fun q => ?_⟩)
  · have q0 : 0 < gi I 18 0 := q
    have hF := Fr2 I 0 0
    obtain ⟨w1, w2, w3⟩ := vals_2 (a := 0) (b := 0) (by decide) (by decide) hv
    refine S_X9_run (L := L) (R := R) 0 (by omega) (by decide) (by rw [gi_row (hF.cell 18 (by decide) (by simp))]; exact q0) (hC.fr (hF.lib (by decide) (by decide))) w1 w2 w3 hB (fun hne hmi _ I' hF' => ⟨_, _, _, rfl, rfl, ?_⟩)
    have hm := hQ I' (hF.tr (hF'.mono (by simp) (by simp)))
    unfold burS at hm
    rw [if_neg hne] at hm
    exact ⟨⟨by omega, by omega⟩, hm⟩
  · have e : R 0 = [] := (RC_none hC 0 (by decide)).mpr q
    have hm := hQ I (Fr.rf _ _ _)
    unfold burS at hm
    rw [if_pos e, ← hC.1] at hm
    exact hm
theorem S_X9_page {k : Nat} {P : Option Nat} {I : Nat → Nat → Int32} {J : Nat → Nat → Int64} {Q : Option AV → Mem → Prop} {L : Lb} {R : Rl} {night r d s kn p : Int} (hk : 4 ≤ k) (hC : CL I L R) (hv : vals I L night r d s kn) (hp : 0 ≤ p ∧ p < nP L) (hB : envB L night r d s kn 0 0) (hQ : ∀ I', Fr [37, 38] [] I I' → Q (some (vI (takS L R night r p d s kn))) (mem (rv0 P) I' J)) : WPm k LAY m_X9_pageMinutes [vR (some 36), vI p] (mem (rv0 P) I J) Q := by
  have hL := hC.2.2.2.1
  have e2 : gi I 9 (p).toNat = L 2 p := by
    rw [← hC.1]
    exact (tr_in (by rw [← hC.1] at hp; exact hp)).symm
  have e3 : gi I 10 (p).toNat = L 3 p := by
    rw [← hC.1]
    exact (tr_in (by rw [← hC.1] at hp; exact hp)).symm
  have hP := hL.2.2.2.2.2.2.2.1 p hp.1 hp.2
  have hn := hL.2.1
  refine WPm.of k_X9_pageMinutes.1 (Nat.le_of_ble_eq_true rfl) (B_X9_pageMinutes_0 (by omega) ?_)
  rw [e2, e3]
  refine ⟨fun q => ⟨⟨by omega, by omega⟩, ?_⟩, fun q => ⟨⟨by omega, by omega⟩, ?_⟩⟩
  · have q0 : 0 < gi I 18 1 := q
    have hF := Fr2 I (L 2 p) (L 3 p)
    obtain ⟨w1, w2, w3⟩ := vals_2 (a := L 2 p) (b := L 3 p) ⟨by omega, by omega⟩ ⟨by omega, by omega⟩ hv
    refine S_X9_run (L := L) (R := R) 1 (by omega) (by decide) (by rw [gi_row (hF.cell 18 (by decide) (by simp))]; exact q0) (hC.fr (hF.lib (by decide) (by decide))) w1 w2 w3 ⟨hB.1, hB.2.1, hB.2.2.1, hB.2.2.2.1, ⟨by omega, by omega⟩, ⟨by omega, by omega⟩, hB.2.2.2.2.2.2⟩ (fun hne hmi _ I' hF' => ⟨_, _, _, rfl, rfl, ?_⟩)
    have hm := hQ I' (hF.tr (hF'.mono (by simp) (by simp)))
    unfold takS at hm
    rw [if_neg hne] at hm
    exact ⟨⟨by omega, by omega⟩, hm⟩
  · have e : R 1 = [] := (RC_none hC 1 (by decide)).mpr q
    have hm := hQ I (Fr.rf _ _ _)
    unfold takS at hm
    rw [if_pos e] at hm
    exact hm
end ABSS

section CONT
/-! ===== what a text tells, as it is told ===== -/
abbrev Lt : Type := Nat → Nat → Int
abbrev Nt : Type := Nat → Nat → List Nat
abbrev Rt : Type := Nat → List Int
def fNm (k : Nat) : Nat := if k = 0 then 0 else if k = 1 then 5 else if k = 2 then 19 else 25
def cpc (k : Nat) : Nat := if k = 0 then 5 else if k = 1 then 14 else if k = 2 then 6 else 5
def nml (r : List Nat) (j : Nat) : Int := if j < r.length then ((r.getD (r.length - 1 - j) 0 : Nat) : Int) - 96 else 0
def nmS (I : Nat → Nat → Int32) (k i : Nat) (r : List Nat) : Prop := ∀ j, j < 6 → gi I 24 ((fNm k + i) * 6 + j) = nml r j
def SCs (I : Nat → Nat → Int32) (L : Lt) (N : Nt) (R : Rt) (q : Nat) : Prop := (∀ k, k < 4 → gi I 23 k = L 0 k) ∧ gi I 22 14 = L 0 4 ∧ gi I 22 15 = L 0 5 ∧ (∀ i, i < 14 → gi I 27 i = L 3 i ∧ gi I 28 i = L 4 i) ∧ (∀ i : Nat, (i : Int) < L 0 1 → gi I 25 i = L 1 i ∧ gi I 26 i = L 2 i) ∧ (∀ i : Nat, (i : Int) < L 0 2 → gi I 30 i = L 5 i ∧ gi I 31 i = L 6 i) ∧ (∀ i : Nat, (i : Int) < L 0 3 → gi I 32 i = L 7 i) ∧ (∀ k i : Nat, k < 4 → (i : Int) < L 0 k → nmS I k i (N k i)) ∧ (∀ ρ, ρ < 3 → (R ρ = [] ∧ gi I 35 ρ = 0) ∨ (R ρ ≠ [] ∧ ∃ a : Nat, gi I 34 ρ = (a : Int) ∧ gi I 35 ρ = ((a + (R ρ).length : Nat) : Int) ∧ a + (R ρ).length ≤ q ∧ cds (gi I 33) a (R ρ))) ∧ gi I 22 13 = (q : Int)
def nmb (J : Nat → Nat → Int64) (b k i : Nat) : Int := if k = 0 then gl J 97 (5 * b + i) else if k = 1 then gl J 98 (14 * b + i) else if k = 2 then gl J 99 (6 * b + i) else gl J 100 (5 * b + i)
def SRs (I : Nat → Nat → Int32) (J : Nat → Nat → Int64) (b : Nat) (L : Lt) (N : Nt) (R : Rt) (cd : Nat) : Prop := (gi I 76 b = L 0 0 ∧ gi I 77 b = L 0 1 ∧ gi I 83 b = L 0 2 ∧ gi I 86 b = L 0 3 ∧ gi I 82 b = L 0 4 ∧ gi I 88 b = L 0 5) ∧ (∀ i : Nat, (i : Int) < L 0 1 → gi I 78 (14 * b + i) = L 1 i ∧ gi I 79 (14 * b + i) = L 2 i ∧ gi I 80 (14 * b + i) = L 3 i ∧ gi I 81 (14 * b + i) = L 4 i) ∧ (∀ i : Nat, (i : Int) < L 0 2 → gi I 84 (6 * b + i) = L 5 i ∧ gi I 85 (6 * b + i) = L 6 i) ∧ (∀ i : Nat, (i : Int) < L 0 3 → gi I 87 (5 * b + i) = L 7 i) ∧ (∀ k i : Nat, k < 4 → (i : Int) < L 0 k → nmb J b k i = ((pkN (N k i) : Nat) : Int)) ∧ (∀ ρ, ρ < 3 → (R ρ = [] ∧ gi I (89 + 2 * ρ) b = -1) ∨ (R ρ ≠ [] ∧ ∃ a : Nat, gi I (89 + 2 * ρ) b = (a : Int) ∧ gi I (90 + 2 * ρ) b = ((a + (R ρ).length : Nat) : Int) ∧ a + (R ρ).length ≤ cd ∧ cds (encR I) (1600 * b + a) (R ρ))) ∧ gi I 74 39 = (cd : Int)
/-- what is always kept -/
def WL (L : Lt) (N : Nt) (R : Rt) : Prop := ((0 ≤ L 0 0 ∧ L 0 0 ≤ 5) ∧ (0 ≤ L 0 1 ∧ L 0 1 ≤ 14) ∧ (0 ≤ L 0 2 ∧ L 0 2 ≤ 6) ∧ (0 ≤ L 0 3 ∧ L 0 3 ≤ 5) ∧ (0 ≤ L 0 4 ∧ L 0 4 ≤ 20) ∧ (10 ≤ L 0 5 ∧ L 0 5 ≤ 120)) ∧ (∀ i : Nat, (i : Int) < L 0 1 → (0 ≤ L 1 i ∧ L 1 i < L 0 0) ∧ (1 ≤ L 2 i ∧ L 2 i ≤ 99) ∧ (0 ≤ L 3 i ∧ L 3 i ≤ 1) ∧ (0 ≤ L 4 i ∧ (L 4 i).toNat < 2 ^ i)) ∧ (∀ i : Nat, (i : Int) < L 0 2 → (1 ≤ L 5 i ∧ L 5 i ≤ 9) ∧ (0 ≤ L 6 i ∧ L 6 i ≤ 9)) ∧ (∀ i : Nat, (i : Int) < L 0 3 → 0 ≤ L 7 i ∧ L 7 i ≤ 9) ∧ (∀ i : Nat, L 0 1 ≤ (i : Int) → L 3 i = 0 ∧ L 4 i = 0) ∧ (∀ k i : Nat, k < 4 → (i : Int) < L 0 k → nmOk (N k i)) ∧ (∀ ρ, ρ < 3 → R ρ = [] ∨ tok (decide (ρ = 2)) (R ρ) [])
theorem WL.c {L : Lt} {N : Nt} {R : Rt} (h : WL L N R) {k : Nat} (hk : k < 4) : 0 ≤ L 0 k ∧ L 0 k ≤ cpc k := by
  obtain ⟨⟨h0, h1, h2, h3, -⟩, -⟩ := h
  have e : k = 0 ∨ k = 1 ∨ k = 2 ∨ k = 3 := by omega
  rcases e with e | e | e | e <;> subst e
  · exact h0
  · exact h1
  · exact h2
  · exact h3
theorem SCs.fr {cs : List Nat} {fs : List (Nat × Nat)} {I I' : Nat → Nat → Int32} {L : Lt} {N : Nt} {R : Rt} {q : Nat} (h : SCs I L N R q) (hF : Fr cs fs I I') (h1 : ∀ c ∈ cs, ¬ (22 ≤ c ∧ c ≤ 35)) (h2 : ∀ t ∈ fs, ¬ (22 ≤ t.1 ∧ t.1 ≤ 35)) : SCs I' L N R q := by
  have e : ∀ c k, 22 ≤ c → c ≤ 35 → gi I' c k = gi I c k := fun c k a b => hF.gvc k (fun t => h1 c t ⟨a, b⟩) (fun t ht e => h2 t ht ⟨by omega, by omega⟩)
  obtain ⟨a1, a2, a3, a4, a5, a6, a7, a8, a9, a10⟩ := h
  refine ⟨fun k hk => by rw [e 23 k (by decide) (by decide)]; exact a1 k hk, by rw [e 22 14 (by decide) (by decide)]; exact a2, by rw [e 22 15 (by decide) (by decide)]; exact a3, fun i hi => by rw [e 27 i (by decide) (by decide), e 28 i (by decide) (by decide)]; exact a4 i hi, fun i hi => by rw [e 25 i (by decide) (by decide), e 26 i (by decide) (by decide)]; exact a5 i hi, fun i hi => by rw [e 30 i (by decide) (by decide), e 31 i (by decide) (by decide)]; exact a6 i hi, fun i hi => by rw [e 32 i (by decide) (by decide)]; exact a7 i hi, fun k i hk hi j hj => by rw [e 24 _ (by decide) (by decide)]; exact a8 k i hk hi j hj, fun ρ hρ => ?_, by rw [e 22 13 (by decide) (by decide)]; exact a10⟩
  rcases a9 ρ hρ with ⟨b1, b2⟩ | ⟨b1, a, b2, b3, b4, b5⟩
  · exact Or.inl ⟨b1, by rw [e 35 ρ (by decide) (by decide)]; exact b2⟩
  · exact Or.inr ⟨b1, a, by rw [e 34 ρ (by decide) (by decide)]; exact b2, by rw [e 35 ρ (by decide) (by decide)]; exact b3, b4, cds_congr (fun i _ _ => (e 33 i (by decide) (by decide)).symm) b5⟩
/-- the reference's own bank -/
def inb (b c k : Nat) : Prop := ((78 ≤ c ∧ c ≤ 81) ∧ 14 * b ≤ k ∧ k < 14 * b + 14) ∨ ((84 ≤ c ∧ c ≤ 85) ∧ 6 * b ≤ k ∧ k < 6 * b + 6) ∨ (c = 87 ∧ 5 * b ≤ k ∧ k < 5 * b + 5) ∨ ((95 ≤ c ∧ c ≤ 96) ∧ 1600 * b ≤ k ∧ k < 1600 * b + 1600) ∨ ((c = 76 ∨ c = 77 ∨ c = 82 ∨ c = 83 ∨ c = 86 ∨ (88 ≤ c ∧ c ≤ 94)) ∧ k = b)
def inJ (b c k : Nat) : Prop := ((c = 97 ∨ c = 100) ∧ 5 * b ≤ k ∧ k < 5 * b + 5) ∨ (c = 98 ∧ 14 * b ≤ k ∧ k < 14 * b + 14) ∨ (c = 99 ∧ 6 * b ≤ k ∧ k < 6 * b + 6) ∨ (c = 74 ∧ k = 7)
def FrB (b : Nat) (I I' : Nat → Nat → Int32) : Prop := ∀ c k, ¬ inb b c k → ¬ (101 ≤ c ∧ c ≤ 106) → (c, k) ∉ FLq → I' c k = I c k
def FrJ (b : Nat) (J J' : Nat → Nat → Int64) : Prop := ∀ c k, ¬ inJ b c k → J' c k = J c k
theorem FrB.rf (b : Nat) (I : Nat → Nat → Int32) : FrB b I I := fun _ _ _ _ _ => rfl
theorem FrJ.rf (b : Nat) (J : Nat → Nat → Int64) : FrJ b J J := fun _ _ _ => rfl
theorem FrB.tr {b : Nat} {I I1 I2 : Nat → Nat → Int32} (h1 : FrB b I I1) (h2 : FrB b I1 I2) : FrB b I I2 := fun c k x y z => (h2 c k x y z).trans (h1 c k x y z)
theorem FrJ.tr {b : Nat} {J J1 J2 : Nat → Nat → Int64} (h1 : FrJ b J J1) (h2 : FrJ b J1 J2) : FrJ b J J2 := fun c k x => (h2 c k x).trans (h1 c k x)
theorem FrB.up {b : Nat} {I I' : Nat → Nat → Int32} (h : FrB b I I') (c k : Nat) (z : Int) (hc : inb b c k ∨ (101 ≤ c ∧ c ≤ 106) ∨ (c, k) ∈ FLq) : FrB b I (si I' c k z) := fun c' k' x y w => by
  rw [← h c' k' x y w]
  by_cases h1 : c' = c
  · subst h1
    by_cases h2 : k' = k
    · subst h2
      rcases hc with t | t | t
      · exact absurd t x
      · exact absurd t y
      · exact absurd t w
    · simp [si, up2, h2]
  · simp [si, up2, h1]
def FrBe (b : Nat) (I I' : Nat → Nat → Int32) : Prop := ∀ c k, ¬ inb b c k → ¬ (101 ≤ c ∧ c ≤ 106) → (c, k) ∉ FLqe → I' c k = I c k
theorem FrB.e {b : Nat} {I I' : Nat → Nat → Int32} (h : FrB b I I') : FrBe b I I' := fun c k x y w => h c k x y (fun t => w (qe_mem t))
theorem FrBe.rf (b : Nat) (I : Nat → Nat → Int32) : FrBe b I I := fun _ _ _ _ _ => rfl
theorem FrBe.tr {b : Nat} {I I1 I2 : Nat → Nat → Int32} (h1 : FrBe b I I1) (h2 : FrBe b I1 I2) : FrBe b I I2 := fun c k x y z => (h2 c k x y z).trans (h1 c k x y z)
theorem FrBe.up {b : Nat} {I I' : Nat → Nat → Int32} (h : FrBe b I I') (c k : Nat) (z : Int) (hc : inb b c k ∨ (101 ≤ c ∧ c ≤ 106) ∨ (c, k) ∈ FLqe) : FrBe b I (si I' c k z) := fun c' k' x y w => by
  rw [← h c' k' x y w]
  by_cases h1 : c' = c
  · subst h1
    by_cases h2 : k' = k
    · subst h2
      rcases hc with t | t | t
      · exact absurd t x
      · exact absurd t y
      · exact absurd t w
    · simp [si, up2, h2]
  · simp [si, up2, h1]
theorem FrJ.up {b : Nat} {J J' : Nat → Nat → Int64} (h : FrJ b J J') (c k : Nat) (z : Int) (hc : inJ b c k) : FrJ b J (sl J' c k z) := fun c' k' x => by
  rw [← h c' k' x]
  by_cases h1 : c' = c
  · subst h1
    by_cases h2 : k' = k
    · subst h2
      exact absurd hc x
    · simp [sl, up2, h2]
  · simp [sl, up2, h1]
theorem Fr.b {I I' : Nat → Nat → Int32} (b : Nat) (h : Fr [] FLq I I') : FrB b I I' := fun c k _ _ w => h c k (fun t => by cases t) w
theorem RKx.b {b w : Nat} {I I' : Nat → Nat → Int32} (h : RKx I I' w (1600 * b + 1600)) (hw : 1600 * b ≤ w) : FrBe b I I' := fun c k x y z => by
  by_cases h1 : c = 95 ∨ c = 96
  · have hk : k < 1600 * b ∨ 1600 * b + 1600 ≤ k := by
      unfold inb at x
      omega
    have := h.2 k (by omega)
    rcases h1 with e | e <;> subst e
    · exact Int32.toInt_inj.mp this.1
    · exact Int32.toInt_inj.mp this.2
  · exact h.1 c k (fun t => by
      simp only [List.mem_cons, List.not_mem_nil, or_false] at t
      omega) z
theorem RKe.b {b w : Nat} {I I' : Nat → Nat → Int32} (h : RKe I I' w (1600 * b + 1600)) (hw : 1600 * b ≤ w) : FrB b I I' := fun c k x y z => by
  by_cases h1 : c = 95 ∨ c = 96
  · have hk : k < 1600 * b ∨ 1600 * b + 1600 ≤ k := by
      unfold inb at x
      omega
    have := h.2 k (by omega)
    rcases h1 with e | e <;> subst e
    · exact Int32.toInt_inj.mp this.1
    · exact Int32.toInt_inj.mp this.2
  · exact h.1 c k (fun t => by
      simp only [List.mem_cons, List.not_mem_nil, or_false] at t
      omega) z
theorem Fr.j {J J' : Nat → Nat → Int64} (b : Nat) (h : Fr [] [(74, 7)] J J') : FrJ b J J' := fun c k x => h c k (fun t => by cases t) (fun t => by
  simp only [List.mem_cons, List.not_mem_nil, or_false, Prod.mk.injEq] at t
  exact x (Or.inr (Or.inr (Or.inr t))))
/-- the bank is not touched -/
theorem SRs.fr {I I' : Nat → Nat → Int32} {J J' : Nat → Nat → Int64} {b : Nat} {L : Lt} {N : Nt} {R : Rt} {cd : Nat} (h : SRs I J b L N R cd) (hF : ∀ c k, 76 ≤ c → c ≤ 96 → gi I' c k = gi I c k) (hJ : ∀ c k, 97 ≤ c → c ≤ 100 → gl J' c k = gl J c k) (h39 : gi I' 74 39 = gi I 74 39) : SRs I' J' b L N R cd := by
  obtain ⟨⟨a1, a2, a3, a4, a5, a6⟩, b1, b2, b3, b4, b5, b6⟩ := h
  refine ⟨⟨by rw [hF _ _ (by decide) (by decide)]; exact a1, by rw [hF _ _ (by decide) (by decide)]; exact a2, by rw [hF _ _ (by decide) (by decide)]; exact a3, by rw [hF _ _ (by decide) (by decide)]; exact a4, by rw [hF _ _ (by decide) (by decide)]; exact a5, by rw [hF _ _ (by decide) (by decide)]; exact a6⟩, fun i hi => ?_, fun i hi => ?_, fun i hi => ?_, fun k i hk hi => ?_, fun ρ hρ => ?_, by rw [h39]; exact b6⟩
  · rw [hF _ _ (by decide) (by decide), hF _ _ (by decide) (by decide), hF _ _ (by decide) (by decide), hF _ _ (by decide) (by decide)]
    exact b1 i hi
  · rw [hF _ _ (by decide) (by decide), hF _ _ (by decide) (by decide)]
    exact b2 i hi
  · rw [hF _ _ (by decide) (by decide)]
    exact b3 i hi
  · rw [← b4 k i hk hi]
    unfold nmb
    rw [hJ _ _ (by decide) (by decide), hJ _ _ (by decide) (by decide), hJ _ _ (by decide) (by decide), hJ _ _ (by decide) (by decide)]
  · rcases b5 ρ hρ with ⟨c1, c2⟩ | ⟨c1, a, c2, c3, c4, c5⟩
    · exact Or.inl ⟨c1, by rw [hF _ _ (by omega) (by omega)]; exact c2⟩
    · refine Or.inr ⟨c1, a, by rw [hF _ _ (by omega) (by omega)]; exact c2, by rw [hF _ _ (by omega) (by omega)]; exact c3, c4, cds_congr (fun i _ _ => ?_) c5⟩
      unfold encR
      rw [hF _ _ (by decide) (by decide), hF _ _ (by decide) (by decide)]
/-! which one has a name -/
def fdF (f : Nat → List Nat) (r : List Nat) : Nat → Nat → Int
  | 0, _ => -1
  | d + 1, i => if f i = r then (i : Int) else fdF f r d (i + 1)
def fd (f : Nat → List Nat) (n : Int) (r : List Nat) : Int := fdF f r n.toNat 0
theorem fdF_in {f : Nat → List Nat} {r : List Nat} : ∀ (d i : Nat), fdF f r d i = -1 ∨ ((i : Int) ≤ fdF f r d i ∧ fdF f r d i < i + d)
  | 0, i => Or.inl rfl
  | d + 1, i => by
    rw [fdF]
    by_cases e : f i = r
    · rw [if_pos e]; omega
    · rw [if_neg e]
      rcases fdF_in (f := f) (r := r) d (i + 1) with h | h
      · exact Or.inl h
      · omega
theorem fd_in (f : Nat → List Nat) {n : Int} (hn : 0 ≤ n) (r : List Nat) : fd f n r = -1 ∨ (0 ≤ fd f n r ∧ fd f n r < n) := by
  have := fdF_in (f := f) (r := r) n.toNat 0
  unfold fd
  omega
theorem nml_eq {r r' : List Nat} (h : nmOk r) (h' : nmOk r') : (∀ j, j < 6 → nml r j = nml r' j) ↔ r = r' := by
  constructor
  · intro q
    have hl : r.length = r'.length := by
      by_cases c : r.length < r'.length
      · have := q r.length (by have := h'.1.2; omega)
        unfold nml at this
        rw [if_neg (Nat.lt_irrefl _), if_pos c] at this
        have h2 := h'.2 (r'.getD (r'.length - 1 - r.length) 0) (by
          rw [List.getD_eq_getElem?_getD, List.getElem?_eq_getElem (show r'.length - 1 - r.length < r'.length by omega), Option.getD_some]
          exact List.getElem_mem _)
        omega
      · by_cases c2 : r'.length < r.length
        · have := q r'.length (by have := h.1.2; omega)
          unfold nml at this
          rw [if_pos c2, if_neg (Nat.lt_irrefl _)] at this
          have h2 := h.2 (r.getD (r.length - 1 - r'.length) 0) (by
            rw [List.getD_eq_getElem?_getD, List.getElem?_eq_getElem (show r.length - 1 - r'.length < r.length by omega), Option.getD_some]
            exact List.getElem_mem _)
          omega
        · omega
    refine List.ext_getElem hl (fun i h1 h2 => ?_)
    have := q (r.length - 1 - i) (by have := h.1.2; omega)
    unfold nml at this
    rw [if_pos (by omega), if_pos (by omega), show r.length - 1 - (r.length - 1 - i) = i by omega, show r'.length - 1 - (r.length - 1 - i) = i by omega, List.getD_eq_getElem?_getD, List.getD_eq_getElem?_getD, List.getElem?_eq_getElem h1, List.getElem?_eq_getElem h2, Option.getD_some, Option.getD_some] at this
    omega
  · intro e
    rw [e]
    exact fun _ _ => rfl
/-- a name's token -/
def nmT (T : Nat → Int) (n p : Nat) : Prop := bd T n p = -1 ∧ kR T n p = 1 ∧ ow T n p = -1
theorem let_at {T : Nat → Int} {n p i : Nat} (ek : kR T n p = 1) (a : tS T n p ≤ i) (b : i < tE T n p) : 97 ≤ T i ∧ T i ≤ 122 := by
  unfold kR at ek
  unfold tE at b
  rcases rK_cases T n (tS T n p) with ⟨a', e, e2⟩ | ⟨a', b', e, e2⟩ | ⟨a', -, b', e, e2⟩ | ⟨a', b', c', e, e2⟩
  · omega
  · exact zL_t.mp (runS_all (p := tS T n p) (n := n) a (by rw [← e2]; exact b))
  · omega
  · omega
theorem nmT.ok {T : Nat → Int} {n p : Nat} (hp : p ≤ n) (h : nmT T n p) : nmOk (lR T n p) ∧ (lR T n p).length = tE T n p - tS T n p ∧ tE T n p - tS T n p ≤ 6 := by
  obtain ⟨h1, h2, h3⟩ := h
  have hg := tE_gt (T := T) hp (by omega)
  have hr := tE_rng (T := T) hp
  have hl : (lR T n p).length = tE T n p - tS T n p := ltR_len _ _ _
  have ng : ¬ glu T n p := fun q => by
    rw [bd_g q] at h1
    omega
  have h6 : tE T n p - tS T n p ≤ 6 := by
    rw [bd_n ng] at h1
    by_cases c : 6 < tE T n p - tS T n p
    · rw [if_pos ⟨h2, h3, c⟩] at h1
      omega
    · omega
  refine ⟨⟨by rw [hl]; omega, fun c hc => ?_⟩, hl, h6⟩
  obtain ⟨j, hj, e⟩ := ltR_mem hc
  have := let_at h2 (show tS T n p ≤ tS T n p + j by omega) (by omega)
  omega
/-- a token's letter, as the class asks for it -/
theorem lt_at {I : Nat → Nat → Int32} {T : Nat → Int} {n p j : Nat} (hX : TX T n) (hp : p ≤ n) (hC : CT I T n p) (h : kR T n p = 1) (hj : j < 6) : (gi I 1 4 ≤ gi I 1 3 + (j : Int) → nml (lR T n p) j = 0) ∧ (¬ gi I 1 4 ≤ gi I 1 3 + (j : Int) → byt I (gi I 1 3 + (j : Int)) - 97 + 1 = nml (lR T n p) j ∧ inR (byt I (gi I 1 3 + (j : Int)) - 97 + 1)) := by
  have hr := tE_rng (T := T) hp
  have hl : (lR T n p).length = tE T n p - tS T n p := ltR_len _ _ _
  rw [hC.2.2.1, hC.2.2.2.1]
  unfold nml
  rw [hl]
  refine ⟨fun q => by rw [if_neg (by omega)], fun q => ?_⟩
  rw [if_pos (by omega)]
  have hT := hC.1
  have e : byt I (((tS T n p : Nat) : Int) + (j : Int)) = T (tS T n p + j) := by
    unfold byt
    rw [hT.1, if_pos ⟨by omega, by omega⟩, show (((tS T n p : Nat) : Int) + (j : Int)).toNat = tS T n p + j by omega]
    exact hT.2 _ (by omega)
  have hb := let_at h (show tS T n p ≤ tS T n p + j by omega) (by omega)
  have hget : ∀ d i, i < d → (ltR T (tS T n p) d).getD (d - 1 - i) 0 = (T (tS T n p + i)).toNat := by
    intro d
    induction d with
    | zero => intro i hi; omega
    | succ d ih =>
      intro i hi
      rw [ltR]
      by_cases c : i = d
      · subst c
        rw [show i + 1 - 1 - i = 0 by omega]
        rfl
      · rw [show d + 1 - 1 - i = (d - 1 - i) + 1 by omega, List.getD_cons_succ]
        exact ih i (by omega)
  unfold lR
  rw [hget _ j (by omega), e]
  refine ⟨by omega, by unfold inR; omega⟩
end CONT

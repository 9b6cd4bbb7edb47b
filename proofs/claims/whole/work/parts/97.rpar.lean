section RPAR
/-! ===== the reference reads a rule: its frames and what it holds back ===== -/
def rk (x : Int) : Int := if x = 21 then 1 else if x = 20 then 2 else if x = 22 then 3 else if 17 ≤ x ∧ x ≤ 19 then 4 else if x = 10 ∨ x = 11 then 5 else 6
theorem S_rank {k : Nat} {P : Option Nat} {I : Nat → Nat → Int32} {J : Nat → Nat → Int64} {Q : Option AV → Mem → Prop} {x : Int} (hx : inR x) (h : ∀ v, v = rk x → Q (some (vI v)) (mem (P, some 5, some 22) I J)) : WPm k LAY m_X12_rank [vI x] (mem (P, some 5, some 22) I J) Q := by
  refine WPm.of k_X12_rank.1 (Nat.le_of_ble_eq_true rfl) (B_X12_rank_0 (Nat.zero_le k) ⟨hx, fun h1 => ⟨fun h2 => ⟨fun h3 => ⟨fun e => ?_, fun h4 => ⟨fun e => ?_, fun h5 => ⟨fun h6 => ⟨fun e => ?_, fun h7 => ⟨fun h8 => ?_, fun e => ?_⟩⟩, fun e => ?_⟩⟩⟩, fun e => ?_⟩, fun e => ?_⟩, fun e => ?_⟩)
  · exact h 4 (by subst e; rfl)
  · exact h 4 (by subst e; rfl)
  · exact h 5 (by subst e; rfl)
  · exact h 6 (by unfold rk; rw [if_neg h1, if_neg h2, if_neg h3, if_neg (by omega), if_neg (by omega)])
  · exact h 5 (by subst e; rfl)
  · exact h 4 (by subst e; rfl)
  · exact h 3 (by subst e; rfl)
  · exact h 2 (by subst e; rfl)
  · exact h 1 (by subst e; rfl)
theorem rk_in (x : Int) : 1 ≤ rk x ∧ rk x ≤ 6 := by
  unfold rk
  repeat' split
  all_goals omega
abbrev FLq : List (Nat × Nat) := [(74, 3), (74, 4), (74, 5), (74, 6), (74, 12), (74, 39), (74, 46), (74, 47), (74, 49), (74, 50)]
abbrev FLqe : List (Nat × Nat) := [(74, 3), (74, 4), (74, 5), (74, 6), (74, 8), (74, 9), (74, 12), (74, 39), (74, 46), (74, 47), (74, 49), (74, 50)]
theorem qe_mem {q : Nat × Nat} (hq : q ∈ FLq) : q ∈ FLqe := by
  simp only [List.mem_cons, List.not_mem_nil, or_false] at hq ⊢
  rcases hq with e | e | e | e | e | e | e | e | e | e <;> subst e <;> simp
abbrev CSq : List Nat := [95, 96, 101, 102, 103, 104, 105, 106]
def RKe (I I' : Nat → Nat → Int32) (w hi : Nat) : Prop := Fr CSq FLq I I' ∧ ∀ i, (i < w ∨ hi ≤ i) → gi I' 95 i = gi I 95 i ∧ gi I' 96 i = gi I 96 i
def RKx (I I' : Nat → Nat → Int32) (w hi : Nat) : Prop := Fr CSq FLqe I I' ∧ ∀ i, (i < w ∨ hi ≤ i) → gi I' 95 i = gi I 95 i ∧ gi I' 96 i = gi I 96 i
theorem RKe.x {I I' : Nat → Nat → Int32} {w hi : Nat} (h : RKe I I' w hi) : RKx I I' w hi := ⟨h.1.mono (fun _ t => t) (fun q hq => Or.inl (qe_mem hq)), h.2⟩
theorem RKx.tr {I I1 I2 : Nat → Nat → Int32} {w w' hi : Nat} (h1 : RKx I I1 w hi) (h2 : RKx I1 I2 w' hi) (hw : w ≤ w') : RKx I I2 w hi := ⟨h1.1.tr h2.1, fun i hi' => by
  have a := h1.2 i hi'
  have b := h2.2 i (by omega)
  rw [b.1, b.2, a.1, a.2]
  exact ⟨rfl, rfl⟩⟩
theorem RKx.fl {I I' : Nat → Nat → Int32} (w hi : Nat) (h : Fr [] FLqe I I') : RKx I I' w hi := ⟨h.mono (fun _ t => by cases t) (fun _ t => Or.inl t), fun i _ => ⟨h.gvc i (by decide) (by decide), h.gvc i (by decide) (by decide)⟩⟩
def RK (I I' : Nat → Nat → Int32) (f m w hi : Nat) : Prop := RKe I I' w hi ∧ (∀ i, i ≤ f → gi I' 101 i = gi I 101 i ∧ gi I' 104 i = gi I 104 i ∧ gi I' 105 i = gi I 105 i) ∧ (∀ i, i < f → gi I' 102 i = gi I 102 i ∧ gi I' 103 i = gi I 103 i) ∧ ∀ i, i < m → gi I' 106 i = gi I 106 i
theorem RKe.tr {I I1 I2 : Nat → Nat → Int32} {w w' hi : Nat} (h1 : RKe I I1 w hi) (h2 : RKe I1 I2 w' hi) (hw : w ≤ w') : RKe I I2 w hi := ⟨h1.1.tr h2.1, fun i hi' => by
  have a := h1.2 i hi'
  have b := h2.2 i (by omega)
  rw [b.1, b.2, a.1, a.2]
  exact ⟨rfl, rfl⟩⟩
theorem RK.tr {I I1 I2 : Nat → Nat → Int32} {f f' m m' w w' hi : Nat} (h1 : RK I I1 f m w hi) (h2 : RK I1 I2 f' m' w' hi) (hf : f ≤ f') (hm : m ≤ m') (hw : w ≤ w') : RK I I2 f m w hi := by
  refine ⟨h1.1.tr h2.1 hw, fun i q => ?_, fun i q => ?_, fun i q => ?_⟩
  · have a := h1.2.1 i q
    have b := h2.2.1 i (by omega)
    rw [b.1, b.2.1, b.2.2]
    exact a
  · have a := h1.2.2.1 i q
    have b := h2.2.2.1 i (by omega)
    rw [b.1, b.2]
    exact a
  · rw [h2.2.2.2 i (by omega), h1.2.2.2 i q]
theorem RK.rf (I : Nat → Nat → Int32) (f m w hi : Nat) : RK I I f m w hi := ⟨⟨Fr.rf _ _ _, fun _ _ => ⟨rfl, rfl⟩⟩, fun _ _ => ⟨rfl, rfl, rfl⟩, fun _ _ => ⟨rfl, rfl⟩, fun _ _ => rfl⟩
theorem RK.w {I I1 : Nat → Nat → Int32} {f m w w' hi : Nat} (h : RK I I1 f m w' hi) (hw : w ≤ w') : RK I I1 f m w hi := ⟨⟨h.1.1, fun i q => h.1.2 i (by omega)⟩, h.2⟩
/-- fields alone -/
theorem RK.fl {I I' : Nat → Nat → Int32} (f m w hi : Nat) (h : Fr [] FLq I I') : RK I I' f m w hi := ⟨⟨h.mono (fun _ t => by cases t) (fun _ t => Or.inl t), fun i _ => ⟨h.gvc i (by decide) (by decide), h.gvc i (by decide) (by decide)⟩⟩, fun i _ => ⟨h.gvc i (by decide) (by decide), h.gvc i (by decide) (by decide), h.gvc i (by decide) (by decide)⟩, fun i _ => ⟨h.gvc i (by decide) (by decide), h.gvc i (by decide) (by decide)⟩, fun i _ => h.gvc i (by decide) (by decide)⟩
theorem Fr.q {I I' : Nat → Nat → Int32} (h : Fr [] FLr I I') : Fr [] FLq I I' := h.mono (fun _ t => t) (fun q hq => Or.inl (by
  simp only [List.mem_cons, List.not_mem_nil, or_false] at hq ⊢
  rcases hq with e | e | e | e | e <;> subst e <;> simp))
def RS (I : Nat → Nat → Int32) (J : Nat → Nat → Int64) (T : Nat → Int) (n p b f o m cd : Nat) : Prop := RT I J T n p ∧ gi I 74 8 = 0 ∧ gi I 74 40 = (b : Int) ∧ gi I 74 46 = ((f + 1 : Nat) : Int) ∧ gi I 74 47 = (o : Int) ∧ gi I 74 49 = (m : Int) ∧ gi I 74 39 = (cd : Int)
def ctx (I : Nat → Nat → Int32) (f m : Nat) (c : Int) : Prop := 0 ≤ gi I 105 f ∧ gi I 105 f ≤ (m : Int) ∧ (gi I 105 f = (m : Int) ∨ rk (gi I 106 (m - 1)) < c)
theorem ctx.rk {I I' : Nat → Nat → Int32} {f m w hi : Nat} {c : Int} (h : ctx I f m c) (hK : RK I I' f m w hi) (hm : gi I 105 f = (m : Int) ∨ 0 < m) : ctx I' f m c := by
  unfold ctx at h ⊢
  rw [(hK.2.1 f (Nat.le_refl f)).2.2]
  refine ⟨h.1, h.2.1, ?_⟩
  rcases h.2.2 with q | q
  · exact Or.inl q
  · by_cases c0 : gi I 105 f = (m : Int)
    · exact Or.inl c0
    · rw [hK.2.2.2 (m - 1) (by rcases hm with t | t <;> omega)]
      exact Or.inr q
theorem ctx.pos {I : Nat → Nat → Int32} {f m : Nat} {c : Int} (h : ctx I f m c) : gi I 105 f = (m : Int) ∨ 0 < m := by
  rcases h.2.2 with q | q
  · exact Or.inl q
  · have := h.1
    have := h.2.1
    omega
def nots : List Int → Nat
  | [] => 0
  | x :: xs => nots xs + (if x = 22 then 1 else 0)
theorem nots_app (a b : List Int) : nots (a ++ b) = nots a + nots b := by
  induction a with
  | nil => exact (Nat.zero_add _).symm
  | cons x a ih =>
    show nots (a ++ b) + _ = nots a + _ + nots b
    rw [ih]
    omega
def Pd (I : Nat → Nat → Int32) (m : Nat) : List Int → Prop
  | [] => True
  | x :: xs => gi I 106 (m + xs.length) = x ∧ Pd I m xs
theorem Pd.congr {I I' : Nat → Nat → Int32} {m : Nat} : ∀ {ps : List Int}, (∀ i, m ≤ i → i < m + ps.length → gi I' 106 i = gi I 106 i) → Pd I m ps → Pd I' m ps
  | [], _, _ => trivial
  | x :: xs, h, hp => ⟨by rw [h _ (Nat.le_add_right _ _) (by rw [List.length_cons]; omega)]; exact hp.1, Pd.congr (fun i a b => h i a (by rw [List.length_cons]; omega)) hp.2⟩
theorem Pd.app {I : Nat → Nat → Int32} {m : Nat} {x : Int} : ∀ {ps : List Int}, gi I 106 m = x → Pd I (m + 1) ps → Pd I m (ps ++ [x])
  | [], h, _ => ⟨h, trivial⟩
  | y :: ys, h, hp => ⟨by
      show gi I 106 (m + (ys ++ [x]).length) = y
      rw [List.length_append, List.length_cons, List.length_nil, show m + (ys.length + (0 + 1)) = m + 1 + ys.length by omega]
      exact hp.1, Pd.app h hp.2⟩
def okOp (lo : Int) (ps : List Int) : Prop := ∀ x ∈ ps, lo ≤ rk x ∧ 10 ≤ x ∧ x ≤ 22
abbrev cdo (ps : List Int) : List Int := ps.map (fun x => 10090 + x)
theorem enc_opx {x : Int} (h : 10 ≤ x ∧ x ≤ 22) : enc x 0 = 10090 + x := by
  unfold enc
  rw [if_neg (by omega), if_neg (by omega), if_neg (by omega), if_neg (by omega), if_neg (by omega), if_neg (by omega), if_neg (by omega), if_neg (by omega), if_neg (by omega), if_neg (by omega), if_neg (by omega), if_pos h]
theorem RS.fr {cs : List Nat} {fs : List (Nat × Nat)} {I I' : Nat → Nat → Int32} {J J' : Nat → Nat → Int64} {T : Nat → Int} {n p b f o m cd : Nat} (h : RS I J T n p b f o m cd) (hF : Fr cs fs I I') (h1 : 74 ∉ cs ∧ 75 ∉ cs) (h2 : ((74, 2) ∉ fs ∧ ∀ q ∈ fs, q.1 ≠ 75) ∧ (74, 3) ∉ fs ∧ (74, 4) ∉ fs ∧ (74, 5) ∉ fs ∧ (74, 12) ∉ fs ∧ (74, 6) ∉ fs) (hJ : gl J' 74 7 = gl J 74 7) (e8 : gi I' 74 8 = 0) (e40 : gi I' 74 40 = (b : Int)) {f' o' m' cd' : Nat} (e46 : gi I' 74 46 = ((f' + 1 : Nat) : Int)) (e47 : gi I' 74 47 = (o' : Int)) (e49 : gi I' 74 49 = (m' : Int)) (e39 : gi I' 74 39 = (cd' : Int)) : RS I' J' T n p b f' o' m' cd' := ⟨h.1.fr hF h1 h2 hJ, e8, e40, e46, e47, e49, e39⟩
set_option maxRecDepth 20000 in
set_option maxHeartbeats 4000000 in
theorem S_joins {k : Nat} {P : Option Nat} {J : Nat → Nat → Int64} {Q : Option AV → Mem → Prop} {T : Nat → Int} {n p b f o m : Nat} {least : Int} (hk : 2 ≤ k) (hl : inR least) (hf : f < 20) (hb : b < 2) : ∀ (ps : List Int) (cd : Nat) (I : Nat → Nat → Int32), RS I J T n p b f (o + nots ps) (m + ps.length) cd → Pd I m ps → okOp least ps → ctx I f m least → m + ps.length ≤ 500 → o + nots ps ≤ 1000 → cd + ps.length ≤ 1600 → (∀ I', RS I' J T n p b f o m (cd + ps.length) → cds (encR I') (1600 * b + cd) (cdo ps) → RK I I' f m (1600 * b + cd) (1600 * b + 1600) → (∀ i, gi I' 102 i = gi I 102 i ∧ gi I' 103 i = gi I 103 i) → gi I' 74 50 = gi I 74 50 → Q none (mem (P, some 5, some 22) I' J)) → WP k LAY m_X12_joins 0 [(0, vR (some 74)), (1, vI least)] [] (mem (P, some 5, some 22) I J) Q := by
  intro ps
  induction ps with
  | nil =>
    intro cd I hS _ _ hc hm ho hcd hQ
    have hQ' := hQ I hS trivial (RK.rf _ _ _ _ _) (fun _ => ⟨rfl, rfl⟩) rfl
    have e46 := hS.2.2.2.1
    have e49 : gi I 74 49 = (m : Int) := hS.2.2.2.2.2.1
    have hm' : m ≤ 500 := hm
    refine B_X12_joins_0 (by omega) ?_
    rw [e46, e49, show ((f + 1 : Nat) : Int) - 1 = (f : Int) by omega, Int.toNat_natCast]
    obtain ⟨c1, c2, c3⟩ := hc
    refine ⟨by omega, fun _ => hQ', fun c => ⟨by omega, ?_⟩⟩
    refine S_rank (gi_in _ _ _) (fun v hv => ⟨_, _, _, rfl, rfl, ?_⟩)
    have hr := rk_in (gi I 106 ((m : Int) - 1).toNat)
    rw [show ((m : Int) - 1).toNat = m - 1 by omega] at hv hr
    refine ⟨by unfold inR; omega, hl, fun _ => hQ', fun c4 => ?_⟩
    rcases c3 with c3 | c3
    · exact absurd (by omega) c
    · exact absurd (by omega) c4
  | cons x xs ih =>
    intro cd I hS hP hO hc hm ho hcd hQ
    rw [List.length_cons] at hm hcd
    obtain ⟨hR, h8, h40, h46, h47, h49, h39⟩ := hS
    have hx := hO x List.mem_cons_self
    have h49' : gi I 74 49 = ((m + xs.length + 1 : Nat) : Int) := by rw [h49, List.length_cons]; rfl
    have iX : inR x := by unfold inR; omega
    refine B_X12_joins_0 (by omega) ?_
    have e49 : gi (si I 74 49 (gi I 74 49 - 1)) 74 49 = ((m + xs.length : Nat) : Int) := by
      rw [gi_si _ _ _ _ _ (by rw [h49']; unfold inR; omega), if_pos ⟨rfl, rfl⟩, h49']
      omega
    have e40 : gi (si I 74 49 (gi I 74 49 - 1)) 74 40 = (b : Int) := by rw [gi_idx _ _ _ (by decide), h40]
    have e39 : gi (si I 74 49 (gi I 74 49 - 1)) 74 39 = (cd : Int) := by rw [gi_idx _ _ _ (by decide), h39]
    have hc12 := hc.2.1
    have hc11 := hc.1
    rw [h46, show ((f + 1 : Nat) : Int) - 1 = (f : Int) by omega, Int.toNat_natCast]
    refine ⟨by omega, fun c => absurd c (by rw [h49']; omega), fun _ => ⟨by rw [h49']; omega, ?_⟩⟩
    refine S_rank (gi_in _ _ _) (fun v hv => ⟨_, _, _, rfl, rfl, ?_⟩)
    have etop : gi I 106 (gi I 74 49 - 1).toNat = x := by
      rw [h49', show (((m + xs.length + 1 : Nat) : Int) - 1).toNat = m + xs.length by omega]
      exact hP.1
    rw [etop] at hv
    have hrk := rk_in x
    dsimp only
    rw [e49, e40, e39, Int.toNat_natCast, show gi I 106 (m + xs.length) = x from hP.1, show (1600 * (b : Int) + (cd : Int)).toNat = 1600 * b + cd by omega]
    refine ⟨by unfold inR; omega, hl, fun c => absurd c (by omega), fun _ => ⟨by omega, by omega, ?_⟩⟩
    -- the state that goes on
    have next : ∀ I1, (I1 = si (si (si (si I 74 49 (gi I 74 49 - 1)) 95 (1600 * b + cd) x) 96 (1600 * b + cd) 0) 74 39 ((cd : Int) + 1) ∧ x ≠ 22) ∨ (I1 = si (si (si (si (si I 74 49 (gi I 74 49 - 1)) 95 (1600 * b + cd) x) 96 (1600 * b + cd) 0) 74 39 ((cd : Int) + 1)) 74 47 (gi I 74 47 - 1) ∧ x = 22) → WP k LAY m_X12_joins 0 [(0, vR (some 74)), (1, vI least)] [] (mem (P, some 5, some 22) I1 J) Q := by
      intro I1 hI1
      generalize hA : si (si (si (si I 74 49 (gi I 74 49 - 1)) 95 (1600 * b + cd) x) 96 (1600 * b + cd) 0) 74 39 ((cd : Int) + 1) = A at hI1
      have hFA : Fr [95, 96] [(74, 49), (74, 39)] I A := by
        rw [← hA]
        exact ((((Fr.rf _ _ I).up 74 49 _ (Or.inr (by decide))).up 95 _ _ (Or.inl (by decide))).up 96 _ _ (Or.inl (by decide))).up 74 39 _ (Or.inr (by decide))
      have hF1 : Fr [95, 96] [(74, 49), (74, 39), (74, 47)] I I1 := by
        have hFA' : Fr [95, 96] [(74, 49), (74, 39), (74, 47)] I A := hFA.mono (fun _ t => t) (fun q hq => Or.inl (by
          simp only [List.mem_cons, List.not_mem_nil, or_false] at hq ⊢
          rcases hq with e | e <;> subst e <;> simp))
        rcases hI1 with ⟨e, -⟩ | ⟨e, -⟩ <;> rw [e]
        · exact hFA'
        · exact hFA'.up 74 47 _ (Or.inr (by decide))
      have a39 : gi A 74 39 = ((cd + 1 : Nat) : Int) := by
        rw [← hA, gi_si _ _ _ _ _ (by unfold inR; omega), if_pos ⟨rfl, rfl⟩]
        omega
      have a49 : gi A 74 49 = ((m + xs.length : Nat) : Int) := by rw [← hA, gi_idx _ _ _ (by decide), gi_cell _ _ _ _ (by decide), gi_cell _ _ _ _ (by decide), e49]
      have a95 : ∀ i, gi A 95 i = if i = 1600 * b + cd then x else gi I 95 i := fun i => by
        rw [← hA, gi_cell _ _ _ _ (by decide), gi_cell _ _ _ _ (by decide), gi_si _ _ _ _ _ iX, gi_cell _ _ _ _ (by decide)]
        by_cases e : i = 1600 * b + cd
        · rw [if_pos ⟨rfl, e⟩, if_pos e]
        · rw [if_neg (fun t => e t.2), if_neg e]
      have a96 : ∀ i, gi A 96 i = if i = 1600 * b + cd then 0 else gi I 96 i := fun i => by
        rw [← hA, gi_cell _ _ _ _ (by decide), gi_si _ _ _ _ _ (by decide), gi_cell _ _ _ _ (by decide), gi_cell _ _ _ _ (by decide)]
        by_cases e : i = 1600 * b + cd
        · rw [if_pos ⟨rfl, e⟩, if_pos e]
        · rw [if_neg (fun t => e t.2), if_neg e]
      have b95 : ∀ i, gi I1 95 i = gi A 95 i := fun i => by
        rcases hI1 with ⟨e, -⟩ | ⟨e, -⟩ <;> rw [e]
        rw [gi_cell _ _ _ _ (by decide)]
      have b96 : ∀ i, gi I1 96 i = gi A 96 i := fun i => by
        rcases hI1 with ⟨e, -⟩ | ⟨e, -⟩ <;> rw [e]
        rw [gi_cell _ _ _ _ (by decide)]
      have b39 : gi I1 74 39 = ((cd + 1 : Nat) : Int) := by
        rcases hI1 with ⟨e, -⟩ | ⟨e, -⟩ <;> rw [e]
        · exact a39
        · rw [gi_idx _ _ _ (by decide), a39]
      have b49 : gi I1 74 49 = ((m + xs.length : Nat) : Int) := by
        rcases hI1 with ⟨e, -⟩ | ⟨e, -⟩ <;> rw [e]
        · exact a49
        · rw [gi_idx _ _ _ (by decide), a49]
      have hno : nots (x :: xs) = nots xs + (if x = 22 then 1 else 0) := rfl
      have b47 : gi I1 74 47 = ((o + nots xs : Nat) : Int) := by
        rcases hI1 with ⟨e, ex⟩ | ⟨e, ex⟩ <;> rw [e]
        · rw [hFA.gv 74 47 (by decide) (by decide), h47, hno, if_neg ex]
          rfl
        · rw [gi_si _ _ _ _ _ (by rw [h47]; unfold inR; omega), if_pos ⟨rfl, rfl⟩, h47, hno, if_pos ex]
          omega
      have hRK : RK I I1 f m (1600 * b + cd) (1600 * b + 1600) := by
        refine ⟨⟨hF1.mono (fun t ht => by
          simp only [List.mem_cons, List.not_mem_nil, or_false] at ht ⊢
          rcases ht with e | e <;> subst e <;> simp) (fun q hq => Or.inl (by
          simp only [List.mem_cons, List.not_mem_nil, or_false] at hq ⊢
          rcases hq with e | e | e <;> subst e <;> simp)), fun i hi => ?_⟩, fun i _ => ⟨hF1.gvc i (by decide) (by decide), hF1.gvc i (by decide) (by decide), hF1.gvc i (by decide) (by decide)⟩, fun i _ => ⟨hF1.gvc i (by decide) (by decide), hF1.gvc i (by decide) (by decide)⟩, fun i _ => hF1.gvc i (by decide) (by decide)⟩
        rw [b95, b96, a95, a96, if_neg (by omega), if_neg (by omega)]
        exact ⟨rfl, rfl⟩
      refine ih (cd + 1) I1 (RS.fr (f := f) (o := o + nots (x :: xs)) (m := m + (x :: xs).length) (cd := cd) ⟨hR, h8, h40, h46, h47, h49, h39⟩ hF1 (by decide) (by decide) rfl (by rw [hF1.gv 74 8 (by decide) (by decide)]; exact h8) (by rw [hF1.gv 74 40 (by decide) (by decide)]; exact h40) (by rw [hF1.gv 74 46 (by decide) (by decide)]; exact h46) b47 b49 b39) (Pd.congr (fun i _ _ => hF1.gvc i (by decide) (by decide)) hP.2) (fun y hy => hO y (List.mem_cons_of_mem _ hy)) (hc.rk hRK hc.pos) (by omega) (by omega) (by omega) (fun I' hS' hcd' hRK' h102 h50 => ?_)
      refine hQ I' ?_ ?_ (hRK.tr hRK' (Nat.le_refl _) (Nat.le_refl _) (by omega)) (fun i => ?_) ?_
      · rw [List.length_cons, show cd + (xs.length + 1) = cd + 1 + xs.length by omega]
        exact hS'
      · show encR I' (1600 * b + cd) = 10090 + x ∧ cds (encR I') (1600 * b + cd + 1) (cdo xs)
        refine ⟨?_, hcd'⟩
        unfold encR
        have := hRK'.1.2 (1600 * b + cd) (Or.inl (by omega))
        rw [this.1, this.2, b95, b96, a95, a96, if_pos rfl, if_pos rfl]
        exact enc_opx hx.2
      · rw [(h102 i).1, (h102 i).2]
        exact ⟨hF1.gvc i (by decide) (by decide), hF1.gvc i (by decide) (by decide)⟩
      · rw [h50, hF1.gv 74 50 (by decide) (by decide)]
    exact ⟨fun c => next _ (Or.inl ⟨rfl, c⟩), fun c => next _ (Or.inr ⟨rfl, c⟩)⟩
end RPAR

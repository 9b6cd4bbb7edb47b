section VNN
/-! ===== the coupling ===== -/
def VN (n : Nat) : Cpl := fun I J => V_st I ∧ V_oc I ∧ V_tp I ∧ (gi I 3 2 = gi I 74 10 ∧ gi I 3 3 = gi I 74 11) ∧ VH I ∧ (∀ p : Nat, (p : Int) < nP (LC I) → gi I 12 p = ((nal (LC I) p : Nat) : Int)) ∧ (gl J 74 67 = gi I 0 11 ∧ 0 ≤ gi I 0 11) ∧ V_nm I J ∧ V_mo I ∧ V_wa I ∧ V_sh I ∧ V_se I ∧ (0 ≤ gi I 4 6 ∧ gi I 4 6 ≤ (n : Int) + 1)
theorem scr_mid {c : Nat} (h : c ≤ 36 ∨ (51 ≤ c ∧ c ≤ 69) ∨ c = 71 ∨ c = 73 ∨ (75 ≤ c ∧ c ≤ 107) ∨ c = 121 ∨ c = 131) : scrC c = false ∧ ∀ k, scrF c k = false := by
  constructor
  · unfold scrC
    simp
    omega
  · intro k
    unfold scrF
    simp
    omega
/-! each clause, where what it reads stays -/
theorem V_st.fr {I F : Nat → Nat → Int32} (h : V_st I) (h1 : ∀ k, gi F 73 k = gi I 73 k) (h2 : ∀ k, gi F 107 k = gi I 107 k) : V_st F := fun j hj => by rw [h1, h2]; exact h j hj
theorem V_oc.fr {I F : Nat → Nat → Int32} (h : V_oc I) (h1 : gi F 70 2 = gi I 70 2) (h2 : gi F 74 87 = gi I 74 87) (h3 : ∀ k, gi F 71 k = gi I 71 k) (h4 : ∀ k, gi F 131 k = gi I 131 k) : V_oc F := by
  obtain ⟨a, b, c⟩ := h
  refine ⟨by rw [h1, h2]; exact a, by rw [h1]; exact b, fun j hj => ?_⟩
  rw [h1] at hj
  rw [h3, h4]
  exact c j hj
theorem V_tp.fr {I F : Nat → Nat → Int32} (h : V_tp I) (h1 : gi F 1 1 = gi I 1 1) (h2 : gi F 74 1 = gi I 74 1) (h3 : ∀ k, gi F 2 k = gi I 2 k) (h4 : ∀ k, gi F 75 k = gi I 75 k) : V_tp F := by
  obtain ⟨a, b, c⟩ := h
  refine ⟨by rw [h1, h2]; exact a, by rw [h1]; exact b, fun j hj => ?_⟩
  rw [h1] at hj
  rw [h3, h4]
  exact c j hj
theorem V_mo.fr {I F : Nat → Nat → Int32} (h : V_mo I) (hl : LC F = LC I) (hr : RC F = RC I) (hh : HC F = HC I) (h46 : gi F 4 6 = gi I 4 6) (hc : ∀ k, k = 4 ∨ k = 5 ∨ k = 6 ∨ k = 11 ∨ k = 12 ∨ k = 13 → gi F 51 k = gi I 51 k) : V_mo F := by
  have eb : bst F = bst I := by
    show (gi F 51 4, gi F 51 6, gi F 51 5) = (gi I 51 4, gi I 51 6, gi I 51 5)
    rw [hc 4 (by omega), hc 5 (by omega), hc 6 (by omega)]
  unfold V_mo at h ⊢
  rw [hl, hr, hh, eb, h46, hc 11 (by omega), hc 12 (by omega), hc 13 (by omega)]
  exact h
theorem V_mo.old {I F : Nat → Nat → Int32} (h : gi I 51 11 ≤ gi I 4 6) (h46 : gi F 4 6 = gi I 4 6 + 1) (hc : gi F 51 11 = gi I 51 11) : V_mo F := ⟨by omega, fun t => absurd t (by omega)⟩
theorem V_wa.fr {I F : Nat → Nat → Int32} (h : V_wa I) (hl : LC F = LC I) (hr : RC F = RC I) (hh : HC F = HC I) (h46 : gi F 4 6 = gi I 4 6) (hc : ∀ k, k = 7 ∨ k = 8 ∨ k = 9 ∨ k = 14 ∨ k = 15 ∨ k = 16 → gi F 51 k = gi I 51 k) : V_wa F := by
  have ew : ∀ N p, wSt N F p = wSt N I p := fun N p => by
    unfold wSt
    rw [hc 7 (by omega), hc 8 (by omega), hc 9 (by omega)]
  unfold V_wa at h ⊢
  rw [hl, hr, hh, ew, h46, hc 14 (by omega), hc 15 (by omega), hc 16 (by omega)]
  exact h
theorem V_wa.old {I F : Nat → Nat → Int32} (h : gi I 51 14 ≤ gi I 4 6) (h46 : gi F 4 6 = gi I 4 6 + 1) (hc : gi F 51 14 = gi I 51 14) : V_wa F := ⟨by omega, fun t => absurd t (by omega)⟩
theorem V_sh.fr {I F : Nat → Nat → Int32} (h : V_sh I) (hl : LC F = LC I) (hr : RC F = RC I) (hh : HC F = HC I) (h46 : gi F 4 6 = gi I 4 6) (hc : ∀ c i, c = 54 ∨ c = 55 ∨ c = 57 → gi F c i = gi I c i) : V_sh F := by
  refine ⟨by rw [hc 54 5 (Or.inl rfl), h46]; exact h.1, fun t q a b c d => ?_⟩
  rw [hl] at c
  rw [hl, hr, hh]
  rw [hc 54 5 (Or.inl rfl), h46] at t
  rw [hc 54 6 (Or.inl rfl)] at a
  exact shO_eq hc (h.2 t q a b c d)
theorem V_sh.old {I F : Nat → Nat → Int32} (h : gi I 54 5 ≤ gi I 4 6) (h46 : gi F 4 6 = gi I 4 6 + 1) (hc : gi F 54 5 = gi I 54 5) : V_sh F := ⟨by omega, fun t => absurd t (by omega)⟩
theorem V_se.fr {I F : Nat → Nat → Int32} (h : V_se I) (hl : LC F = LC I) (hr : RC F = RC I) (hh : HC F = HC I) (h46 : gi F 4 6 = gi I 4 6) (hc : ∀ c i, c = 63 ∨ c = 67 → gi F c i = gi I c i) : V_se F := by
  refine ⟨by rw [hc 63 9 (Or.inl rfl), h46]; exact h.1, fun t a => ?_⟩
  rw [hl] at a
  rw [hl, hr, hh]
  rw [hc 63 9 (Or.inl rfl), h46] at t
  exact zeF_fr hc (h.2 t a)
theorem V_se.old {I F : Nat → Nat → Int32} (h : gi I 63 9 ≤ gi I 4 6) (h46 : gi F 4 6 = gi I 4 6 + 1) (hc : gi F 63 9 = gi I 63 9) : V_se F := ⟨by omega, fun t => absurd t (by omega)⟩
theorem V_nm.fr {b : Nat} {I F : Nat → Nat → Int32} {J J' : Nat → Nat → Int64} (h : V_nm I J) (hb : b < 2) (h13 : gi I 74 13 = 1 - (b : Int)) (hL : WfL (LC I)) (f6 : ∀ k, gi F 6 k = gi I 6 k) (f7 : ∀ k, gi F 7 k = gi I 7 k) (f13 : gi F 74 13 = gi I 74 13) (hJ : ∀ c k, 97 ≤ c → c ≤ 100 → ¬ inJ b c k → gl J' c k = gl J c k) : V_nm F J' := by
  have b0 : gi I 6 0 ≤ 5 := hL.1.2
  have b1 : gi I 6 1 ≤ 14 := hL.2.1.2
  have b2 : gi I 6 2 ≤ 6 := hL.2.2.1.2
  have b3 : gi I 6 3 ≤ 5 := hL.2.2.2.1.2
  intro x w x0 x3 w0 w1
  rw [f6] at w1
  obtain ⟨r, r1, r2, r3⟩ := h x w x0 x3 w0 w1
  refine ⟨r, r1, fun k hk => by rw [f7]; exact r2 k hk, ?_⟩
  rw [← r3]
  clear r3 r2 r1 h
  have hx : x = 0 ∨ x = 1 ∨ x = 2 ∨ x = 3 := by omega
  rcases hx with t | t | t | t <;> subst t
  · have w2 : w < gi I 6 0 := w1
    show gl J' 97 ((5 * gi F 74 13) + w).toNat = gl J 97 ((5 * gi I 74 13) + w).toNat
    rw [f13]
    exact hJ 97 _ (by decide) (by decide) (by unfold inJ; omega)
  · have w2 : w < gi I 6 1 := w1
    show gl J' 98 ((14 * gi F 74 13) + w).toNat = gl J 98 ((14 * gi I 74 13) + w).toNat
    rw [f13]
    exact hJ 98 _ (by decide) (by decide) (by unfold inJ; omega)
  · have w2 : w < gi I 6 2 := w1
    show gl J' 99 ((6 * gi F 74 13) + w).toNat = gl J 99 ((6 * gi I 74 13) + w).toNat
    rw [f13]
    exact hJ 99 _ (by decide) (by decide) (by unfold inJ; omega)
  · have w2 : w < gi I 6 3 := w1
    show gl J' 100 ((5 * gi F 74 13) + w).toNat = gl J 100 ((5 * gi I 74 13) + w).toNat
    rw [f13]
    exact hJ 100 _ (by decide) (by decide) (by unfold inJ; omega)
theorem VN.put {n n' : Nat} {I F : Nat → Nat → Int32} {J J' : Nat → Nat → Int64} (h : VN n I J) (hn : n ≤ n') (hv : ∀ c k, scrC c = false → scrF c k = false → vhX c k → F c k = I c k) (hJ : ∀ c k, 97 ≤ c → c ≤ 100 → gl J' c k = gl J c k) (c1 : V_st F) (c2 : V_oc F) (c3 : V_tp F) (c4 : gi F 3 2 = gi F 74 10 ∧ gi F 3 3 = gi F 74 11) (c7 : gl J' 74 67 = gi F 0 11 ∧ 0 ≤ gi F 0 11) (c9 : LC F = LC I → RC F = RC I → HC F = HC I → V_mo F ∧ V_wa F ∧ V_sh F ∧ V_se F) (h46 : gi F 4 6 = gi I 4 6) : VN n' F J' := by
  obtain ⟨-, -, -, -, a5, a6, -, a8, -, -, -, -, a13⟩ := h
  obtain ⟨v1, v2, v3, v4⟩ := a5.frs hv
  have hb := rx_b a5.1.2.1
  have hL := a5.1.1.1.2.2.2.1
  obtain ⟨d1, d2, d3, d4⟩ := c9 v2 v3 v4
  have f : ∀ c k, 5 ≤ c → c ≤ 19 → gi F c k = gi I c k := fun c k x y => gi_eq (hv c k (scrC_lo (Or.inl ⟨x, y⟩)).1 ((scrC_lo (Or.inl ⟨x, y⟩)).2 k) (Or.inl ⟨x, by omega⟩))
  refine ⟨c1, c2, c3, c4, v1, fun p hp => ?_, c7, ?_, d1, d2, d3, d4, by rw [h46]; omega⟩
  · rw [v2] at hp ⊢
    rw [f 12 p (by decide) (by decide)]
    exact a6 p hp
  · exact a8.fr (b := (1 - gi I 74 13).toNat) (by omega) (by omega) hL (fun k => f 6 k (by decide) (by decide)) (fun k => f 7 k (by decide) (by decide)) (gi_eq (hv 74 13 (by decide) (by decide) (by unfold vhX; omega))) (fun c k x y _ => hJ c k x y)
/-- the four that were worked out stay -/
theorem VN.cas {n : Nat} {I F : Nat → Nat → Int32} {J : Nat → Nat → Int64} (h : VN n I J) (h46 : gi F 4 6 = gi I 4 6) (hc : ∀ c k, c = 51 ∨ (54 ≤ c ∧ c ≤ 67) → gi F c k = gi I c k) : LC F = LC I → RC F = RC I → HC F = HC I → V_mo F ∧ V_wa F ∧ V_sh F ∧ V_se F := by
  intro hl hr hh
  obtain ⟨-, -, -, -, -, -, -, -, a9, a10, a11, a12, -⟩ := h
  exact ⟨a9.fr hl hr hh h46 (fun k _ => hc 51 k (by omega)), a10.fr hl hr hh h46 (fun k _ => hc 51 k (by omega)), a11.fr hl hr hh h46 (fun c i e => hc c i (by omega)), a12.fr hl hr hh h46 (fun c i e => hc c i (by omega))⟩
theorem VN.scr {n n' : Nat} {I F : Nat → Nat → Int32} {J J' : Nat → Nat → Int64} (h : VN n I J) (hn : n ≤ n') (hs : scrS I F) (hj : scrJ J J') : VN n' F J' := by
  have hm : ∀ c k, (c ≤ 36 ∨ (51 ≤ c ∧ c ≤ 69) ∨ c = 71 ∨ c = 73 ∨ (75 ≤ c ∧ c ≤ 107) ∨ c = 121 ∨ c = 131) → gi F c k = gi I c k := fun c k x => hs.gv c k (scr_mid x).1 ((scr_mid x).2 k)
  have h46 : gi F 4 6 = gi I 4 6 := hm 4 6 (by decide)
  have hc := h.cas (F := F) h46 (fun c k x => hm c k (by omega))
  have h' := h
  obtain ⟨a1, a2, a3, a4, -, -, a7, -⟩ := h'
  refine h.put hn (fun c k x y _ => hs c k x y) (fun c k x y => congrArg Int64.toInt (hj c k (by omega))) (a1.fr (fun k => hm 73 k (by decide)) (fun k => hm 107 k (by decide))) (a2.fr (hs.gv 70 2 (by decide) (by decide)) (hs.gv 74 87 (by decide) (by decide)) (fun k => hm 71 k (by decide)) (fun k => hm 131 k (by decide))) (a3.fr (hm 1 1 (by decide)) (hs.gv 74 1 (by decide) (by decide)) (fun k => hm 2 k (by decide)) (fun k => hm 75 k (by decide))) ?_ ?_ hc h46
  · rw [hm 3 2 (by decide), hm 3 3 (by decide), hs.gv 74 10 (by decide) (by decide), hs.gv 74 11 (by decide) (by decide)]
    exact a4
  · rw [hm 0 11 (by decide), show gl J' 74 67 = gl J 74 67 from congrArg Int64.toInt (hj 74 67 (by omega))]
    exact a7
theorem VN.mono {n n' : Nat} {I : Nat → Nat → Int32} {J : Nat → Nat → Int64} (h : VN n I J) (hn : n ≤ n') : VN n' I J := h.scr hn (scrS.rf I) (scrJ.rf J)
/-- where only cells change that neither libraries nor readers nor what was worked out rests on -/
theorem VN.out {n n' : Nat} {I F : Nat → Nat → Int32} {J J' : Nat → Nat → Int64} (h : VN n I J) (hn : n ≤ n') (e : ∀ c k, ¬ (c = 73 ∨ c = 107 ∨ c = 0 ∨ c = 1 ∨ c = 2 ∨ c = 75 ∨ c = 71 ∨ c = 131 ∨ c = 70 ∨ (c = 74 ∧ (k = 1 ∨ k = 87))) → F c k = I c k) (hJ : ∀ c k, 97 ≤ c → c ≤ 100 → gl J' c k = gl J c k) (c1 : V_st F) (c2 : V_oc F) (c3 : V_tp F) (c7 : gl J' 74 67 = gi F 0 11 ∧ 0 ≤ gi F 0 11) : VN n' F J' := by
  have h46 : gi F 4 6 = gi I 4 6 := gi_eq (e 4 6 (by omega))
  have hc := h.cas (F := F) h46 (fun c k x => gi_eq (e c k (by omega)))
  have a4 := h.2.2.2.1
  refine h.put hn (fun c k x y hx => e c k (by unfold vhX at hx; omega)) hJ c1 c2 c3 ?_ c7 hc h46
  rw [gi_eq (e 3 2 (by omega)), gi_eq (e 3 3 (by omega)), gi_eq (e 74 10 (by omega)), gi_eq (e 74 11 (by omega))]
  exact a4
theorem VN.ref {n n' : Nat} {I : Nat → Nat → Int32} {J : Nat → Nat → Int64} (h : VN n I J) (hn : n ≤ n') (j : Nat) (hj : j < 6) : VN n' (refI I j) J := by
  have e : ∀ c k, ¬ c = 73 → ¬ c = 107 → refI I j c k = I c k := fun c k x y => by
    unfold refI
    rw [si_at, if_neg (fun t => y t.1), si_at, if_neg (fun t => x t.1)]
  have h' := h
  obtain ⟨a1, a2, a3, -, -, -, a7, -⟩ := h'
  refine h.out hn (fun c k x => e c k (by omega) (by omega)) (fun _ _ _ _ => rfl) (V_st_ref a1 j hj) (a2.fr (gi_eq (e 70 2 (by decide) (by decide))) (gi_eq (e 74 87 (by decide) (by decide))) (fun k => gi_eq (e 71 k (by decide) (by decide))) (fun k => gi_eq (e 131 k (by decide) (by decide)))) (a3.fr (gi_eq (e 1 1 (by decide) (by decide))) (gi_eq (e 74 1 (by decide) (by decide))) (fun k => gi_eq (e 2 k (by decide) (by decide))) (fun k => gi_eq (e 75 k (by decide) (by decide)))) ?_
  rw [gi_eq (e 0 11 (by decide) (by decide))]
  exact a7
theorem VN.end_ {n n' : Nat} {I : Nat → Nat → Int32} {J : Nat → Nat → Int64} (h : VN n I J) (hn : n ≤ n') (x : Int) (x0 : 0 ≤ x) (x1 : x ≤ gi I 1 1) : VN n' (si (si I 1 1 x) 74 1 x) J := by
  have e : ∀ c k, ¬ (c = 1 ∧ k = 1) → ¬ (c = 74 ∧ k = 1) → si (si I 1 1 x) 74 1 x c k = I c k := fun c k p q => by rw [si_at, if_neg q, si_at, if_neg p]
  have h' := h
  obtain ⟨a1, a2, ⟨t1, t2, t3⟩, -, -, -, a7, -⟩ := h'
  have hx : inR x := ⟨by omega, by omega⟩
  have g1 : gi (si (si I 1 1 x) 74 1 x) 1 1 = x := by rw [gi_cell _ _ _ _ (by decide), gi_same _ _ _ hx]
  have g2 : gi (si (si I 1 1 x) 74 1 x) 74 1 = x := gi_same _ _ _ hx
  refine h.out hn (fun c k q => e c k (by omega) (by omega)) (fun _ _ _ _ => rfl) (a1.fr (fun k => gi_eq (e 73 k (by omega) (by omega))) (fun k => gi_eq (e 107 k (by omega) (by omega)))) (a2.fr (gi_eq (e 70 2 (by decide) (by decide))) (gi_eq (e 74 87 (by decide) (by decide))) (fun k => gi_eq (e 71 k (by omega) (by omega))) (fun k => gi_eq (e 131 k (by omega) (by omega)))) ⟨by rw [g1, g2], by rw [g1]; omega, fun j hj => ?_⟩ ?_
  · rw [g1] at hj
    rw [gi_eq (e 2 j (by omega) (by omega)), gi_eq (e 75 j (by omega) (by omega))]
    exact t3 j (by omega)
  · rw [gi_eq (e 0 11 (by decide) (by decide))]
    exact a7
theorem VN.seed {n n' : Nat} {I : Nat → Nat → Int32} {J : Nat → Nat → Int64} (h : VN n I J) (hn : n ≤ n') (x : Int) (hx : inR x) (x0 : 0 ≤ x) : VN n' (si I 0 11 x) (sl J 74 67 x) := by
  have e : ∀ c k, ¬ c = 0 → si I 0 11 x c k = I c k := fun c k p => by rw [si_at, if_neg (fun t => p t.1)]
  have h' := h
  obtain ⟨a1, a2, a3, -⟩ := h'
  refine h.out hn (fun c k q => e c k (by omega)) (fun c k _ _ => gl_cell _ _ _ _ (by omega)) (a1.fr (fun k => gi_eq (e 73 k (by decide))) (fun k => gi_eq (e 107 k (by decide)))) (a2.fr (gi_eq (e 70 2 (by decide))) (gi_eq (e 74 87 (by decide))) (fun k => gi_eq (e 71 k (by decide))) (fun k => gi_eq (e 131 k (by decide)))) (a3.fr (gi_eq (e 1 1 (by decide))) (gi_eq (e 74 1 (by decide))) (fun k => gi_eq (e 2 k (by decide))) (fun k => gi_eq (e 75 k (by decide)))) ?_
  rw [gi_same _ _ _ hx]
  have h1 := hx.1
  have h2 := hx.2
  exact ⟨gl_same _ _ _ ⟨by omega, by omega⟩, x0⟩
theorem VN.image {n n' : Nat} {I F : Nat → Nat → Int32} {J : Nat → Nat → Int64} (h : VN n I J) (hn : n ≤ n') (hF : Fr [71, 131] [(70, 2), (74, 87)] I F) (ho : V_oc F) : VN n' F J := by
  have h' := h
  obtain ⟨a1, -, a3, -, -, -, a7, -⟩ := h'
  refine h.out hn (fun c k q => hF c k (fun t => by simp at t; omega) (fun t => by simp at t; omega)) (fun _ _ _ _ => rfl) (a1.fr (fun k => hF.gvc k (by decide) (by decide)) (fun k => hF.gvc k (by decide) (by decide))) ho (a3.fr (hF.gv 1 1 (by decide) (by decide)) (hF.gv 74 1 (by decide) (by decide)) (fun k => hF.gvc k (by decide) (by decide)) (fun k => hF.gvc k (by decide) (by decide))) ?_
  rw [hF.gv 0 11 (by decide) (by decide)]
  exact a7
/-! four bytes and four bytes more -/
def teq (X Y : Nat → Nat → Int32) (m : Nat) : Prop := gi X 1 1 = (m : Int) ∧ gi Y 74 1 = (m : Int) ∧ ∀ j : Nat, j < m → gi X 2 j = gi Y 75 j ∧ 0 ≤ gi Y 75 j ∧ gi Y 75 j ≤ 255
theorem and255 (x : Int) : 0 ≤ and32 x 255 ∧ and32 x 255 ≤ 255 := by
  have h : (iI x &&& iI 255).toBitVec.toNat ≤ 255 := by
    have e : (iI x &&& iI 255).toBitVec = (iI x).toBitVec &&& (iI 255).toBitVec := rfl
    have e2 : (iI 255).toBitVec.toNat = 255 := by decide
    rw [e, BitVec.toNat_and, e2]
    exact Nat.and_le_right
  have e : and32 x 255 = ((iI x &&& iI 255).toBitVec.toNat : Int) := BitVec.toInt_eq_toNat_of_lt (by omega)
  rw [e]
  omega
theorem teq.p {X Y : Nat → Nat → Int32} {m : Nat} {z : Int} (h : teq X Y m) (hm : m < 1600) (hz : 0 ≤ z ∧ z ≤ 255) : teq (p1 X z) (p2 Y z) (m + 1) := by
  obtain ⟨h1, h2, h3⟩ := h
  have iz : inR z := ⟨by omega, by omega⟩
  refine ⟨(p1_len X z (by rw [h1]; exact ⟨by omega, by omega⟩)).trans (by rw [h1]; omega), (p2_len Y z (by rw [h2]; exact ⟨by omega, by omega⟩)).trans (by rw [h2]; omega), fun j hj => ?_⟩
  have e1 : gi (p1 X z) 2 j = if j = m then z else gi X 2 j := by
    unfold p1
    rw [gi_cell _ _ _ _ (by decide), h1, Int.toNat_natCast]
    by_cases e : j = m
    · rw [if_pos e, e, gi_same _ _ _ iz]
    · rw [if_neg e, gi_idx _ _ _ e]
  have e2 : gi (p2 Y z) 75 j = if j = m then z else gi Y 75 j := by
    unfold p2
    rw [gi_cell _ _ _ _ (by decide), h2, Int.toNat_natCast]
    by_cases e : j = m
    · rw [if_pos e, e, gi_same _ _ _ iz]
    · rw [if_neg e, gi_idx _ _ _ e]
  rw [e1, e2]
  by_cases e : j = m
  · rw [if_pos e, if_pos e]
    exact ⟨rfl, hz⟩
  · rw [if_neg e, if_neg e]
    exact h3 j (by omega)
theorem teq.q {X Y : Nat → Nat → Int32} {m : Nat} {x : Int} (h : teq X Y m) (hm : m + 4 ≤ 1600) : teq (q1 X x) (q2 Y x) (m + 4) := (((h.p (by omega) (and255 _)).p (by omega) (and255 _)).p (by omega) (and255 _)).p (by omega) (and255 _)
theorem p1_at (X : Nat → Nat → Int32) (z : Int) (c k : Nat) (h : ¬ c = 1) (h2 : ¬ c = 2) : p1 X z c k = X c k := by
  unfold p1
  rw [si_at, if_neg (fun t => h t.1), si_at, if_neg (fun t => h2 t.1)]
theorem p2_at (X : Nat → Nat → Int32) (z : Int) (c k : Nat) (h : ¬ (c = 74 ∧ k = 1)) (h2 : ¬ c = 75) : p2 X z c k = X c k := by
  unfold p2
  rw [si_at, if_neg h, si_at, if_neg (fun t => h2 t.1)]
theorem q1_at (X : Nat → Nat → Int32) (z : Int) (c k : Nat) (h : ¬ c = 1) (h2 : ¬ c = 2) : q1 X z c k = X c k := by
  unfold q1
  rw [p1_at _ _ _ _ h h2, p1_at _ _ _ _ h h2, p1_at _ _ _ _ h h2, p1_at _ _ _ _ h h2]
theorem q2_at (X : Nat → Nat → Int32) (z : Int) (c k : Nat) (h : ¬ (c = 74 ∧ k = 1)) (h2 : ¬ c = 75) : q2 X z c k = X c k := by
  unfold q2
  rw [p2_at _ _ _ _ h h2, p2_at _ _ _ _ h h2, p2_at _ _ _ _ h h2, p2_at _ _ _ _ h h2]
theorem VN.feed {n n' : Nat} {I : Nat → Nat → Int32} {J : Nat → Nat → Int64} (h : VN n I J) (hn : n ≤ n') (x1 x2 x3 x4 x5 : Int) (hl : gi I 1 1 + 20 ≤ 1600) : VN n' (fe2 (fe1 I x1 x2 x3 x4 x5) x1 x2 x3 x4 x5) J := by
  have k1 : ∀ c k, ¬ c = 1 → ¬ c = 2 → fe1 I x1 x2 x3 x4 x5 c k = I c k := fun c k p q => by
    unfold fe1
    rw [q1_at _ _ _ _ p q, q1_at _ _ _ _ p q, q1_at _ _ _ _ p q, q1_at _ _ _ _ p q, q1_at _ _ _ _ p q]
  have h' := h
  obtain ⟨a1, a2, ⟨t1, t2, t3⟩, -, -, -, a7, -⟩ := h'
  have t0 : teq I (fe1 I x1 x2 x3 x4 x5) (gi I 1 1).toNat := ⟨by omega, by rw [gi_eq (k1 74 1 (by decide) (by decide)), ← t1]; omega, fun j hj => by rw [gi_eq (k1 75 j (by decide) (by decide))]; exact t3 j (by omega)⟩
  generalize hK : fe1 I x1 x2 x3 x4 x5 = K at *
  have k2 : ∀ c k, ¬ (c = 74 ∧ k = 1) → ¬ c = 75 → fe2 K x1 x2 x3 x4 x5 c k = K c k := fun c k p q => by
    unfold fe2
    rw [q2_at _ _ _ _ p q, q2_at _ _ _ _ p q, q2_at _ _ _ _ p q, q2_at _ _ _ _ p q, q2_at _ _ _ _ p q]
  have t5 : teq K (fe2 K x1 x2 x3 x4 x5) ((gi I 1 1).toNat + 4 + 4 + 4 + 4 + 4) := by
    rw [← hK] at t0 ⊢
    show teq (q1 (q1 (q1 (q1 (q1 I x1) x2) x3) x4) x5) (q2 (q2 (q2 (q2 (q2 (fe1 I x1 x2 x3 x4 x5) x1) x2) x3) x4) x5) _
    exact ((((t0.q (by omega)).q (by omega)).q (by omega)).q (by omega)).q (by omega)
  have e : ∀ c k, ¬ c = 1 → ¬ c = 2 → ¬ (c = 74 ∧ k = 1) → ¬ c = 75 → fe2 K x1 x2 x3 x4 x5 c k = I c k := fun c k p q r s => (k2 c k r s).trans (k1 c k p q)
  have g1 : gi (fe2 K x1 x2 x3 x4 x5) 1 1 = gi K 1 1 := gi_eq (k2 1 1 (by decide) (by decide))
  have g2 : ∀ k, gi (fe2 K x1 x2 x3 x4 x5) 2 k = gi K 2 k := fun k => gi_eq (k2 2 k (by omega) (by decide))
  obtain ⟨u1, u2, u3⟩ := t5
  refine h.out hn (fun c k q => e c k (by omega) (by omega) (by omega) (by omega)) (fun _ _ _ _ => rfl) (a1.fr (fun k => gi_eq (e 73 k (by decide) (by decide) (by omega) (by decide))) (fun k => gi_eq (e 107 k (by decide) (by decide) (by omega) (by decide)))) (a2.fr (gi_eq (e 70 2 (by decide) (by decide) (by decide) (by decide))) (gi_eq (e 74 87 (by decide) (by decide) (by decide) (by decide))) (fun k => gi_eq (e 71 k (by decide) (by decide) (by omega) (by decide))) (fun k => gi_eq (e 131 k (by decide) (by decide) (by omega) (by decide)))) ⟨by rw [g1, u1, u2], by rw [g1, u1]; omega, fun j hj => ?_⟩ ?_
  · rw [g1, u1] at hj
    rw [g2]
    exact u3 j (by omega)
  · rw [gi_eq (e 0 11 (by decide) (by decide) (by decide) (by decide))]
    exact a7
/-! what was worked out is kept -/
theorem VN.fnd {n n' : Nat} {I F : Nat → Nat → Int32} {J J' : Nat → Nat → Int64} (h : VN n I J) (hn : n ≤ n') (e : ∀ c k, scrC c = false → scrF c k = false → ¬ (51 ≤ c ∧ c ≤ 67) → F c k = I c k) (hj : scrJ J J') (c9 : LC F = LC I → RC F = RC I → HC F = HC I → gi F 4 6 = gi I 4 6 → V_mo F ∧ V_wa F ∧ V_sh F ∧ V_se F) : VN n' F J' := by
  have hm : ∀ c k, (c ≤ 36 ∨ (68 ≤ c ∧ c ≤ 69) ∨ c = 71 ∨ c = 73 ∨ (75 ≤ c ∧ c ≤ 107) ∨ c = 121 ∨ c = 131) → gi F c k = gi I c k := fun c k x => gi_eq (e c k (scr_mid (by omega)).1 ((scr_mid (by omega)).2 k) (by omega))
  have h46 : gi F 4 6 = gi I 4 6 := hm 4 6 (by decide)
  have h' := h
  obtain ⟨a1, a2, a3, a4, -, -, a7, -⟩ := h'
  have g74 : ∀ k, scrF 74 k = false → gi F 74 k = gi I 74 k := fun k hk => gi_eq (e 74 k (by decide) hk (by decide))
  refine h.put hn (fun c k x y z => e c k x y (by unfold vhX at z; omega)) (fun c k x y => congrArg Int64.toInt (hj c k (by omega))) (a1.fr (fun k => hm 73 k (by decide)) (fun k => hm 107 k (by decide))) (a2.fr (gi_eq (e 70 2 (by decide) (by decide) (by decide))) (g74 87 (by decide)) (fun k => hm 71 k (by decide)) (fun k => hm 131 k (by decide))) (a3.fr (hm 1 1 (by decide)) (g74 1 (by decide)) (fun k => hm 2 k (by decide)) (fun k => hm 75 k (by decide))) ?_ ?_ (fun x y z => c9 x y z h46) h46
  · rw [hm 3 2 (by decide), hm 3 3 (by decide), g74 10 (by decide), g74 11 (by decide)]
    exact a4
  · rw [hm 0 11 (by decide), show gl J' 74 67 = gl J 74 67 from congrArg Int64.toInt (hj 74 67 (by omega))]
    exact a7
theorem VN.mos {n n' : Nat} {I F : Nat → Nat → Int32} {J J' : Nat → Nat → Int64} (h : VN n I J) (hn : n ≤ n') (hs : mosS I F) (hm : V_mo F) (hj : scrJ J J') : VN n' F J' := by
  refine h.fnd hn (fun c k x y z => hs c k x y (by omega) (by omega) (by omega)) hj (fun hl hr hh h46 => ?_)
  obtain ⟨-, -, -, -, -, -, -, -, -, a10, a11, a12, -⟩ := h
  have g : ∀ c k, (54 ≤ c ∧ c ≤ 67) → gi F c k = gi I c k := fun c k x => gi_eq (hs c k (scr_mid (by omega)).1 ((scr_mid (by omega)).2 k) (by omega) (by omega) (by omega))
  exact ⟨hm, a10.fr hl hr hh h46 (fun k hk => gi_eq (hs 51 k (by decide) ((scr_mid (by omega)).2 k) (by decide) (by decide) (by omega))), a11.fr hl hr hh h46 (fun c i e => g c i (by omega)), a12.fr hl hr hh h46 (fun c i e => g c i (by omega))⟩
theorem VN.wax {n n' : Nat} {I F : Nat → Nat → Int32} {J J' : Nat → Nat → Int64} (h : VN n I J) (hn : n ≤ n') (hs : waxS I F) (hm : V_wa F) (hj : scrJ J J') : VN n' F J' := by
  refine h.fnd hn (fun c k x y z => hs c k x y (by omega) (by omega) (by omega)) hj (fun hl hr hh h46 => ?_)
  obtain ⟨-, -, -, -, -, -, -, -, a9, -, a11, a12, -⟩ := h
  have g : ∀ c k, (54 ≤ c ∧ c ≤ 67) → gi F c k = gi I c k := fun c k x => gi_eq (hs c k (scr_mid (by omega)).1 ((scr_mid (by omega)).2 k) (by omega) (by omega) (by omega))
  exact ⟨a9.fr hl hr hh h46 (fun k hk => gi_eq (hs 51 k (by decide) ((scr_mid (by omega)).2 k) (by decide) (by decide) (by omega))), hm, a11.fr hl hr hh h46 (fun c i e => g c i (by omega)), a12.fr hl hr hh h46 (fun c i e => g c i (by omega))⟩
theorem VN.sha {n n' : Nat} {I F : Nat → Nat → Int32} {J J' : Nat → Nat → Int64} (h : VN n I J) (hn : n ≤ n') (hs : shaS I F) (hm : V_sh F) (hj : scrJ J J') : VN n' F J' := by
  refine h.fnd hn (fun c k x y z => hs c k x y (by omega) (by omega)) hj (fun hl hr hh h46 => ?_)
  obtain ⟨-, -, -, -, -, -, -, -, a9, a10, -, a12, -⟩ := h
  have g : ∀ c k, (c = 51 ∨ (63 ≤ c ∧ c ≤ 67)) → gi F c k = gi I c k := fun c k x => gi_eq (hs c k (scr_mid (by omega)).1 ((scr_mid (by omega)).2 k) (by omega) (by omega))
  exact ⟨a9.fr hl hr hh h46 (fun k hk => g 51 k (by omega)), a10.fr hl hr hh h46 (fun k hk => g 51 k (by omega)), hm, a12.fr hl hr hh h46 (fun c i e => g c i (by omega))⟩
theorem VN.ses {n n' : Nat} {I F : Nat → Nat → Int32} {J J' : Nat → Nat → Int64} (h : VN n I J) (hn : n ≤ n') (hs : sesS I F) (hm : V_se F) (hj : scrJ J J') : VN n' F J' := by
  refine h.fnd hn (fun c k x y z => hs c k x y (by omega) (by omega)) hj (fun hl hr hh h46 => ?_)
  obtain ⟨-, -, -, -, -, -, -, -, a9, a10, a11, -⟩ := h
  have g : ∀ c k, (c = 51 ∨ (54 ≤ c ∧ c ≤ 62)) → gi F c k = gi I c k := fun c k x => gi_eq (hs c k (scr_mid (by omega)).1 ((scr_mid (by omega)).2 k) (by omega) (by omega))
  exact ⟨a9.fr hl hr hh h46 (fun k hk => g 51 k (by omega)), a10.fr hl hr hh h46 (fun k hk => g 51 k (by omega)), a11.fr hl hr hh h46 (fun c i e => g c i (by omega)), hm⟩
/-! an act -/
theorem VN.act {n n' : Nat} {I F : Nat → Nat → Int32} {J J' : Nat → Nat → Int64} (h : VN n I J) (hn : n + 1 ≤ n') (hH : VH F) (hl : LC F = LC I) (hs : actS I F) (hj : scrJ J J') : VN n' F J' := by
  obtain ⟨e, h46⟩ := hs
  have hm : ∀ c k, (c ≤ 36 ∨ (51 ≤ c ∧ c ≤ 69) ∨ c = 71 ∨ c = 73 ∨ (75 ≤ c ∧ c ≤ 107) ∨ c = 121 ∨ c = 131) → ¬ (c = 19 ∨ c = 20 ∨ c = 21) → c ≠ 4 → gi F c k = gi I c k := fun c k x y z => gi_eq (e c k (scr_mid x).1 ((scr_mid x).2 k) (by omega) (by omega) (by omega))
  have g74 : ∀ k, scrF 74 k = false → k ≠ 65 → k ≠ 66 → gi F 74 k = gi I 74 k := fun k hk k1 k2 => gi_eq (e 74 k (by decide) hk (by decide) (by omega) (by omega))
  obtain ⟨a1, a2, a3, a4, a5, a6, a7, a8, a9, a10, a11, a12, a13⟩ := h
  have hb := rx_b a5.1.2.1
  have hL := a5.1.1.1.2.2.2.1
  refine ⟨a1.fr (fun k => hm 73 k (by decide) (by decide) (by decide)) (fun k => hm 107 k (by decide) (by decide) (by decide)), a2.fr (gi_eq (e 70 2 (by decide) (by decide) (by decide) (by decide) (by decide))) (g74 87 (by decide) (by decide) (by decide)) (fun k => hm 71 k (by decide) (by decide) (by decide)) (fun k => hm 131 k (by decide) (by decide) (by decide)), a3.fr (hm 1 1 (by decide) (by decide) (by decide)) (g74 1 (by decide) (by decide) (by decide)) (fun k => hm 2 k (by decide) (by decide) (by decide)) (fun k => hm 75 k (by decide) (by decide) (by decide)), ?_, hH, fun p hp => ?_, ?_, ?_, V_mo.old a9.1 h46 (hm 51 11 (by decide) (by decide) (by decide)), V_wa.old a10.1 h46 (hm 51 14 (by decide) (by decide) (by decide)), V_sh.old a11.1 h46 (hm 54 5 (by decide) (by decide) (by decide)), V_se.old a12.1 h46 (hm 63 9 (by decide) (by decide) (by decide)), by rw [h46]; omega⟩
  · rw [hm 3 2 (by decide) (by decide) (by decide), hm 3 3 (by decide) (by decide) (by decide), g74 10 (by decide) (by decide) (by decide), g74 11 (by decide) (by decide) (by decide)]
    exact a4
  · rw [hl] at hp ⊢
    rw [hm 12 p (by decide) (by decide) (by decide)]
    exact a6 p hp
  · rw [hm 0 11 (by decide) (by decide) (by decide), show gl J' 74 67 = gl J 74 67 from congrArg Int64.toInt (hj 74 67 (by omega))]
    exact a7
  · exact a8.fr (b := (1 - gi I 74 13).toNat) (by omega) (by omega) hL (fun k => hm 6 k (by decide) (by decide) (by decide)) (fun k => hm 7 k (by decide) (by decide) (by decide)) (g74 13 (by decide) (by decide) (by decide)) (fun c k x y _ => congrArg Int64.toInt (hj c k (by omega)))
theorem VN_act {n n' : Nat} (hn : n + 1 ≤ n') (h3 : n ≤ 4000) : Vact (VN n) (VN n') := by
  refine ⟨fun I J h => ?_, fun I J F J' h hH hl _ hs hj => h.act hn hH hl hs hj, fun I J j h hj => h.ref (by omega) j hj⟩
  obtain ⟨-, -, -, -, a5, -, -, -, -, -, -, -, a13⟩ := h
  exact ⟨a5, a13.1, by omega⟩
theorem VN_scr {n n' : Nat} (hn : n ≤ n') : Vsc (VN n) (VN n') := fun I J F J' h hs hj => h.scr hn hs hj
end VNN

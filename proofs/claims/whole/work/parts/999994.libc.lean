section LIBC
/-! ===== the class's library: what pages need, the hall opened, a text from its beginning ===== -/
set_option maxHeartbeats 1000000 in
theorem S_gather {k : Nat} {P : Option Nat} {I : Nat → Nat → Int32} {J : Nat → Nat → Int64} {Q : Option AV → Mem → Prop} {L : Lt} {N : Nt} {R : Rt} {q0 : Nat} (hk : 1 ≤ k) (hS : SCs I L N R q0) (hW : WL L N R) (hf : L 0 2 ≤ 0 ∨ L 0 3 ≠ 0) (hQ : ∀ I', Fr [29] [] I I' → (∀ p : Nat, (p : Int) < L 0 1 → gi I' 29 p = ((nal (Lq L) p : Nat) : Int)) → Q none (mem (P, some 5, some 22) I' J)) : WPm k LAY m_X7_gatherNeeds [vR (some 22)] (mem (P, some 5, some 22) I J) Q := by
  have hL := Lq_wf hW hf
  have hn : 0 ≤ L 0 1 ∧ L 0 1 ≤ 14 := hW.1.2.1
  have h1 : gi I 23 1 = L 0 1 := hS.1 1 (by decide)
  have nd : ∀ p : Nat, (p : Int) < L 0 1 → gi I 28 p = ((ndN (Lq L) p : Nat) : Int) := fun p hp => by
    have e1 : gi I 28 p = L 4 p := (hS.2.2.2.1 p (by omega)).2
    have e2 : Lq L 4 (p : Int) = L 4 p := by
      show tr (L 0 1) (L 4 ((p : Int)).toNat) p = L 4 p
      rw [tr_in ⟨by omega, hp⟩, Int.toNat_natCast]
    have e3 := (hW.2.1 p hp).2.2.2
    unfold ndN
    rw [e1, e2]
    omega
  refine WPm.of k_X7_gatherNeeds.1 (Nat.le_of_ble_eq_true rfl) (B_X7_gatherNeeds_22_0 (by omega) ?_)
  have loop : ∀ (d p : Nat) (x : Int) (I' : Nat → Nat → Int32), p + d = (L 0 1).toNat → x = p → Fr [29] [] I I' → (∀ j : Nat, j < p → gi I' 29 j = ((nal (Lq L) j : Nat) : Int)) → WP k LAY m_X7_gatherNeeds 2 [(0, vR (some 22)), (1, vI x)] [] (mem (P, some 5, some 22) I' J) Q := by
    intro d
    induction d with
    | zero =>
      intro p x I' hp hx hF h
      have h1' : gi I' 23 1 = L 0 1 := (hF.gv 23 1 (by decide) (by decide)).trans h1
      exact B_X7_gatherNeeds_22_2 (by omega) ⟨⟨by omega, by omega⟩, fun _ => hQ I' hF (fun j hj => h j (by omega)), fun t => absurd (show gi I' 23 1 ≤ x by omega) t⟩
    | succ d ih =>
      intro p x I' hp hx hF h
      have h1' : gi I' 23 1 = L 0 1 := (hF.gv 23 1 (by decide) (by decide)).trans h1
      have hpn : (p : Int) < L 0 1 := by omega
      have hlt := (nd_lt hL (q := p) hpn).2
      have p14 := pow_le14 (p := p) (by omega)
      have e28 : gi I' 28 x.toNat = ((ndN (Lq L) p : Nat) : Int) := by
        rw [hF.gv 28 _ (by decide) (by simp), hx, Int.toNat_natCast]
        exact nd p hpn
      have na : ∀ j : Nat, j < p → nal (Lq L) j < 2 ^ p := fun j hj => Nat.lt_of_lt_of_le (nal_cloN hL (p := j) (show (j : Int) < L 0 1 by omega)).2.2 (Nat.pow_le_pow_right (by decide) (by omega))
      have inner : ∀ (e q : Nat) (x2 x3 : Int), q + e = p → x3 = q → x2 = ((accN (nal (Lq L)) (ndN (Lq L) p) q : Nat) : Int) → WP k LAY m_X7_gatherNeeds 21 [(0, vR (some 22)), (1, vI x), (2, vI x2), (3, vI x3)] [] (mem (P, some 5, some 22) I' J) Q := by
        intro e
        induction e with
        | zero =>
          intro q x2 x3 hq h3 h2
          have hqp : q = p := by omega
          have al := accN_lt (na := nal (Lq L)) (v := ndN (Lq L) p) (n := p) q hlt (fun i hi => na i (by omega))
          refine B_X7_gatherNeeds_22_21 (by omega) ⟨⟨by omega, by omega⟩, ⟨by omega, by omega⟩, fun _ => ⟨⟨by omega, by omega⟩, ?_⟩, fun t => absurd (show x ≤ x3 by omega) t⟩
          refine ih (p + 1) _ _ (by omega) (by omega) (hF.up 29 _ _ (Or.inl (by decide))) (fun j hj => ?_)
          rw [gi_si _ _ _ _ _ ⟨by omega, by omega⟩]
          by_cases e : j = p
          · rw [if_pos ⟨rfl, by rw [e, hx]; exact (Int.toNat_natCast p).symm⟩, h2, hqp, e]
            rw [accN_nal hL (show (p : Int) < nP (Lq L) from hpn)]
          · rw [if_neg (by rw [hx, Int.toNat_natCast]; exact fun t => e t.2)]
            exact h j (by omega)
        | succ e ih2 =>
          intro q x2 x3 hq h3 h2
          have al := accN_lt (na := nal (Lq L)) (v := ndN (Lq L) p) (n := p) q hlt (fun i hi => na i (by omega))
          have nq := na q (by omega)
          have ap : and32 (gi I' 28 x.toNat) (shl32 1 x3) = 0 ↔ (ndN (Lq L) p).testBit q = false := by
            rw [e28, h3]
            exact andp_iff (by omega) (by omega)
          refine B_X7_gatherNeeds_22_21 (by omega) ⟨⟨by omega, by omega⟩, ⟨by omega, by omega⟩, fun t => absurd t (by omega), fun _ => ⟨⟨by omega, by omega⟩, fun t => ?_, fun t => ⟨⟨by omega, by omega⟩, ?_⟩⟩⟩
          · refine ih2 (q + 1) _ _ (by omega) (by omega) ?_
            have := ap.mp t
            unfold accN
            rw [if_neg (by rw [this]; decide)]
            exact h2
          · refine ih2 (q + 1) _ _ (by omega) (by omega) ?_
            have tb : (ndN (Lq L) p).testBit q = true := by
              cases hb : (ndN (Lq L) p).testBit q
              · exact absurd (ap.mpr hb) t
              · rfl
            unfold accN
            rw [if_pos tb, h2, h3, Int.toNat_natCast, h q (by omega), or32_nat (by omega) (by omega)]
      exact B_X7_gatherNeeds_22_2 (by omega) ⟨⟨by omega, by omega⟩, fun t => absurd t (by omega), fun _ => ⟨⟨by omega, by omega⟩, inner p 0 _ _ (by omega) rfl (by rw [e28]; rfl)⟩⟩
  exact loop _ 0 _ I (Nat.zero_add _) rfl (Fr.rf _ _ _) (fun j hj => absurd hj (by omega))
/-- the hall's row when it is opened -/
def rw0 (i : Nat) : Int := if 3 ≤ i ∧ (i - 3) % 14 = 3 then -1 else 0
set_option maxHeartbeats 1000000 in
theorem S_open {k : Nat} {P : Option Nat} {I : Nat → Nat → Int32} {J : Nat → Nat → Int64} {Q : Option AV → Mem → Prop} (hk : 2 ≤ k) (hst : 0 ≤ gi I 4 6 ∧ gi I 4 6 < 1000000) (hQ : ∀ I', Fr [19] [(4, 4), (4, 5), (4, 6)] I I' → gi I' 4 4 = 0 → gi I' 4 5 = 0 → gi I' 4 6 = gi I 4 6 + 1 → (∀ i : Nat, i < 87 → gi I' 19 i = rw0 i) → Q none (mem (P, some 22, some 22) I' J)) : WPm k LAY m_X2_open [vR (some 4), vR (some 22)] (mem (P, some 5, some 22) I J) Q := by
  refine WPm.of k_X2_open.1 (Nat.le_of_ble_eq_true rfl) (B_X2_open_0 (by omega) ?_)
  have loop : ∀ (d n : Nat) (x : Int) (I' : Nat → Nat → Int32), n + d = 6 → x = n → Fr [19] [] I I' → (∀ i : Nat, i < 87 → gi I' 19 i = if 3 ≤ i ∧ (i - 3) % 14 = 3 ∧ (i - 3) / 14 < n then -1 else 0) → WP k LAY m_X2_open 15 [(0, vR (some 4)), (2, vI x)] [] (mem (P, some 22, some 22) I' J) Q := by
    intro d
    induction d with
    | zero =>
      intro n x I' hn hx hF h
      have e46 : gi I' 4 6 = gi I 4 6 := hF.gv 4 6 (by decide) (by decide)
      refine W_X2_open_15 (by omega) ⟨⟨by omega, by omega⟩, fun _ => ?_, fun t => absurd (show 6 ≤ x by omega) t⟩
      refine hQ _ ?_ ?_ ?_ ?_ (fun i hi => ?_)
      · exact (((hF.mono (fun _ t => t) (fun _ t => by cases t)).up 4 4 _ (Or.inr (by decide))).up 4 5 _ (Or.inr (by decide))).up 4 6 _ (Or.inr (by decide))
      · rw [gi_idx _ _ _ (by decide), gi_idx _ _ _ (by decide), gi_si _ _ _ _ _ (by decide), if_pos ⟨rfl, rfl⟩]
      · rw [gi_idx _ _ _ (by decide), gi_si _ _ _ _ _ (by decide), if_pos ⟨rfl, rfl⟩]
      · rw [gi_si _ _ _ _ _ ⟨by omega, by omega⟩, if_pos ⟨rfl, rfl⟩, e46]
      · rw [gi_si _ _ _ _ _ ⟨by omega, by omega⟩, if_neg (fun t => absurd t.1 (by decide)), gi_si _ _ _ _ _ (by decide), if_neg (fun t => absurd t.1 (by decide)), gi_si _ _ _ _ _ (by decide), if_neg (fun t => absurd t.1 (by decide)), h i hi]
        unfold rw0
        by_cases c : 3 ≤ i ∧ (i - 3) % 14 = 3
        · rw [if_pos ⟨c.1, c.2, by omega⟩, if_pos c]
        · rw [if_neg (fun t => c ⟨t.1, t.2.1⟩), if_neg c]
    | succ d ih =>
      intro n x I' hn hx hF h
      refine W_X2_open_15 (by omega) ⟨⟨by omega, by omega⟩, fun t => absurd t (by omega), fun _ => ⟨⟨by omega, by omega⟩, ?_⟩⟩
      refine ih (n + 1) _ _ (by omega) (by omega) (hF.up 19 _ _ (Or.inl (by decide))) (fun i hi => ?_)
      rw [gi_si _ _ _ _ _ (by decide)]
      by_cases e : i = ((3 + (x * 14)) + 3).toNat
      · rw [if_pos ⟨rfl, e⟩, if_pos ⟨by omega, by omega, by omega⟩]
      · rw [if_neg (fun t => e t.2), h i hi]
        by_cases c : 3 ≤ i ∧ (i - 3) % 14 = 3 ∧ (i - 3) / 14 < n
        · rw [if_pos c, if_pos ⟨c.1, c.2.1, by omega⟩]
        · rw [if_neg c, if_neg (fun t => c ⟨t.1, t.2.1, by omega⟩)]
  refine loop 6 0 _ _ rfl rfl (fun c k hc _ => ?_) (fun i hi => ?_)
  · have hc' : c ≠ 19 := fun t => hc (by rw [t]; decide)
    exact congrFun (if_neg hc') k
  · rw [gi_flI _ _ _ (by decide), if_pos ⟨rfl, hi⟩, if_neg (fun t => absurd t.2.2 (by omega))]
theorem Fr.fl {cs : List Nat} {fs : List (Nat × Nat)} {I I' : Nat → Nat → Int32} (h : Fr cs fs I I') (a n : Nat) (z : Int) (ha : a ∈ cs) : Fr cs fs I (flI I' a n z) := fun c k h1 h2 => by
  have hc' : c ≠ a := fun t => h1 (by rw [t]; exact ha)
  exact (congrFun (if_neg hc') k).trans (h c k h1 h2)
theorem TX.TI_of {T : Nat → Int} {n : Nat} {I I' : Nat → Nat → Int32} (h : TI I T n) (hF : Fr CSc FLce I I') : TI I' T n := h.fr hF (by decide) (by decide)
set_option maxHeartbeats 1000000 in
theorem S_X3_parse {k : Nat} {P : Option Nat} {I : Nat → Nat → Int32} {J : Nat → Nat → Int64} {Q : Option AV → Mem → Prop} {T : Nat → Int} {n : Nat} {r : LbR} (hk : 207 ≤ k) (hX : TX T n) (hT : TI I T n) (hr : CLc T n Lz Nz Rz 0 0 r) (hQ : ∀ I1, Fr CSc FLce I I1 → gi I1 3 2 = 0 → gi I1 3 3 = -1 → CLo k I1 J Q n r) : WPm k LAY m_X3_parse [vR (some 3), vR (some 22)] (mem (P, some 5, some 22) I J) Q := by
  refine WPm.of k_X3_parse.1 (Nat.le_of_ble_eq_true rfl) (B_X3_parse_0 (by omega) ?_)
  refine WPm.of k_X7_clear.1 (Nat.le_of_ble_eq_true rfl) (B_X7_clear_22_0 (by omega) ⟨_, _, rfl, rfl, ?_⟩)
  dsimp only
  generalize hA : si (si (si (flI (flI (flI (flI (flI I 23 4 0) 24 180 0) 27 14 0) 28 14 0) 35 3 0) 22 13 0) 22 14 0) 22 15 60 = A
  have hFA : Fr CSc FLce I A := by
    rw [← hA]
    exact ((((((((Fr.rf _ _ _).fl 23 _ _ (by decide)).fl 24 _ _ (by decide)).fl 27 _ _ (by decide)).fl 28 _ _ (by decide)).fl 35 _ _ (by decide)).up 22 13 _ (Or.inr (by decide))).up 22 14 _ (Or.inr (by decide))).up 22 15 _ (Or.inr (by decide))
  have v : ∀ c k, c ≠ 22 → gi A c k = gi (flI (flI (flI (flI (flI I 23 4 0) 24 180 0) 27 14 0) 28 14 0) 35 3 0) c k := fun c k hc => by
    rw [← hA, gi_si _ _ _ _ _ (by decide), if_neg (fun t => hc t.1), gi_si _ _ _ _ _ (by decide), if_neg (fun t => hc t.1), gi_si _ _ _ _ _ (by decide), if_neg (fun t => hc t.1)]
  have z23 : ∀ j, j < 4 → gi A 23 j = 0 := fun j hj => by
    rw [v 23 j (by decide), gi_flI _ _ _ (by decide), if_neg (fun t => absurd t.1 (by decide)), gi_flI _ _ _ (by decide), if_neg (fun t => absurd t.1 (by decide)), gi_flI _ _ _ (by decide), if_neg (fun t => absurd t.1 (by decide)), gi_flI _ _ _ (by decide), if_neg (fun t => absurd t.1 (by decide)), gi_flI _ _ _ (by decide), if_pos ⟨rfl, hj⟩]
  have z27 : ∀ j, j < 14 → gi A 27 j = 0 := fun j hj => by
    rw [v 27 j (by decide), gi_flI _ _ _ (by decide), if_neg (fun t => absurd t.1 (by decide)), gi_flI _ _ _ (by decide), if_neg (fun t => absurd t.1 (by decide)), gi_flI _ _ _ (by decide), if_pos ⟨rfl, hj⟩]
  have z28 : ∀ j, j < 14 → gi A 28 j = 0 := fun j hj => by
    rw [v 28 j (by decide), gi_flI _ _ _ (by decide), if_neg (fun t => absurd t.1 (by decide)), gi_flI _ _ _ (by decide), if_pos ⟨rfl, hj⟩]
  have z35 : ∀ j, j < 3 → gi A 35 j = 0 := fun j hj => by
    rw [v 35 j (by decide), gi_flI _ _ _ (by decide), if_pos ⟨rfl, hj⟩]
  have z13 : gi A 22 13 = 0 := by
    rw [← hA, gi_idx _ _ _ (by decide), gi_idx _ _ _ (by decide), gi_si _ _ _ _ _ (by decide), if_pos ⟨rfl, rfl⟩]
  have z14 : gi A 22 14 = 0 := by
    rw [← hA, gi_idx _ _ _ (by decide), gi_si _ _ _ _ _ (by decide), if_pos ⟨rfl, rfl⟩]
  have z15 : gi A 22 15 = 60 := by
    rw [← hA, gi_si _ _ _ _ _ (by decide), if_pos ⟨rfl, rfl⟩]
  clear hA v
  generalize hB : si (si (si A 3 2 0) 3 3 (-1)) 3 4 0 = B
  have hAB : Fr [] [(3, 2), (3, 3), (3, 4)] A B := by
    rw [← hB]
    exact (((Fr.rf _ _ _).up 3 2 _ (Or.inr (by decide))).up 3 3 _ (Or.inr (by decide))).up 3 4 _ (Or.inr (by decide))
  have b2 : gi B 3 2 = 0 := by
    rw [← hB, gi_idx _ _ _ (by decide), gi_idx _ _ _ (by decide), gi_si _ _ _ _ _ (by decide), if_pos ⟨rfl, rfl⟩]
  have b3 : gi B 3 3 = -1 := by
    rw [← hB, gi_idx _ _ _ (by decide), gi_si _ _ _ _ _ (by decide), if_pos ⟨rfl, rfl⟩]
  have b4 : gi B 3 4 = 0 := by
    rw [← hB, gi_si _ _ _ _ _ (by decide), if_pos ⟨rfl, rfl⟩]
  clear hB
  have hFB : Fr CSc FLce I B := hFA.tr (hAB.mono (fun _ t => by cases t) (fun q hq => Or.inl (by
    simp only [List.mem_cons, List.not_mem_nil, or_false] at hq ⊢
    rcases hq with e | e | e <;> subst e <;> simp)))
  refine S_X10_rewind (by omega) hX (TX.TI_of hT hFB) (fun I' hC hF => ⟨_, _, rfl, rfl, ?_⟩)
  dsimp only
  have g : ∀ c k, c ≠ 1 → c ≠ 3 → gi I' c k = gi A c k := fun c k h1 h3 => by
    rw [hF.gvc k (by simp) (fun q hq => by simp only [List.mem_cons, List.not_mem_nil, or_false] at hq; rcases hq with e | e | e | e | e <;> subst e <;> exact fun t => h1 t.symm), hAB.gvc k (by simp) (fun q hq => by simp only [List.mem_cons, List.not_mem_nil, or_false] at hq; rcases hq with e | e | e <;> subst e <;> exact fun t => h3 t.symm)]
  refine hr k I' J Q 0 (by omega) hC ?_ (SCz ?_ ?_ ?_ ?_ ?_ ?_) (Nat.zero_le _) (hQ I' (hFB.tr (hF.c.ce)) ?_ ?_)
  · rw [hF.gv 3 4 (by decide) (by decide)]; exact b4
  · exact fun j hj => by rw [g 23 j (by decide) (by decide)]; exact z23 j hj
  · rw [g 22 14 (by decide) (by decide)]; exact z14
  · rw [g 22 15 (by decide) (by decide)]; exact z15
  · exact fun j hj => by rw [g 27 j (by decide) (by decide), g 28 j (by decide) (by decide)]; exact ⟨z27 j hj, z28 j hj⟩
  · exact fun j hj => by rw [g 35 j (by decide) (by decide)]; exact z35 j hj
  · rw [g 22 13 (by decide) (by decide)]; exact z13
  · rw [hF.gv 3 2 (by decide) (by decide)]; exact b2
  · rw [hF.gv 3 3 (by decide) (by decide)]; exact b3
end LIBC

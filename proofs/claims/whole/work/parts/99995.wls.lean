section WLS
/-! ===== what is always kept is kept ===== -/
theorem ci_i {P : Prop} {a b x : St} (h : ci P a b = x) : (P ∧ a = x) ∨ (¬ P ∧ b = x) := by
  by_cases p : P
  · rw [ci_y p] at h; exact Or.inl ⟨p, h⟩
  · rw [ci_n p] at h; exact Or.inr ⟨p, h⟩
theorem inl_ne {e : Int × Int} {c : (Lt × Nt × Rt) × Nat} (h : (Sum.inl e : St) = .inr c) : False := by cases h
theorem pG_i {T : Nat → Int} {n p : Nat} {L : Lt} {N : Nt} {c : Nat → St} {r : (Lt × Nt × Rt) × Nat} (hp : p ≤ n) (h : pG T n L N p c = .inr r) : (p ≤ tE T n p ∧ tE T n p ≤ n) ∧ nmOk (lR T n p) ∧ c (tE T n p) = .inr r := by
  unfold pG at h
  rcases ci_i h with ⟨h1, h⟩ | ⟨_, h⟩
  · rcases ci_i h with ⟨h2, h⟩ | ⟨_, h⟩
    · have hg := tE_gt (T := T) hp (by rw [h1.2.1]; decide)
      exact ⟨⟨by omega, hg.2.1⟩, (h1.ok hp).1, h⟩
    · exact (inl_ne h).elim
  · exact (inl_ne h).elim
theorem pW_i {T : Nat → Int} {n p : Nat} {w : Int} {c : Nat → St} {r : (Lt × Nt × Rt) × Nat} (hp : p ≤ n) (h : pW T n w p c = .inr r) : (p ≤ tE T n p ∧ tE T n p ≤ n) ∧ c (tE T n p) = .inr r := by
  unfold pW at h
  rcases ci_i h with ⟨h1, h⟩ | ⟨_, h⟩
  · have hg := tE_gt (T := T) hp (by rw [h1.2.1]; decide)
    exact ⟨⟨by omega, hg.2.1⟩, h⟩
  · exact (inl_ne h).elim
theorem pNu_i {T : Nat → Int} {n p : Nat} {lo hi : Int} {c : Int → Nat → St} {r : (Lt × Nt × Rt) × Nat} (hp : p ≤ n) (h : pNu T n lo hi p c = .inr r) : (p ≤ tE T n p ∧ tE T n p ≤ n) ∧ (lo ≤ vl T n p ∧ vl T n p ≤ hi) ∧ c (vl T n p) (tE T n p) = .inr r := by
  unfold pNu at h
  rcases ci_i h with ⟨h1, h⟩ | ⟨_, h⟩
  · rcases ci_i h with ⟨h2, h⟩ | ⟨_, h⟩
    · have hg := tE_gt (T := T) hp (by rw [h1.2]; decide)
      exact ⟨⟨by omega, hg.2.1⟩, h2, h⟩
    · exact (inl_ne h).elim
  · exact (inl_ne h).elim
theorem pA_i {T : Nat → Int} {n p s : Nat} {L : Lt} {N : Nt} {c : Nat → St} {r : (Lt × Nt × Rt) × Nat} (hp : p ≤ n) (hn : 0 ≤ L 0 s) (h : pA T n s L N p c = .inr r) : (p ≤ tE T n p ∧ tE T n p ≤ n) ∧ ∃ v : Nat, (v : Int) < L 0 s ∧ c v = .inr r := by
  unfold pA at h
  rcases ci_i h with ⟨h1, h⟩ | ⟨_, h⟩
  · rcases ci_i h with ⟨_, h⟩ | ⟨h2, h⟩
    · exact (inl_ne h).elim
    · have hg := tE_gt (T := T) hp (by rw [h1.2.1]; decide)
      rcases fd_in (N s) hn (lR T n p) with q | q
      · exact absurd q h2
      · exact ⟨⟨by omega, hg.2.1⟩, (fd (N s) (L 0 s) (lR T n p)).toNat, by omega, h⟩
  · exact (inl_ne h).elim
theorem WL.give {L L' : Lt} {N : Nt} {R : Rt} {s : Nat} {r : List Nat} (hW : WL L N R) (hs : s < 4) (hc : L 0 s < cpc s) (hr : nmOk r) (hL0 : ∀ j, j ≠ s → L' 0 j = L 0 j) (hLs : L' 0 s = L 0 s + 1) (hp : ∀ i : Nat, (i : Int) < L' 0 1 → (0 ≤ L' 1 i ∧ L' 1 i < L' 0 0) ∧ (1 ≤ L' 2 i ∧ L' 2 i ≤ 99) ∧ (0 ≤ L' 3 i ∧ L' 3 i ≤ 1) ∧ (0 ≤ L' 4 i ∧ (L' 4 i).toNat < 2 ^ i)) (hd : ∀ i : Nat, (i : Int) < L' 0 2 → (1 ≤ L' 5 i ∧ L' 5 i ≤ 9) ∧ (0 ≤ L' 6 i ∧ L' 6 i ≤ 9)) (ht : ∀ i : Nat, (i : Int) < L' 0 3 → 0 ≤ L' 7 i ∧ L' 7 i ≤ 9) (hz : ∀ i : Nat, L' 0 1 ≤ (i : Int) → L' 3 i = 0 ∧ L' 4 i = 0) : WL L' (putN N s (L 0 s).toNat r) R := by
  have cs := hW.c hs
  obtain ⟨⟨z0, z1, z2, z3, z4, z5⟩, -, -, -, -, a6, a7⟩ := hW
  have cc : ∀ k, k < 4 → 0 ≤ L' 0 k ∧ L' 0 k ≤ cpc k := fun k hk => by
    by_cases e : k = s
    · subst e
      rw [hLs]
      omega
    · rw [hL0 k e]
      have e4 : k = 0 ∨ k = 1 ∨ k = 2 ∨ k = 3 := by omega
      rcases e4 with e4 | e4 | e4 | e4 <;> subst e4
      · exact z0
      · exact z1
      · exact z2
      · exact z3
  refine ⟨⟨cc 0 (by decide), cc 1 (by decide), cc 2 (by decide), cc 3 (by decide), ?_, ?_⟩, hp, hd, ht, hz, fun k i hk hi => ?_, a7⟩
  · rw [hL0 4 (by omega)]; exact z4
  · rw [hL0 5 (by omega)]; exact z5
  · by_cases e : k = s ∧ i = (L 0 s).toNat
    · rw [e.1, e.2, putN_s]
      exact hr
    · rw [putN_o N r e]
      refine a6 k i hk ?_
      by_cases ek : k = s
      · subst ek
        rw [hLs] at hi
        have : i ≠ (L 0 k).toNat := fun t => e ⟨rfl, t⟩
        omega
      · rw [hL0 k ek] at hi
        exact hi
set_option maxHeartbeats 2000000 in
theorem WL_book {L : Lt} {N : Nt} {R : Rt} {r : List Nat} (hW : WL L N R) (hc : L 0 0 < 5) (hr : nmOk r) : WL (giveL L 0) (putN N 0 (L 0 0).toNat r) R := by
  have gL := giveL_0 L 0
  refine hW.give (by decide) hc hr (fun j hj => (gL j).1 hj) (gL 0).2 (fun i hi => ?_) (fun i hi => ?_) (fun i hi => ?_) (fun i hi => ?_)
  · rw [(gL 1).1 (by decide)] at hi
    rw [giveL_f (f := 1) _ _ _ (by decide), giveL_f (f := 2) _ _ _ (by decide), giveL_f (f := 3) _ _ _ (by decide), giveL_f (f := 4) _ _ _ (by decide), (gL 0).2]
    obtain ⟨⟨a, b⟩, c⟩ := hW.2.1 i hi
    exact ⟨⟨a, by omega⟩, c⟩
  · rw [(gL 2).1 (by decide)] at hi
    rw [giveL_f _ _ _ (by decide), giveL_f _ _ _ (by decide)]
    exact hW.2.2.1 i hi
  · rw [(gL 3).1 (by decide)] at hi
    rw [giveL_f _ _ _ (by decide)]
    exact hW.2.2.2.1 i hi
  · rw [(gL 1).1 (by decide)] at hi
    rw [giveL_f _ _ _ (by decide), giveL_f _ _ _ (by decide)]
    exact hW.2.2.2.2.1 i hi
set_option maxHeartbeats 2000000 in
theorem WL_reader {L : Lt} {N : Nt} {R : Rt} {r : List Nat} {pc ey : Int} (hW : WL L N R) (hc : L 0 2 < 6) (hr : nmOk r) (h1 : 1 ≤ pc ∧ pc ≤ 9) (h2 : 0 ≤ ey ∧ ey ≤ 9) : WL (readerL L (L 0 2).toNat pc ey) (putN N 2 (L 0 2).toNat r) R := by
  unfold readerL
  have hc0 : 0 ≤ L 0 2 := hW.1.2.2.1.1
  have p0 : ∀ j, putL (putL L 5 (L 0 2).toNat pc) 6 (L 0 2).toNat ey 0 j = L 0 j := fun j => by rw [putL_o _ _ (by omega), putL_o _ _ (by omega)]
  have po : ∀ f i, ¬ ((f = 5 ∨ f = 6) ∧ i = (L 0 2).toNat) → putL (putL L 5 (L 0 2).toNat pc) 6 (L 0 2).toNat ey f i = L f i := fun f i h => by rw [putL_o _ _ (by omega), putL_o _ _ (by omega)]
  have p5 : putL (putL L 5 (L 0 2).toNat pc) 6 (L 0 2).toNat ey 5 (L 0 2).toNat = pc := by rw [putL_o _ _ (by omega), putL_s]
  have p6 : putL (putL L 5 (L 0 2).toNat pc) 6 (L 0 2).toNat ey 6 (L 0 2).toNat = ey := putL_s _ _ _ _
  generalize putL (putL L 5 (L 0 2).toNat pc) 6 (L 0 2).toNat ey = LL at *
  have gL := giveL_0 LL 2
  refine hW.give (by decide) hc hr (fun j hj => by rw [(gL j).1 hj, p0]) (by rw [(gL 2).2, p0]) (fun i hi => ?_) (fun i hi => ?_) (fun i hi => ?_) (fun i hi => ?_)
  · rw [(gL 1).1 (by decide), p0] at hi
    rw [giveL_f (f := 1) _ _ _ (by decide), giveL_f (f := 2) _ _ _ (by decide), giveL_f (f := 3) _ _ _ (by decide), giveL_f (f := 4) _ _ _ (by decide), (gL 0).1 (by decide), p0, po _ _ (by omega), po _ _ (by omega), po _ _ (by omega), po _ _ (by omega)]
    exact hW.2.1 i hi
  · rw [(gL 2).2, p0] at hi
    rw [giveL_f _ _ _ (by decide), giveL_f _ _ _ (by decide)]
    by_cases e : i = (L 0 2).toNat
    · rw [e, p5, p6]
      exact ⟨h1, h2⟩
    · rw [po _ _ (by omega), po _ _ (by omega)]
      exact hW.2.2.1 i (by omega)
  · rw [(gL 3).1 (by decide), p0] at hi
    rw [giveL_f _ _ _ (by decide), po _ _ (by omega)]
    exact hW.2.2.2.1 i hi
  · rw [(gL 1).1 (by decide), p0] at hi
    rw [giveL_f _ _ _ (by decide), giveL_f _ _ _ (by decide), po _ _ (by omega), po _ _ (by omega)]
    exact hW.2.2.2.2.1 i hi
set_option maxHeartbeats 2000000 in
theorem WL_table {L : Lt} {N : Nt} {R : Rt} {r : List Nat} {d : Int} (hW : WL L N R) (hc : L 0 3 < 5) (hr : nmOk r) (h1 : 0 ≤ d ∧ d ≤ 9) : WL (tableL L (L 0 3).toNat d) (putN N 3 (L 0 3).toNat r) R := by
  unfold tableL
  have hc0 : 0 ≤ L 0 3 := hW.1.2.2.2.1.1
  have po : ∀ f i, ¬ (f = 7 ∧ i = (L 0 3).toNat) → putL L 7 (L 0 3).toNat d f i = L f i := fun f i h => putL_o _ _ h
  have p7 : putL L 7 (L 0 3).toNat d 7 (L 0 3).toNat = d := putL_s _ _ _ _
  generalize putL L 7 (L 0 3).toNat d = LL at *
  have p0 : ∀ j, LL 0 j = L 0 j := fun j => po 0 j (by omega)
  have gL := giveL_0 LL 3
  refine hW.give (by decide) hc hr (fun j hj => by rw [(gL j).1 hj, p0]) (by rw [(gL 3).2, p0]) (fun i hi => ?_) (fun i hi => ?_) (fun i hi => ?_) (fun i hi => ?_)
  · rw [(gL 1).1 (by decide), p0] at hi
    rw [giveL_f (f := 1) _ _ _ (by decide), giveL_f (f := 2) _ _ _ (by decide), giveL_f (f := 3) _ _ _ (by decide), giveL_f (f := 4) _ _ _ (by decide), (gL 0).1 (by decide), p0, po _ _ (by omega), po _ _ (by omega), po _ _ (by omega), po _ _ (by omega)]
    exact hW.2.1 i hi
  · rw [(gL 2).1 (by decide), p0] at hi
    rw [giveL_f _ _ _ (by decide), giveL_f _ _ _ (by decide), po _ _ (by omega), po _ _ (by omega)]
    exact hW.2.2.1 i hi
  · rw [(gL 3).2, p0] at hi
    rw [giveL_f _ _ _ (by decide)]
    by_cases e : i = (L 0 3).toNat
    · rw [e, p7]
      exact h1
    · rw [po _ _ (by omega)]
      exact hW.2.2.2.1 i (by omega)
  · rw [(gL 1).1 (by decide), p0] at hi
    rw [giveL_f _ _ _ (by decide), giveL_f _ _ _ (by decide), po _ _ (by omega), po _ _ (by omega)]
    exact hW.2.2.2.2.1 i hi
set_option maxHeartbeats 2000000 in
theorem WL_page {L : Lt} {N : Nt} {R : Rt} {r : List Nat} {bk ln g : Int} (hW : WL L N R) (hc : L 0 1 < 14) (hr : nmOk r) (h1 : 0 ≤ bk ∧ bk < L 0 0) (h2 : 1 ≤ ln ∧ ln ≤ 99) (h3 : 0 ≤ g ∧ g ≤ 1) : WL (pageL L (L 0 1).toNat bk ln g) (putN N 1 (L 0 1).toNat r) R := by
  unfold pageL
  have hc0 : 0 ≤ L 0 1 := hW.1.2.1.1
  have po : ∀ f i, ¬ ((1 ≤ f ∧ f ≤ 4) ∧ i = (L 0 1).toNat) → putL (putL (putL (putL L 1 (L 0 1).toNat bk) 2 (L 0 1).toNat ln) 3 (L 0 1).toNat g) 4 (L 0 1).toNat 0 f i = L f i := fun f i h => by rw [putL_o _ _ (by omega), putL_o _ _ (by omega), putL_o _ _ (by omega), putL_o _ _ (by omega)]
  have q1 : putL (putL (putL (putL L 1 (L 0 1).toNat bk) 2 (L 0 1).toNat ln) 3 (L 0 1).toNat g) 4 (L 0 1).toNat 0 1 (L 0 1).toNat = bk := by rw [putL_o _ _ (by omega), putL_o _ _ (by omega), putL_o _ _ (by omega), putL_s]
  have q2 : putL (putL (putL (putL L 1 (L 0 1).toNat bk) 2 (L 0 1).toNat ln) 3 (L 0 1).toNat g) 4 (L 0 1).toNat 0 2 (L 0 1).toNat = ln := by rw [putL_o _ _ (by omega), putL_o _ _ (by omega), putL_s]
  have q3 : putL (putL (putL (putL L 1 (L 0 1).toNat bk) 2 (L 0 1).toNat ln) 3 (L 0 1).toNat g) 4 (L 0 1).toNat 0 3 (L 0 1).toNat = g := by rw [putL_o _ _ (by omega), putL_s]
  have q4 : putL (putL (putL (putL L 1 (L 0 1).toNat bk) 2 (L 0 1).toNat ln) 3 (L 0 1).toNat g) 4 (L 0 1).toNat 0 4 (L 0 1).toNat = 0 := putL_s _ _ _ _
  generalize putL (putL (putL (putL L 1 (L 0 1).toNat bk) 2 (L 0 1).toNat ln) 3 (L 0 1).toNat g) 4 (L 0 1).toNat 0 = LL at *
  have p0 : ∀ j, LL 0 j = L 0 j := fun j => po 0 j (by omega)
  have gL := giveL_0 LL 1
  refine hW.give (by decide) hc hr (fun j hj => by rw [(gL j).1 hj, p0]) (by rw [(gL 1).2, p0]) (fun i hi => ?_) (fun i hi => ?_) (fun i hi => ?_) (fun i hi => ?_)
  · rw [(gL 1).2, p0] at hi
    rw [giveL_f (f := 1) _ _ _ (by decide), giveL_f (f := 2) _ _ _ (by decide), giveL_f (f := 3) _ _ _ (by decide), giveL_f (f := 4) _ _ _ (by decide), (gL 0).1 (by decide), p0]
    by_cases e : i = (L 0 1).toNat
    · rw [e, q1, q2, q3, q4]
      exact ⟨h1, h2, h3, by decide, Nat.pow_pos (by decide)⟩
    · rw [po _ _ (by omega), po _ _ (by omega), po _ _ (by omega), po _ _ (by omega)]
      exact hW.2.1 i (by omega)
  · rw [(gL 2).1 (by decide), p0] at hi
    rw [giveL_f _ _ _ (by decide), giveL_f _ _ _ (by decide), po _ _ (by omega), po _ _ (by omega)]
    exact hW.2.2.1 i hi
  · rw [(gL 3).1 (by decide), p0] at hi
    rw [giveL_f _ _ _ (by decide), po _ _ (by omega)]
    exact hW.2.2.2.1 i hi
  · rw [(gL 1).2, p0] at hi
    rw [giveL_f _ _ _ (by decide), giveL_f _ _ _ (by decide), po _ _ (by omega), po _ _ (by omega)]
    exact hW.2.2.2.2.1 i (by omega)
end WLS

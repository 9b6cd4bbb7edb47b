section RLIB
/-! ===== the reference's library, from its beginning ===== -/
abbrev CSl : List Nat := [76, 77, 82, 83, 86, 88, 89, 91, 93]
abbrev FLl : List (Nat × Nat) := [(74, 1), (74, 2), (74, 5), (74, 8), (74, 9), (74, 40), (74, 39)]
set_option maxHeartbeats 1000000 in
theorem R_lib {T : Nat → Int} {n k b : Nat} {P : Option Nat} {I : Nat → Nat → Int32} {J : Nat → Nat → Int64} {Q : Option AV → Mem → Prop} {r : LbR} (hk : 46 ≤ k) (hX : TX T n) (h1 : gi I 74 1 = (n : Int)) (h75 : ∀ i, i < n → gi I 75 i = T i) (hb : b < 2) (h13 : gi I 74 13 = 1 - (b : Int)) (hr : RLc T n Lz Nz Rz 0 0 r) (hQ : ∀ I1 J1, Fr CSl FLl I I1 → (∀ c j, c ∈ CSl → j ≠ b → gi I1 c j = gi I c j) → gi I1 74 9 = -1 ∧ gi I1 74 1 = 0 → ∀ I2, Fr [] FLr I1 I2 → Fr [] [(74, 7)] J J1 → RLo k b P I2 J1 Q n r) : WPm k LAY m_X12_library [vR (some 74)] (mem (P, some 5, some 22) I J) Q := by
  have hn := hX.1
  have s40 : gi (si (si (si (si (si (si I 74 2 (gi I 74 1)) 74 1 0) 74 5 0) 74 8 0) 74 9 (-1)) 74 40 (1 - (gi I 74 13))) 74 40 = (b : Int) := by
    rw [gi_si _ _ _ _ _ (by unfold inR; omega), if_pos ⟨rfl, rfl⟩, h13]
    omega
  refine WPm.of k_X12_library.1 (Nat.le_of_ble_eq_true rfl) (B_X12_library_0 (by omega) ?_)
  rw [s40, Int.toNat_natCast]
  generalize hA : si (si (si (si (si (si I 74 2 (gi I 74 1)) 74 1 0) 74 5 0) 74 8 0) 74 9 (-1)) 74 40 (1 - (gi I 74 13)) = A at *
  have hFA : Fr [] FLl I A := by
    rw [← hA]
    exact ((((((Fr.rf _ _ _).up 74 2 _ (Or.inr (by decide))).up 74 1 _ (Or.inr (by decide))).up 74 5 _ (Or.inr (by decide))).up 74 8 _ (Or.inr (by decide))).up 74 9 _ (Or.inr (by decide))).up 74 40 _ (Or.inr (by decide))
  have a2 : gi A 74 2 = (n : Int) := by
    rw [← hA, gi_idx _ _ _ (by decide), gi_idx _ _ _ (by decide), gi_idx _ _ _ (by decide), gi_idx _ _ _ (by decide), gi_idx _ _ _ (by decide), gi_si _ _ _ _ _ (gi_in _ _ _), if_pos ⟨rfl, rfl⟩, h1]
  have a1 : gi A 74 1 = 0 := by
    rw [← hA, gi_idx _ _ _ (by decide), gi_idx _ _ _ (by decide), gi_idx _ _ _ (by decide), gi_idx _ _ _ (by decide), gi_si _ _ _ _ _ (by decide), if_pos ⟨rfl, rfl⟩]
  have a5 : gi A 74 5 = 0 := by
    rw [← hA, gi_idx _ _ _ (by decide), gi_idx _ _ _ (by decide), gi_idx _ _ _ (by decide), gi_si _ _ _ _ _ (by decide), if_pos ⟨rfl, rfl⟩]
  have a8 : gi A 74 8 = 0 := by
    rw [← hA, gi_idx _ _ _ (by decide), gi_idx _ _ _ (by decide), gi_si _ _ _ _ _ (by decide), if_pos ⟨rfl, rfl⟩]
  have a9 : gi A 74 9 = -1 := by
    rw [← hA, gi_idx _ _ _ (by decide), gi_si _ _ _ _ _ (by decide), if_pos ⟨rfl, rfl⟩]
  refine ⟨by omega, ?_⟩
  generalize hB : si (si (si (si (si (si (si (si (si (si A 76 b 0) 77 b 0) 82 b 0) 83 b 0) 86 b 0) 88 b 60) 89 b (-1)) 91 b (-1)) 93 b (-1)) 74 39 0 = B
  have hFB : Fr CSl [(74, 39)] A B := by
    rw [← hB]
    exact ((((((((((Fr.rf _ _ _).up 76 _ _ (Or.inl (by decide))).up 77 _ _ (Or.inl (by decide))).up 82 _ _ (Or.inl (by decide))).up 83 _ _ (Or.inl (by decide))).up 86 _ _ (Or.inl (by decide))).up 88 _ _ (Or.inl (by decide))).up 89 _ _ (Or.inl (by decide))).up 91 _ _ (Or.inl (by decide))).up 93 _ _ (Or.inl (by decide))).up 74 39 _ (Or.inr (by decide))
  have v : ∀ c, c ∈ CSl → gi B c b = if c = 88 then 60 else if c = 89 ∨ c = 91 ∨ c = 93 then -1 else 0 := fun c hc => by
    simp only [List.mem_cons, List.not_mem_nil, or_false] at hc
    rcases hc with e | e | e | e | e | e | e | e | e <;> subst e <;> rw [← hB] <;> simp [gi, si, up2] <;> decide
  have vo : ∀ c j, c ∈ CSl → j ≠ b → gi B c j = gi A c j := fun c j hc hj => by
    simp only [List.mem_cons, List.not_mem_nil, or_false] at hc
    rcases hc with e | e | e | e | e | e | e | e | e <;> subst e <;> rw [← hB] <;> simp [gi, si, up2, hj]
  have b39 : gi B 74 39 = 0 := by rw [← hB, gi_si _ _ _ _ _ (by decide), if_pos ⟨rfl, rfl⟩]
  have hIB : Fr CSl FLl I B := (hFA.mono (fun _ t => by cases t) (fun q hq => Or.inl hq)).tr (hFB.mono (fun _ t => t) (fun q hq => Or.inl (by
    simp only [List.mem_cons, List.not_mem_nil, or_false] at hq ⊢
    subst hq
    simp)))
  have hTR : TR B T n := ⟨by rw [hFB.gv 74 2 (by decide) (by decide)]; exact a2, fun i hi => by rw [hIB.gvc i (by decide) (by decide)]; exact h75 i hi⟩
  refine S_X12_ahead (by omega) hX hTR (Nat.zero_le n) (by rw [hFB.gv 74 5 (by decide) (by decide)]; exact a5) (fun I2 J2 c1 c2 c3 => ⟨_, _, rfl, rfl, ?_⟩)
  obtain ⟨r1, r2, r3, r4⟩ := rfr c2
  refine hr k b P I2 J2 Q 0 (by omega) hb c1 (by rw [r2, hFB.gv 74 8 (by decide) (by decide)]; exact a8) (by rw [r3, hFB.gv 74 40 (by decide) (by decide)]; exact s40) (SRz ?_ ?_ ?_ ?_ ?_ ?_ (fun ρ hρ => ?_) (by rw [r4]; exact b39)) (Nat.zero_le _) (hQ B J2 hIB (fun c j hc hj => by rw [vo c j hc hj]; exact hFA.gvc j (by simp) (by simp only [List.mem_cons, List.not_mem_nil, or_false] at hc; intro q hq e; simp only [List.mem_cons, List.not_mem_nil, or_false] at hq; rcases hq with t | t | t | t | t | t | t <;> subst t <;> simp only at e <;> omega)) ⟨by rw [hFB.gv 74 9 (by decide) (by decide)]; exact a9, by rw [hFB.gv 74 1 (by decide) (by decide)]; exact a1⟩ I2 c2 c3)
  · rw [r1 _ _ (by decide)]; exact v 76 (by decide)
  · rw [r1 _ _ (by decide)]; exact v 77 (by decide)
  · rw [r1 _ _ (by decide)]; exact v 83 (by decide)
  · rw [r1 _ _ (by decide)]; exact v 86 (by decide)
  · rw [r1 _ _ (by decide)]; exact v 82 (by decide)
  · rw [r1 _ _ (by decide)]; exact v 88 (by decide)
  · have e : ρ = 0 ∨ ρ = 1 ∨ ρ = 2 := by omega
    rcases e with e | e | e <;> subst e
    · rw [r1 _ _ (by decide)]; exact v 89 (by decide)
    · rw [r1 _ _ (by decide)]; exact v 91 (by decide)
    · rw [r1 _ _ (by decide)]; exact v 93 (by decide)
end RLIB

section LIB0
/-! ===== the empty content, and a whole text ===== -/
def Lz : Lt := fun f i => if f = 0 ∧ i = 5 then 60 else 0
def Nz : Nt := fun _ _ => []
def Rz : Rt := fun _ => []
theorem Lz_c {k : Nat} (h : k ≠ 5) : Lz 0 k = 0 := if_neg (fun t => h t.2)
theorem Lz_f {f i : Nat} (h : f ≠ 0) : Lz f i = 0 := if_neg (fun t => h t.1)
theorem WLz : WL Lz Nz Rz := by
  refine ⟨⟨by decide, by decide, by decide, by decide, by decide, by decide⟩, fun i hi => ?_, fun i hi => ?_, fun i hi => ?_, fun i _ => ⟨Lz_f (by decide), Lz_f (by decide)⟩, fun k i hk hi => ?_, fun ρ _ => Or.inl rfl⟩
  · rw [Lz_c (by decide)] at hi; omega
  · rw [Lz_c (by decide)] at hi; omega
  · rw [Lz_c (by decide)] at hi; omega
  · rw [Lz_c (by omega)] at hi; omega
theorem lib_all {T : Nat → Int} {n : Nat} (hX : TX T n) : ∃ r : LbR, LbG r ∧ CLc T n Lz Nz Rz 0 0 r ∧ RLc T n Lz Nz Rz 0 0 r := by
  obtain ⟨rs, rt, hR⟩ := RR2.ex hX
  obtain ⟨r, a, b, c, d⟩ := LPall hX hR n 0 Lz Nz Rz 0 (Nat.zero_le _) (by omega) WLz (by decide) (by decide)
  exact ⟨r, a, c, d (Or.inl (by decide))⟩
/-- the reference's bank, emptied -/
theorem SRz {I : Nat → Nat → Int32} {J : Nat → Nat → Int64} {b : Nat} (h0 : gi I 76 b = 0) (h1 : gi I 77 b = 0) (h2 : gi I 83 b = 0) (h3 : gi I 86 b = 0) (h4 : gi I 82 b = 0) (h5 : gi I 88 b = 60) (h6 : ∀ ρ, ρ < 3 → gi I (89 + 2 * ρ) b = -1) (h39 : gi I 74 39 = 0) : SRs I J b Lz Nz Rz 0 := by
  refine ⟨⟨h0, h1, h2, h3, h4, h5⟩, fun i hi => ?_, fun i hi => ?_, fun i hi => ?_, fun k i hk hi => ?_, fun ρ hρ => Or.inl ⟨rfl, h6 ρ hρ⟩, h39⟩
  · rw [Lz_c (by decide)] at hi; omega
  · rw [Lz_c (by decide)] at hi; omega
  · rw [Lz_c (by decide)] at hi; omega
  · rw [Lz_c (by omega)] at hi; omega
/-- the class's shelf, cleared -/
theorem SCz {I : Nat → Nat → Int32} (h0 : ∀ k, k < 4 → gi I 23 k = 0) (h14 : gi I 22 14 = 0) (h15 : gi I 22 15 = 60) (hp : ∀ i, i < 14 → gi I 27 i = 0 ∧ gi I 28 i = 0) (h6 : ∀ ρ, ρ < 3 → gi I 35 ρ = 0) (h13 : gi I 22 13 = 0) : SCs I Lz Nz Rz 0 := by
  refine ⟨fun k hk => ?_, h14, h15, fun i hi => ?_, fun i hi => ?_, fun i hi => ?_, fun i hi => ?_, fun k i hk hi => ?_, fun ρ hρ => Or.inl ⟨rfl, h6 ρ hρ⟩, h13⟩
  · rw [Lz_c (by omega)]; exact h0 k hk
  · rw [Lz_f (by decide), Lz_f (by decide)]; exact hp i hi
  · rw [Lz_c (by decide)] at hi; omega
  · rw [Lz_c (by decide)] at hi; omega
  · rw [Lz_c (by decide)] at hi; omega
  · rw [Lz_c (by omega)] at hi; omega
end LIB0

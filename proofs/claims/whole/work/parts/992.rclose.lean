section RCLOSE
/-! ===== the sign that ends a frame ===== -/
/-- all below a frame stays -/
def RFq (I I' : Nat → Nat → Int32) (f m w hi : Nat) : Prop := RKe I I' w hi ∧ (∀ i, i ≤ f → (gi I' 101 i = gi I 101 i ∧ gi I' 104 i = gi I 104 i ∧ gi I' 105 i = gi I 105 i) ∧ gi I' 102 i = gi I 102 i ∧ gi I' 103 i = gi I 103 i) ∧ ∀ i, i < m → gi I' 106 i = gi I 106 i
theorem RFq.tr {I I1 I2 : Nat → Nat → Int32} {f m m' w w' hi : Nat} (h1 : RFq I I1 f m w hi) (h2 : RFq I1 I2 f m' w' hi) (hm : m ≤ m') (hw : w ≤ w') : RFq I I2 f m w hi := by
  refine ⟨h1.1.tr h2.1 hw, fun i q => ?_, fun i q => ?_⟩
  · have a := h1.2.1 i q
    have b := h2.2.1 i q
    rw [b.1.1, b.1.2.1, b.1.2.2, b.2.1, b.2.2]
    exact a
  · rw [h2.2.2 i (by omega), h1.2.2 i q]
theorem RK.rf1 {I I1 : Nat → Nat → Int32} {f m w hi : Nat} (h : RK I I1 (f + 1) m w hi) : RFq I I1 f m w hi := ⟨h.1, fun i q => ⟨h.2.1 i (by omega), h.2.2.1 i (by omega)⟩, h.2.2.2⟩
theorem RFq.k {I I1 : Nat → Nat → Int32} {f m w hi : Nat} (h : RFq I I1 f m w hi) : RK I I1 f m w hi := ⟨h.1, fun i q => (h.2.1 i q).1, fun i q => (h.2.1 i (by omega)).2, h.2.2⟩
theorem RFq.w {I I1 : Nat → Nat → Int32} {f m w w' hi : Nat} (h : RFq I I1 f m w' hi) (hw : w ≤ w') : RFq I I1 f m w hi := ⟨⟨h.1.1, fun i q => h.1.2 i (by omega)⟩, h.2⟩
set_option maxHeartbeats 1000000 in
theorem L_close2 {k : Nat} {P : Option Nat} {I : Nat → Nat → Int32} {J : Nat → Nat → Int64} {Q : Option AV → Mem → Prop} {T : Nat → Int} {n p b f o m cd : Nat} {lo : Int} {c : List Int} (hk : 12 ≤ k) (hX : TX T n) (hb2 : b < 2) (hf : f ≤ o) (ho : o ≤ 6) (hm : m ≤ 60) (hlo : 1 ≤ lo) (h : RA I J T n p b (f + 1) (o + 1) m cd lo c) (hc : ctx I (f + 1) m 1) (hkd : gi I 101 (f + 1) = 2) (hs : sgn T n p 41) (hbe : gi I 103 f = 0) (hQ : ∀ I' J', RA I' J' T n (tE T n p) b f o m cd 7 c → RK I I' f m (1600 * b + cd) (1600 * b + 1600) → gi I' 102 f = gi I 102 f → Fr [] [(74, 7)] J J' → WP k LAY m_X12_reads 43 [(0, vR (some 74)), (2, vI 1)] [] (mem (P, some 5, some 22) I' J') Q) : WP k LAY m_X12_reads 43 [(0, vR (some 74)), (2, vI 1)] [] (mem (P, some 5, some 22) I J) Q := by
  obtain ⟨hT, h8, h46, h50, h103, hp, hl, h40⟩ := h.cz
  have hn := hX.1
  have hb : bd T n p = -1 := bd_3 (Or.inl hs.1)
  have hg := tE_gt (T := T) hp (by rw [hs.1]; decide)
  have hop : opT T n p = -1 := by
    unfold opT
    rw [if_pos hs.1, hs.2]
    rfl
  refine rd_go (by omega) h50 (go_400 (by omega) hp hT h8 h46 (by omega) hb ⟨fun q => by omega, fun q => by omega, fun q => by have := hs.1; omega⟩ (fun y hy => ?_))
  rw [hkd] at hy ⊢
  refine B_X12_goesOn_400 (by omega) ?_
  rw [Int.toNat_natCast]
  have ey : y = 0 := by omega
  subst ey
  refine ⟨by decide, fun _ => ⟨by decide, fun _ => ⟨fun _ => ⟨fun _ => ⟨fun _ => ⟨fun _ => ?_, fun q => absurd (by omega) q⟩, fun q => absurd ((hT.s 41).mpr hs) q⟩, fun q => absurd q (by decide)⟩, fun q => absurd q (by decide)⟩, fun q => absurd (by decide) q⟩, fun q => absurd rfl q⟩
  refine (h.lo hlo).join (by omega) hX (by decide) (by omega) hb2 hc hm (by decide) (fun I4 a1 a2 a3 a4 a5 => ⟨_, _, rfl, rfl, ?_⟩)
  · dsimp only
    have e46 := a1.2.2.2.1
    have e47 := a1.2.2.2.2.1
    have e40 := a1.2.2.1
    have e39 := a1.2.2.2.2.2.2
    have i46 : gi I4 74 46 - 1 = ((f + 1 : Nat) : Int) := by rw [e46]; omega
    have i47 : gi I4 74 47 - 1 = (o : Int) := by rw [e47]; omega
    rw [i46, i47]
    generalize hA : si (si I4 74 46 ((f + 1 : Nat) : Int)) 74 47 (o : Int) = A
    have hFA : Fr [95, 96, 102] [(74, 46), (74, 47), (74, 39)] I4 A := by
      rw [← hA]
      exact ((Fr.rf _ _ _).up 74 46 _ (Or.inr (by decide))).up 74 47 _ (Or.inr (by decide))
    have a46 : gi A 74 46 = ((f + 1 : Nat) : Int) := by rw [← hA, gi_idx _ _ _ (by decide), gi_si _ _ _ _ _ (by unfold inR; omega), if_pos ⟨rfl, rfl⟩]
    have a47 : gi A 74 47 = (o : Int) := by rw [← hA, gi_si _ _ _ _ _ (by unfold inR; omega), if_pos ⟨rfl, rfl⟩]
    have a39 : gi A 74 39 = ((cd + c.length : Nat) : Int) := by rw [← hA, gi_idx _ _ _ (by decide), gi_idx _ _ _ (by decide), e39]
    have a95 : ∀ i, gi A 95 i = gi I4 95 i ∧ gi A 96 i = gi I4 96 i := fun i => by
      rw [← hA, gi_cell _ _ _ _ (by decide), gi_cell _ _ _ _ (by decide), gi_cell _ _ _ _ (by decide), gi_cell _ _ _ _ (by decide)]
      exact ⟨rfl, rfl⟩
    have a102 : ∀ i, gi A 102 i = gi I4 102 i := fun i => by rw [← hA, gi_cell _ _ _ _ (by decide), gi_cell _ _ _ _ (by decide)]
    exact ⟨fun _ => ⟨fun _ => cl_fin (k := k) (pr := []) (ph := gi I 102 f) (by omega) hX (by omega) hg.1 (by omega) hl (by decide) hbe a1 a2 a3 a5 hFA a46 a47 a39 (fun i _ => a95 i) trivial (fun i _ => a102 i) (by rw [a102, (a3.2.2.1 f (Nat.lt_succ_self f)).1]) (fun I' J' b1 b2 b3 b4 => hQ I' J' (by rw [List.append_nil] at b1; exact b1) b2 b3 b4), fun q => absurd q (by decide)⟩, fun q => absurd q (by decide)⟩
set_option maxHeartbeats 1000000 in
theorem L_close4 {k : Nat} {P : Option Nat} {I : Nat → Nat → Int32} {J : Nat → Nat → Int64} {Q : Option AV → Mem → Prop} {T : Nat → Int} {n p b f o m cd : Nat} {lo : Int} {c : List Int} {z : Int} (hz : 10 ≤ z ∧ z ≤ 22) (hpz : gi I 104 (f + 1) = z) (hk : 12 ≤ k) (hX : TX T n) (hb2 : b < 2) (hf : f ≤ o) (ho : o ≤ 6) (hm : m ≤ 60) (hlo : 1 ≤ lo) (h : RA I J T n p b (f + 1) (o + 1) m cd lo c) (hc : ctx I (f + 1) m 1) (hkd : gi I 101 (f + 1) = 4) (hs : sgn T n p 41) (hbe : gi I 103 f = 0) (hQ : ∀ I' J', RA I' J' T n (tE T n p) b f o m cd 7 (c ++ [10090 + z]) → RK I I' f m (1600 * b + cd) (1600 * b + 1600) → gi I' 102 f = gi I 102 f → Fr [] [(74, 7)] J J' → WP k LAY m_X12_reads 43 [(0, vR (some 74)), (2, vI 1)] [] (mem (P, some 5, some 22) I' J') Q) : WP k LAY m_X12_reads 43 [(0, vR (some 74)), (2, vI 1)] [] (mem (P, some 5, some 22) I J) Q := by
  obtain ⟨hT, h8, h46, h50, h103, hp, hl, h40⟩ := h.cz
  have hn := hX.1
  have hb : bd T n p = -1 := bd_3 (Or.inl hs.1)
  have hg := tE_gt (T := T) hp (by rw [hs.1]; decide)
  have hop : opT T n p = -1 := by
    unfold opT
    rw [if_pos hs.1, hs.2]
    rfl
  refine rd_go (by omega) h50 (go_400 (by omega) hp hT h8 h46 (by omega) hb ⟨fun q => by omega, fun q => by omega, fun q => by have := hs.1; omega⟩ (fun y hy => ?_))
  rw [hkd] at hy ⊢
  refine B_X12_goesOn_400 (by omega) ?_
  rw [Int.toNat_natCast]
  have ey : y = 0 := by omega
  subst ey
  refine ⟨by decide, fun _ => ⟨by decide, fun _ => ⟨fun _ => ⟨fun _ => ⟨fun _ => ⟨fun _ => ?_, fun q => absurd (by omega) q⟩, fun q => absurd ((hT.s 41).mpr hs) q⟩, fun q => absurd q (by decide)⟩, fun q => absurd q (by decide)⟩, fun q => absurd (by decide) q⟩, fun q => absurd rfl q⟩
  refine (h.lo hlo).join (by omega) hX (by decide) (by omega) hb2 hc hm (by decide) (fun I4 a1 a2 a3 a4 a5 => ⟨_, _, rfl, rfl, ?_⟩)
  · dsimp only
    have e46 := a1.2.2.2.1
    have e47 := a1.2.2.2.2.1
    have e40 := a1.2.2.1
    have e39 := a1.2.2.2.2.2.2
    have i46 : gi I4 74 46 - 1 = ((f + 1 : Nat) : Int) := by rw [e46]; omega
    have i47 : gi I4 74 47 - 1 = (o : Int) := by rw [e47]; omega
    rw [i46, i47]
    generalize hA : si (si I4 74 46 ((f + 1 : Nat) : Int)) 74 47 (o : Int) = A
    have hFA : Fr [95, 96, 102] [(74, 46), (74, 47), (74, 39)] I4 A := by
      rw [← hA]
      exact ((Fr.rf _ _ _).up 74 46 _ (Or.inr (by decide))).up 74 47 _ (Or.inr (by decide))
    have a46 : gi A 74 46 = ((f + 1 : Nat) : Int) := by rw [← hA, gi_idx _ _ _ (by decide), gi_si _ _ _ _ _ (by unfold inR; omega), if_pos ⟨rfl, rfl⟩]
    have a47 : gi A 74 47 = (o : Int) := by rw [← hA, gi_si _ _ _ _ _ (by unfold inR; omega), if_pos ⟨rfl, rfl⟩]
    have a39 : gi A 74 39 = ((cd + c.length : Nat) : Int) := by rw [← hA, gi_idx _ _ _ (by decide), gi_idx _ _ _ (by decide), e39]
    have a95 : ∀ i, gi A 95 i = gi I4 95 i ∧ gi A 96 i = gi I4 96 i := fun i => by
      rw [← hA, gi_cell _ _ _ _ (by decide), gi_cell _ _ _ _ (by decide), gi_cell _ _ _ _ (by decide), gi_cell _ _ _ _ (by decide)]
      exact ⟨rfl, rfl⟩
    have a102 : ∀ i, gi A 102 i = gi I4 102 i := fun i => by rw [← hA, gi_cell _ _ _ _ (by decide), gi_cell _ _ _ _ (by decide)]
    have a40 : gi A 74 40 = (b : Int) := by rw [← hA, gi_idx _ _ _ (by decide), gi_idx _ _ _ (by decide), e40]
    have e104 : gi I4 104 (f + 1) = z := by rw [(a3.2.1 (f + 1) (Nat.le_refl _)).2.1, hpz]
    have iZ : inR z := by unfold inR; omega
    refine ⟨fun q => absurd rfl q, fun _ => ⟨by omega, ?_⟩⟩
    rw [a40, a39, e104, show (1600 * (b : Int) + ((cd + c.length : Nat) : Int)).toNat = 1600 * b + cd + c.length by omega]
    refine ⟨by omega, fun _ => ?_, fun q => absurd q (by decide)⟩
    have hFB : Fr [95, 96, 102] [(74, 46), (74, 47), (74, 39)] I4 (si (si (si A 95 (1600 * b + cd + c.length) z) 96 (1600 * b + cd + c.length) 0) 74 39 (((cd + c.length : Nat) : Int) + 1)) := ((hFA.up 95 _ _ (Or.inl (by decide))).up 96 _ _ (Or.inl (by decide))).up 74 39 _ (Or.inr (by decide))
    refine cl_fin (k := k) (pr := [10090 + z]) (ph := gi I 102 f) (by omega) hX (by omega) hg.1 (by omega) hl (Nat.le_refl _) hbe a1 a2 a3 a5 hFB ?_ ?_ ?_ (fun i q => ?_) ⟨?_, trivial⟩ (fun i _ => ?_) ?_ hQ
    · rw [gi_idx _ _ _ (by decide), gi_cell _ _ _ _ (by decide), gi_cell _ _ _ _ (by decide), a46]
    · rw [gi_idx _ _ _ (by decide), gi_cell _ _ _ _ (by decide), gi_cell _ _ _ _ (by decide), a47]
    · rw [gi_si _ _ _ _ _ (by unfold inR; omega), if_pos ⟨rfl, rfl⟩]
      rfl
    · rw [gi_cell _ _ _ _ (by decide), gi_cell _ _ _ _ (by decide), gi_idx _ _ _ (by omega), gi_cell _ _ _ _ (by decide), gi_idx _ _ _ (by omega), gi_cell _ _ _ _ (by decide)]
      exact a95 i
    · unfold encR
      rw [gi_cell _ _ _ _ (by decide), gi_cell _ _ _ _ (by decide), gi_si _ _ _ _ _ iZ, if_pos ⟨rfl, rfl⟩, gi_cell _ _ _ _ (by decide), gi_si _ _ _ _ _ (by decide), if_pos ⟨rfl, rfl⟩]
      exact enc_opx hz
    · rw [gi_cell _ _ _ _ (by decide), gi_cell _ _ _ _ (by decide), gi_cell _ _ _ _ (by decide), a102]
    · rw [gi_cell _ _ _ _ (by decide), gi_cell _ _ _ _ (by decide), gi_cell _ _ _ _ (by decide), a102, (a3.2.2.1 f (Nat.lt_succ_self f)).1]
set_option maxHeartbeats 1000000 in
theorem L_close5 {k : Nat} {P : Option Nat} {I : Nat → Nat → Int32} {J : Nat → Nat → Int64} {Q : Option AV → Mem → Prop} {T : Nat → Int} {n p b f o m cd : Nat} {lo : Int} {c : List Int} (hph : gi I 102 (f + 1) ≠ 0) (hk : 12 ≤ k) (hX : TX T n) (hb2 : b < 2) (hf : f ≤ o) (ho : o ≤ 6) (hm : m ≤ 60) (hlo : 1 ≤ lo) (h : RA I J T n p b (f + 1) (o + 1) m cd lo c) (hc : ctx I (f + 1) m 1) (hkd : gi I 101 (f + 1) = 5) (hs : sgn T n p 93) (hbe : gi I 103 f = 0) (hQ : ∀ I' J', RA I' J' T n (tE T n p) b f o m cd 7 c → RK I I' f m (1600 * b + cd) (1600 * b + 1600) → gi I' 102 f = 2 → Fr [] [(74, 7)] J J' → WP k LAY m_X12_reads 43 [(0, vR (some 74)), (2, vI 1)] [] (mem (P, some 5, some 22) I' J') Q) : WP k LAY m_X12_reads 43 [(0, vR (some 74)), (2, vI 1)] [] (mem (P, some 5, some 22) I J) Q := by
  obtain ⟨hT, h8, h46, h50, h103, hp, hl, h40⟩ := h.cz
  have hn := hX.1
  have hb : bd T n p = -1 := bd_3 (Or.inl hs.1)
  have hg := tE_gt (T := T) hp (by rw [hs.1]; decide)
  have hop : opT T n p = -1 := by
    unfold opT
    rw [if_pos hs.1, hs.2]
    rfl
  refine rd_go (by omega) h50 (go_400 (by omega) hp hT h8 h46 (by omega) hb ⟨fun q => by omega, fun q => by omega, fun q => by have := hs.1; omega⟩ (fun y hy => ?_))
  rw [hkd] at hy ⊢
  refine B_X12_goesOn_400 (by omega) ?_
  rw [Int.toNat_natCast]
  have ey : y = 1 := by omega
  subst ey
  refine ⟨by decide, fun q => absurd q (by decide), fun _ => ⟨by omega, fun _ => ⟨by decide, fun _ => ⟨fun _ => ⟨fun q => absurd rfl q, fun _ => ⟨fun _ => ⟨fun _ => ?_, fun q => absurd (by omega) q⟩, fun q => absurd ((hT.s 93).mpr hs) q⟩⟩, fun q => absurd q (by decide)⟩, fun q => absurd (by decide) q⟩, fun q => absurd q hph⟩⟩
  refine (h.lo hlo).join (by omega) hX (by decide) (by omega) hb2 hc hm (by decide) (fun I4 a1 a2 a3 a4 a5 => ⟨_, _, rfl, rfl, ?_⟩)
  · dsimp only
    have e46 := a1.2.2.2.1
    have e47 := a1.2.2.2.2.1
    have e40 := a1.2.2.1
    have e39 := a1.2.2.2.2.2.2
    have i46 : gi I4 74 46 - 1 = ((f + 1 : Nat) : Int) := by rw [e46]; omega
    have i47 : gi I4 74 47 - 1 = (o : Int) := by rw [e47]; omega
    rw [i46, i47]
    generalize hA : si (si I4 74 46 ((f + 1 : Nat) : Int)) 74 47 (o : Int) = A
    have hFA : Fr [95, 96, 102] [(74, 46), (74, 47), (74, 39)] I4 A := by
      rw [← hA]
      exact ((Fr.rf _ _ _).up 74 46 _ (Or.inr (by decide))).up 74 47 _ (Or.inr (by decide))
    have a46 : gi A 74 46 = ((f + 1 : Nat) : Int) := by rw [← hA, gi_idx _ _ _ (by decide), gi_si _ _ _ _ _ (by unfold inR; omega), if_pos ⟨rfl, rfl⟩]
    have a47 : gi A 74 47 = (o : Int) := by rw [← hA, gi_si _ _ _ _ _ (by unfold inR; omega), if_pos ⟨rfl, rfl⟩]
    have a39 : gi A 74 39 = ((cd + c.length : Nat) : Int) := by rw [← hA, gi_idx _ _ _ (by decide), gi_idx _ _ _ (by decide), e39]
    have a95 : ∀ i, gi A 95 i = gi I4 95 i ∧ gi A 96 i = gi I4 96 i := fun i => by
      rw [← hA, gi_cell _ _ _ _ (by decide), gi_cell _ _ _ _ (by decide), gi_cell _ _ _ _ (by decide), gi_cell _ _ _ _ (by decide)]
      exact ⟨rfl, rfl⟩
    have a102 : ∀ i, gi A 102 i = gi I4 102 i := fun i => by rw [← hA, gi_cell _ _ _ _ (by decide), gi_cell _ _ _ _ (by decide)]
    have hFB : Fr [95, 96, 102] [(74, 46), (74, 47), (74, 39)] I4 (si A 102 f 2) := hFA.up 102 _ _ (Or.inl (by decide))
    refine ⟨fun _ => ⟨fun q => absurd rfl q, fun _ => ?_⟩, fun q => absurd q (by decide)⟩
    rw [show gi (si I4 74 46 ((f + 1 : Nat) : Int)) 74 46 = ((f + 1 : Nat) : Int) by rw [gi_si _ _ _ _ _ (by unfold inR; omega), if_pos ⟨rfl, rfl⟩], show ((f + 1 : Nat) : Int) - 1 = (f : Int) by omega, Int.toNat_natCast]
    refine ⟨by omega, ?_⟩
    exact cl_fin (k := k) (pr := []) (ph := 2) (by omega) hX (by omega) hg.1 (by omega) hl (by decide) hbe a1 a2 a3 a5 hFB (by rw [gi_cell _ _ _ _ (by decide), a46]) (by rw [gi_cell _ _ _ _ (by decide), a47]) (by rw [gi_cell _ _ _ _ (by decide)]; exact a39) (fun i _ => by rw [gi_cell _ _ _ _ (by decide), gi_cell _ _ _ _ (by decide)]; exact a95 i) trivial (fun i q => by rw [gi_idx _ _ _ (by omega), a102]) (by rw [gi_si _ _ _ _ _ (by decide), if_pos ⟨rfl, rfl⟩]) (fun I' J' b1 b2 b3 b4 => hQ I' J' (by rw [List.append_nil] at b1; exact b1) b2 b3 b4)
set_option maxHeartbeats 1000000 in
theorem L_comma {k : Nat} {P : Option Nat} {I : Nat → Nat → Int32} {J : Nat → Nat → Int64} {Q : Option AV → Mem → Prop} {T : Nat → Int} {n p b f o m cd : Nat} {lo : Int} {c : List Int} (hk : 12 ≤ k) (hX : TX T n) (hb2 : b < 2) (hf : f ≤ o) (ho : o ≤ 6) (hm : m ≤ 60) (hlo : 1 ≤ lo) (h : RA I J T n p b (f + 1) (o + 1) m cd lo c) (hc : ctx I (f + 1) m 1) (hkd : gi I 101 (f + 1) = 3) (hs : sgn T n p 44) (hQ : ∀ I' J', RS I' J' T n (tE T n p) b (f + 1) (o + 1) m (cd + c.length) → cds (encR I') (1600 * b + cd) c → RFq I I' f m (1600 * b + cd) (1600 * b + 1600) → gi I' 74 50 = 0 → gi I' 101 (f + 1) = 4 → gi I' 104 (f + 1) = gi I 104 (f + 1) → gi I' 105 (f + 1) = gi I 105 (f + 1) → gi I' 102 (f + 1) = gi I 102 (f + 1) → gi I' 103 (f + 1) = 0 → Fr [] [(74, 7)] J J' → WP k LAY m_X12_reads 43 [(0, vR (some 74)), (2, vI 1)] [] (mem (P, some 5, some 22) I' J') Q) : WP k LAY m_X12_reads 43 [(0, vR (some 74)), (2, vI 1)] [] (mem (P, some 5, some 22) I J) Q := by
  obtain ⟨hT, h8, h46, h50, h103, hp, hl, h40⟩ := h.cz
  have hn := hX.1
  have hb : bd T n p = -1 := bd_3 (Or.inl hs.1)
  have hop : opT T n p = -1 := by
    unfold opT
    rw [if_pos hs.1, hs.2]
    rfl
  refine rd_go (by omega) h50 (go_400 (by omega) hp hT h8 h46 (by omega) hb ⟨fun q => by omega, fun q => by omega, fun q => by have := hs.1; omega⟩ (fun y hy => ?_))
  rw [hkd] at hy ⊢
  refine B_X12_goesOn_400 (by omega) ?_
  rw [Int.toNat_natCast]
  have ey : y = 0 := by omega
  subst ey
  refine ⟨by decide, fun _ => ⟨by decide, fun _ => ⟨fun q => absurd rfl q, fun _ => ⟨fun _ => ?_, fun q => absurd ((hT.s 44).mpr hs) q⟩⟩, fun q => absurd (by decide) q⟩, fun q => absurd rfl q⟩
  refine B_X12_goesOn_464 (by omega) ⟨fun _ => ?_, fun q => absurd (by omega) q⟩
  refine (h.lo hlo).join (by omega) hX (by decide) (by omega) hb2 hc hm (by decide) (fun I4 a1 a2 a3 a4 a5 => ⟨_, _, rfl, rfl, ?_⟩)
  dsimp only
  rw [Int.toNat_natCast]
  refine ⟨by omega, ?_⟩
  have hF : Fr [101] [] I4 (si I4 101 (f + 1) 4) := (Fr.rf _ _ _).up 101 _ _ (Or.inl (by decide))
  refine ahead_of (by omega) hX hp (a1.1.fr hF (by decide) (by decide) rfl) (fun I6 J6 hT6 hF6 hJ6 => ⟨_, _, rfl, rfl, ?_⟩)
  have hF7 : Fr [] FLq (si I4 101 (f + 1) 4) (si I6 74 50 0) := hF6.q.up 74 50 _ (Or.inr (by decide))
  have hF8 : Fr [] [(74, 50)] I6 (si I6 74 50 0) := (Fr.rf _ _ _).up 74 50 _ (Or.inr (by decide))
  have e1 : ∀ j, (74, j) ∉ FLr → j ≠ 50 → gi (si I6 74 50 0) 74 j = gi I4 74 j := fun j hj h50 => by rw [gi_idx _ _ _ h50, hF6.gv 74 j (by decide) hj, hF.gv 74 j (by decide) (fun t => by cases t)]
  have g8 : gi (si I6 74 50 0) 74 8 = 0 := by rw [e1 8 (by decide) (by decide)]; exact a1.2.1
  refine GQ.y g8 (hQ _ _ ⟨hT6.fr hF8 (by decide) (by decide) rfl, g8, ?_, ?_, ?_, ?_, ?_⟩ (cds_congr (fun i _ _ => ?_) a2) ?_ ?_ ?_ ?_ ?_ ?_ ?_ hJ6)
  · rw [e1 40 (by decide) (by decide)]; exact a1.2.2.1
  · rw [e1 46 (by decide) (by decide)]; exact a1.2.2.2.1
  · rw [e1 47 (by decide) (by decide)]; exact a1.2.2.2.2.1
  · rw [e1 49 (by decide) (by decide)]; exact a1.2.2.2.2.2.1
  · rw [e1 39 (by decide) (by decide)]; exact a1.2.2.2.2.2.2
  · unfold encR
    rw [hF7.gvc i (by decide) (by decide), hF7.gvc i (by decide) (by decide), hF.gvc i (by decide) (by decide), hF.gvc i (by decide) (by decide)]
  · refine (a3.rf1).tr (m' := m) (w' := 1600 * b + cd) (RFq.tr (m' := m) (w' := 1600 * b + cd) (I1 := si I4 101 (f + 1) 4) ⟨⟨hF.mono (fun t ht => by
      simp only [List.mem_cons, List.not_mem_nil, or_false] at ht ⊢
      subst ht
      simp) (fun q hq => by cases hq), fun i _ => ⟨hF.gvc i (by decide) (by decide), hF.gvc i (by decide) (by decide)⟩⟩, fun i q => ⟨⟨gi_idx _ _ _ (by omega), hF.gvc i (by decide) (by decide), hF.gvc i (by decide) (by decide)⟩, hF.gvc i (by decide) (by decide), hF.gvc i (by decide) (by decide)⟩, fun i _ => hF.gvc i (by decide) (by decide)⟩ (RK.fl (f + 1) m _ _ hF7).rf1 (Nat.le_refl _) (Nat.le_refl _)) (Nat.le_refl _) (Nat.le_refl _)
  · rw [gi_si _ _ _ _ _ (by decide), if_pos ⟨rfl, rfl⟩]
  · rw [hF7.gvc _ (by decide) (by decide), gi_si _ _ _ _ _ (by decide), if_pos ⟨rfl, rfl⟩]
  · rw [hF7.gvc _ (by decide) (by decide), hF.gvc _ (by decide) (by decide), (a3.2.1 (f + 1) (Nat.le_refl _)).2.1]
  · rw [hF7.gvc _ (by decide) (by decide), hF.gvc _ (by decide) (by decide), (a3.2.1 (f + 1) (Nat.le_refl _)).2.2]
  · rw [hF7.gvc _ (by decide) (by decide), hF.gvc _ (by decide) (by decide), (a4 (f + 1)).1]
  · rw [hF7.gvc _ (by decide) (by decide), hF.gvc _ (by decide) (by decide), (a4 (f + 1)).2, h103]
end RCLOSE

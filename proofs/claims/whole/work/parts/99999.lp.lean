section LPS
/-! ===== the loops over statements, both to one result ===== -/
def Cnt (F : (Lt × Nt × Rt) → Nat → LbR → Prop) (r : LbR) : St → Prop
  | .inl e => r = .inl e
  | .inr c => F c.1 c.2 r
theorem CLc.step {T : Nat → Int} {n p : Nat} {L : Lt} {N : Nt} {R : Rt} {rs rt : Nat → Res} {told : Int} {r : LbR} {s : St} (hX : TX T n) (hp : p ≤ n) (hW : WL L N R) (hR : RR2 T n rs rt) (ht : 0 ≤ told ∧ told ≤ 80) (h0 : kR T n p ≠ 0) (hs : ci (80 ≤ told) (.inl (6, tS T n p)) (semi T n (stm T n L N R rs rt p)) = s) (h : Cnt (fun c q r => CLc T n c.1 c.2.1 c.2.2 q (told + 1) r) r s) : CLc T n L N R p told r := by
  intro k I J Q q hk hC ho hS hq hQ
  refine B_X3_parse_36 (by omega) ⟨by unfold inR; omega, fun t => absurd t (by omega), fun _ => ⟨fun t => absurd (hC.k.2.2.2.2.1.mp t) h0, fun _ => ?_⟩⟩
  refine C_stm (by omega) hX hp hW hR (by unfold inR; omega) hC ho hS hq ?_
  rw [hs]
  cases s with
  | inl e =>
    have h' : r = .inl e := h
    subst h'
    exact fun I' a b c => ⟨_, _, _, rfl, rfl, by decide, fun t => absurd rfl t, fun _ => hQ I' a b c⟩
  | inr c =>
    have h' : CLc T n c.1.1 c.1.2.1 c.1.2.2 c.2 (told + 1) r := h
    exact fun I' q' a1 a2 a3 a4 a5 a6 => ⟨_, _, _, rfl, rfl, by decide, fun _ => h' k I' J Q q' hk a1 a2 a3 a4 (hQ.mv a6), fun t => absurd t (by decide)⟩
theorem R_finZ {k : Nat} {P : Option Nat} {I : Nat → Nat → Int32} {J : Nat → Nat → Int64} {Q : Option AV → Mem → Prop} {told : Int} (hk : 3 ≤ k) (h8 : 0 < gi I 74 8) (h : Q none (mem (P, some 5, some 22) I J)) : WPm k LAY m_X12_finishes [vR (some 74), vI told] (mem (P, some 5, some 22) I J) Q := by
  have n8 : ¬ gi I 74 8 ≤ 0 := by omega
  exact WPm.of k_X12_finishes.1 (Nat.le_of_ble_eq_true rfl) (B_X12_finishes_0 (by omega) ⟨fun _ => ⟨fun t => absurd t n8, fun _ => h⟩, fun _ => ⟨fun t => absurd t n8, fun _ => ⟨fun t => absurd t n8, fun _ => h⟩⟩⟩)
theorem RLc.step {T : Nat → Int} {n p : Nat} {L : Lt} {N : Nt} {R : Rt} {rs rt : Nat → Res} {told : Int} {r : LbR} {s : St} (hX : TX T n) (hp : p ≤ n) (hW : WL L N R) (hR : RR2 T n rs rt) (ht : 0 ≤ told ∧ told < 80) (h0 : kR T n p ≠ 0) (hg : LbG r) (hs : fin T n (told + 1) (stm T n L N R rs rt p) = s) (h : Cnt (fun c q r => RLc T n c.1 c.2.1 c.2.2 q (told + 1) r) r s) : RLc T n L N R p told r := by
  intro k b P I J Q cd hk hb hT h8 h40 hS hcd hQ
  have k0 : ¬ gi I 74 3 = 0 := fun t => h0 (by have := hT.2.1; omega)
  -- a fault is told
  have zz : ∀ (e : Int × Int) I' J', r = .inl e → gi I' 74 8 = e.1 → gi I' 74 9 = e.2 → FrBe b I I' → FrJ b J J' → WPm (k - 1) LAY m_X12_finishes [vR (some 74), vI (told + 1)] (mem (P, some 5, some 22) I' J') (retV (fun I31 J32 => WP k LAY m_X12_library 140 [(0, vR (some 74)), (1, vI (told + 1))] [] (mem (P, some 5, some 22) I31 J32) Q) (P, some 5, some 22)) := fun e I' J' er a1 a2 a3 a4 => by
    subst er
    have he : 0 < e.1 := hg
    exact R_finZ (by omega) (by omega) ⟨_, _, rfl, rfl, R_ended (by omega) he hQ a1 a2 a3 a4⟩
  refine B_X12_library_140 (by omega) ⟨fun t => absurd h8 t, fun _ => ⟨fun t => absurd t k0, fun _ => ?_⟩⟩
  refine R_stm (by omega) hX hp hb hW hR hT h8 h40 hS hcd ?_
  generalize stm T n L N R rs rt p = s1 at *
  cases s1 with
  | inl e =>
    have hs' : s = .inl e := hs.symm
    subst hs'
    have h' : r = .inl e := h
    exact fun I' J' a1 a2 a3 a4 => ⟨_, _, rfl, rfl, zz e I' J' h' a1 a2 a3 a4⟩
  | inr c =>
    have hs' : ci (sgn T n c.2 59 ∧ told + 1 = 80 ∧ kR T n (tE T n c.2) ≠ 0) (.inl (6, tS T n (tE T n c.2))) (ci (sgn T n c.2 59) (.inr (c.1, tE T n c.2)) (.inl (1, pl T n c.2))) = s := hs
    have r1 : ¬ sgn T n c.2 59 → r = .inl (1, pl T n c.2) := fun ns => by
      rw [ci_n (fun t => ns t.1), ci_n ns] at hs'
      subst hs'
      exact h
    refine ⟨fun I' J' cd' a1 a2 a3 a4 a5 a6 a7 => ⟨_, _, rfl, rfl, ?_⟩, fun hbd I' J' a1 a2 a3 a4 => ⟨_, _, rfl, rfl, zz (1, pl T n c.2) I' J' (r1 (fun t => hbd (sgn_bd t))) a1 a2 a3 a4⟩⟩
    refine R_fin (by omega) hX a5 a1 a2 (by unfold inR; omega) (fun ns I'' hE => ⟨_, _, rfl, rfl, ?_⟩) (fun hsg h80 hk0 I'' hE => ⟨_, _, rfl, rfl, ?_⟩) (fun hsg hno I'' J'' b1 b2 b3 => ⟨_, _, rfl, rfl, ?_⟩)
    · have e := r1 ns
      subst e
      exact R_ended (by omega) hg hQ hE.2.1 hE.2.2 (a6.e.tr (hE.b b)) a7
    · rw [ci_y ⟨hsg, h80, hk0⟩] at hs'
      subst hs'
      have e : r = .inl (6, tS T n (tE T n c.2)) := h
      subst e
      exact R_ended (by omega) hg hQ hE.2.1 hE.2.2 (a6.e.tr (hE.b b)) a7
    · rw [ci_n (fun t => hno t.2), ci_y hsg] at hs'
      subst hs'
      have h' : RLc T n c.1.1 c.1.2.1 c.1.2.2 (tE T n c.2) (told + 1) r := h
      have hge := tE_gt (T := T) a5 (by rw [hsg.1]; decide)
      obtain ⟨v1, v2, v3, v4⟩ := rfr b2
      exact h' k b P I'' J'' Q cd' hk hb b1 (v2.trans a2) (v3.trans (a6.g40.trans h40)) (a3.ah b2 b3) (by omega) (hQ.mv (a6.tr (b2.q.b b)) (a7.tr (b3.j b)))
set_option maxHeartbeats 1000000 in
theorem LPall {T : Nat → Int} {n : Nat} {rs rt : Nat → Res} (hX : TX T n) (hR : RR2 T n rs rt) : ∀ (d p : Nat) (L : Lt) (N : Nt) (R : Rt) (told : Int), p ≤ n → n - p ≤ d → WL L N R → 0 ≤ told → told ≤ 80 → ∃ r : LbR, LbG r ∧ (told = 80 → kR T n p ≠ 0 → r = .inl (6, tS T n p)) ∧ CLc T n L N R p told r ∧ (told < 80 ∨ kR T n p = 0 → RLc T n L N R p told r) := by
  intro d
  induction d with
  | zero =>
    intro p L N R told hp hd hW ht0 ht1
    have h0 : kR T n p = 0 := by
      by_cases e : kR T n p = 0
      · exact e
      · have := tE_gt (T := T) hp e
        omega
    obtain ⟨r, a, b, c⟩ := LP0 hp hX.1 h0 hW ⟨ht0, ht1⟩
    exact ⟨r, a, fun _ q => absurd h0 q, b, fun _ => c⟩
  | succ d ih =>
    intro p L N R told hp hd hW ht0 ht1
    by_cases h0 : kR T n p = 0
    · obtain ⟨r, a, b, c⟩ := LP0 hp hX.1 h0 hW ⟨ht0, ht1⟩
      exact ⟨r, a, fun _ q => absurd h0 q, b, fun _ => c⟩
    · by_cases h80 : told = 80
      · exact ⟨.inl (6, tS T n p), by show (0 : Int) < 6; decide, fun _ _ => rfl, CLc.step hX hp hW hR ⟨ht0, ht1⟩ h0 (ci_y (by omega)) rfl, fun t => absurd t (by omega)⟩
      · have hge := stm_ge hp hR (L := L) (N := N) (R := R)
        have hwl : ∀ c, stm T n L N R rs rt p = .inr c → WL c.1.1 c.1.2.1 c.1.2.2 ∧ p < c.2 ∧ c.2 ≤ n := fun c => WL_stm hp hW hR
        have cs : ∀ (r : LbR) (s : St), semi T n (stm T n L N R rs rt p) = s → Cnt (fun c q r => CLc T n c.1 c.2.1 c.2.2 q (told + 1) r) r s → CLc T n L N R p told r := fun r s e h => CLc.step hX hp hW hR ⟨ht0, ht1⟩ h0 ((ci_n (by omega)).trans e) h
        have rstep : ∀ (r : LbR) (s : St), LbG r → fin T n (told + 1) (stm T n L N R rs rt p) = s → Cnt (fun c q r => RLc T n c.1 c.2.1 c.2.2 q (told + 1) r) r s → RLc T n L N R p told r := fun r s g e h => RLc.step hX hp hW hR ⟨ht0, by omega⟩ h0 g e h
        generalize stm T n L N R rs rt p = s1 at *
        cases s1 with
        | inl e => exact ⟨.inl e, hge e rfl, fun t => absurd t h80, cs _ (.inl e) rfl rfl, fun _ => rstep _ (.inl e) (hge e rfl) rfl rfl⟩
        | inr c =>
          obtain ⟨w1, w2, w3⟩ := hwl c rfl
          by_cases hsg : sgn T n c.2 59
          · have hg := tE_gt (T := T) w3 (by rw [hsg.1]; decide)
            obtain ⟨r, g1, g2, g3, g4⟩ := ih (tE T n c.2) c.1.1 c.1.2.1 c.1.2.2 (told + 1) hg.2.1 (by omega) w1 (by omega) (by omega)
            refine ⟨r, g1, fun t => absurd t h80, cs r _ (ci_y hsg) g3, fun _ => ?_⟩
            by_cases h6 : told + 1 = 80 ∧ kR T n (tE T n c.2) ≠ 0
            · exact rstep r _ g1 (ci_y ⟨hsg, h6⟩) (g2 h6.1 h6.2)
            · exact rstep r _ g1 ((ci_n (fun t => h6 t.2)).trans (ci_y hsg)) (g4 (by
                by_cases e : kR T n (tE T n c.2) = 0
                · exact Or.inr e
                · exact Or.inl (by
                    have : told + 1 ≠ 80 := fun t => h6 ⟨t, e⟩
                    omega)))
          · have l1 : LbG (.inl (1, (pl T n c.2 : Int))) := by show (0 : Int) < 1; decide
            exact ⟨.inl (1, pl T n c.2), l1, fun t => absurd t h80, cs _ _ (ci_n hsg) rfl, fun _ => rstep _ _ l1 ((ci_n (fun t => hsg t.1)).trans (ci_n hsg)) rfl⟩
end LPS

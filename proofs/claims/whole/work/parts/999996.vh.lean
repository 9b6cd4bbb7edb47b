section VHFR
/-! ===== what the readers' records rest on ===== -/
/-- the cells that the coupling of libraries and readers reads; the reference's other bank may change -/
def vhC (b c k : Nat) : Prop := (5 ≤ c ∧ c ≤ 21) ∨ (c = 4 ∧ (k = 4 ∨ k = 5)) ∨ (76 ≤ c ∧ c ≤ 96 ∧ ¬ inb b c k) ∨ (108 ≤ c ∧ c ≤ 120) ∨ (c = 74 ∧ (k = 13 ∨ k = 65 ∨ k = 66 ∨ k = 72 ∨ k = 73))
def vhX (c k : Nat) : Prop := (5 ≤ c ∧ c ≤ 21) ∨ (c = 4 ∧ (k = 4 ∨ k = 5)) ∨ (76 ≤ c ∧ c ≤ 96) ∨ (108 ≤ c ∧ c ≤ 120) ∨ (c = 74 ∧ (k = 13 ∨ k = 65 ∨ k = 66 ∨ k = 72 ∨ k = 73))
theorem vhC.x {b c k : Nat} (h : vhC b c k) : vhX c k := by
  unfold vhC at h
  unfold vhX
  omega
theorem RL.bank {b : Nat} {I F : Nat → Nat → Int32} {L : Lb} {R : Rl} (hX : RL I L R) (hb : b < 2) (h13 : gi I 74 13 = 1 - (b : Int)) (hF : ∀ c k, 76 ≤ c → c ≤ 96 → ¬ inb b c k → gi F c k = gi I c k) (f13 : gi F 74 13 = gi I 74 13) : RL F L R := by
  obtain ⟨h1, h2, h3, h4, hL, hR⟩ := hX
  have n1 : gi I 77 (gi I 74 13).toNat = nP L := by rw [← h1]; rfl
  have n2 : gi I 83 (gi I 74 13).toNat = nR L := by rw [← h1]; rfl
  have n3 : gi I 86 (gi I 74 13).toNat = nT L := by rw [← h1]; rfl
  have b1 := hL.2.1
  have b2 := hL.2.2.1
  have b3 := hL.2.2.2.1
  have at1 : ∀ c, (c = 76 ∨ c = 77 ∨ c = 82 ∨ c = 83 ∨ c = 86 ∨ (88 ≤ c ∧ c ≤ 94)) → gi F c (gi I 74 13).toNat = gi I c (gi I 74 13).toNat := fun c hc => hF c _ (by omega) (by omega) (by unfold inb; omega)
  have at14 : ∀ (c : Nat) (i : Int), 78 ≤ c → c ≤ 81 → 0 ≤ i → i < 14 → gi F c ((14 * gi I 74 13) + i).toNat = gi I c ((14 * gi I 74 13) + i).toNat := fun c i c1 c2 i0 i1 => hF c _ (by omega) (by omega) (by unfold inb; omega)
  have at6 : ∀ (c : Nat) (i : Int), 84 ≤ c → c ≤ 85 → 0 ≤ i → i < 6 → gi F c ((6 * gi I 74 13) + i).toNat = gi I c ((6 * gi I 74 13) + i).toNat := fun c i c1 c2 i0 i1 => hF c _ (by omega) (by omega) (by unfold inb; omega)
  have at5 : ∀ (i : Int), 0 ≤ i → i < 5 → gi F 87 ((5 * gi I 74 13) + i).toNat = gi I 87 ((5 * gi I 74 13) + i).toNat := fun i i0 i1 => hF 87 _ (by omega) (by omega) (by unfold inb; omega)
  refine ⟨?_, ?_, ?_, by rw [f13]; exact h4, hL, hR⟩
  · rw [← h1]
    have e1 : ∀ i, LR F 1 i = LR I 1 i := fun i => by
      show tr (gi F 77 (gi F 74 13).toNat) (gi F 78 ((14 * gi F 74 13) + i).toNat) i = _
      rw [f13]
      exact tr_cg (at1 77 (by decide)) (fun i0 i1 => at14 78 i (by decide) (by decide) i0 (by omega))
    have e2 : ∀ i, LR F 2 i = LR I 2 i := fun i => by
      show tr (gi F 77 (gi F 74 13).toNat) (gi F 79 ((14 * gi F 74 13) + i).toNat) i = _
      rw [f13]
      exact tr_cg (at1 77 (by decide)) (fun i0 i1 => at14 79 i (by decide) (by decide) i0 (by omega))
    have e3 : ∀ i, LR F 3 i = LR I 3 i := fun i => by
      show tr (gi F 77 (gi F 74 13).toNat) (gi F 80 ((14 * gi F 74 13) + i).toNat) i = _
      rw [f13]
      exact tr_cg (at1 77 (by decide)) (fun i0 i1 => at14 80 i (by decide) (by decide) i0 (by omega))
    have e4 : ∀ i, LR F 4 i = LR I 4 i := fun i => by
      show tr (gi F 77 (gi F 74 13).toNat) (gi F 81 ((14 * gi F 74 13) + i).toNat) i = _
      rw [f13]
      exact tr_cg (at1 77 (by decide)) (fun i0 i1 => at14 81 i (by decide) (by decide) i0 (by omega))
    have e5 : ∀ i, LR F 5 i = LR I 5 i := fun i => by
      show tr (gi F 83 (gi F 74 13).toNat) (gi F 84 ((6 * gi F 74 13) + i).toNat) i = _
      rw [f13]
      exact tr_cg (at1 83 (by decide)) (fun i0 i1 => at6 84 i (by decide) (by decide) i0 (by omega))
    have e6 : ∀ i, LR F 6 i = LR I 6 i := fun i => by
      show tr (gi F 83 (gi F 74 13).toNat) (gi F 85 ((6 * gi F 74 13) + i).toNat) i = _
      rw [f13]
      exact tr_cg (at1 83 (by decide)) (fun i0 i1 => at6 85 i (by decide) (by decide) i0 (by omega))
    have e7 : ∀ i, LR F 7 i = LR I 7 i := fun i => by
      show tr (gi F 86 (gi F 74 13).toNat) (gi F 87 ((5 * gi F 74 13) + i).toNat) i = _
      rw [f13]
      exact tr_cg (at1 86 (by decide)) (fun i0 i1 => at5 i i0 (by omega))
    have e20 : ∀ i, LR F 20 i = LR I 20 i := fun i => by
      show gi F 76 (gi F 74 13).toNat = _
      rw [f13]
      exact at1 76 (by decide)
    have e21 : ∀ i, LR F 21 i = LR I 21 i := fun i => by
      show gi F 77 (gi F 74 13).toNat = _
      rw [f13]
      exact at1 77 (by decide)
    have e22 : ∀ i, LR F 22 i = LR I 22 i := fun i => by
      show gi F 83 (gi F 74 13).toNat = _
      rw [f13]
      exact at1 83 (by decide)
    have e23 : ∀ i, LR F 23 i = LR I 23 i := fun i => by
      show gi F 86 (gi F 74 13).toNat = _
      rw [f13]
      exact at1 86 (by decide)
    have e24 : ∀ i, LR F 24 i = LR I 24 i := fun i => by
      show gi F 82 (gi F 74 13).toNat = _
      rw [f13]
      exact at1 82 (by decide)
    have e25 : ∀ i, LR F 25 i = LR I 25 i := fun i => by
      show gi F 88 (gi F 74 13).toNat = _
      rw [f13]
      exact at1 88 (by decide)
    funext f i
    by_cases hf : f = 0 ∨ (8 ≤ f ∧ f ≤ 19) ∨ 26 ≤ f
    · rw [LR_big F i hf, LR_big I i hf]
    · have hc : f = 1 ∨ f = 2 ∨ f = 3 ∨ f = 4 ∨ f = 5 ∨ f = 6 ∨ f = 7 ∨ f = 20 ∨ f = 21 ∨ f = 22 ∨ f = 23 ∨ f = 24 ∨ f = 25 := by omega
      rcases hc with rfl | rfl | rfl | rfl | rfl | rfl | rfl | rfl | rfl | rfl | rfl | rfl | rfl
      · exact e1 i
      · exact e2 i
      · exact e3 i
      · exact e4 i
      · exact e5 i
      · exact e6 i
      · exact e7 i
      · exact e20 i
      · exact e21 i
      · exact e22 i
      · exact e23 i
      · exact e24 i
      · exact e25 i
  · rw [← h2]
    funext ρ
    unfold RR
    by_cases hρ : ρ < 3
    · have a1 := at1 (89 + 2 * ρ) (by omega)
      have a2 := at1 (90 + 2 * ρ) (by omega)
      rw [f13, a1, a2]
      by_cases hn : gi I (89 + 2 * ρ) (gi I 74 13).toNat = -1
      · rw [if_neg (fun t => t.2 hn), if_neg (fun t => t.2 hn)]
      · rw [if_pos ⟨hρ, hn⟩, if_pos ⟨hρ, hn⟩]
        obtain ⟨g1, g2, g3⟩ := (h3 ρ hρ).resolve_left hn
        refine List.map_congr_left (fun x hx => ?_)
        rw [List.mem_range'_1] at hx
        have o : ¬ inb b 95 x ∧ ¬ inb b 96 x := by
          unfold inb
          omega
        unfold encR
        rw [hF 95 x (by decide) (by decide) o.1, hF 96 x (by decide) (by decide) o.2]
    · rw [if_neg (fun t => hρ t.1), if_neg (fun t => hρ t.1)]
  · intro ρ hρ
    rw [f13, at1 (89 + 2 * ρ) (by omega), at1 (90 + 2 * ρ) (by omega)]
    exact h3 ρ hρ
theorem VH.bank {b : Nat} {I F : Nat → Nat → Int32} (hV : VH I) (hb : b < 2) (h13 : gi I 74 13 = 1 - (b : Int)) (hF : ∀ c k, vhC b c k → F c k = I c k) : VH F ∧ LC F = LC I ∧ RC F = RC I ∧ HC F = HC I := by
  have hnow := hV.now
  obtain ⟨⟨hC, hR, h72, h73⟩, hVP, hK, hrn⟩ := hV
  have hL := hC.1.2.2.2.1
  have sc : sameC I F := fun c a b => funext fun k => hF c k (Or.inl ⟨a, by omega⟩)
  have hC' := hC.fr sc
  have eL : LC F = LC I := hC'.1.1
  have eR : RC F = RC I := hC'.1.2.1
  have eH : HC F = HC I := hC'.2.1
  have f13 : gi F 74 13 = gi I 74 13 := gi_eq (hF 74 13 (by unfold vhC; omega))
  have hRL : RL F (LC I) (RC I) := hR.1.bank hb h13 (fun c k c1 c2 hi => gi_eq (hF c k (Or.inr (Or.inr (Or.inl ⟨c1, c2, hi⟩))))) f13
  have n83 : gi F 83 (gi F 74 13).toNat = nR (LC I) := by rw [← hRL.1]; rfl
  have hi : ∀ c k, 108 ≤ c → c ≤ 120 → F c k = I c k := fun c k a b => hF c k (by unfold vhC; omega)
  have lay : ∀ v, LayEq I v F v := fun v => ⟨fun c hc => hi c v (by omega) (by omega), fun c i hc _ => hi c _ (by omega) (by omega), fun i _ => hi 116 _ (by decide) (by decide), fun c i hc _ => hi c _ (by omega) (by omega)⟩
  have g19 : ∀ k, gi F 19 k = gi I 19 k := fun k => gi_eq (hF 19 k (by unfold vhC; omega))
  have g20 : ∀ k, gi F 20 k = gi I 20 k := fun k => gi_eq (hF 20 k (by unfold vhC; omega))
  have nb : gi F 83 (gi F 74 13).toNat = gi I 83 (gi I 74 13).toNat := n83.trans (rx_n hR).symm
  obtain ⟨p1, p2, p3, p4⟩ := hnow.mv (row' := fun i => gi F 19 i.toNat) hL (rx_n hR) (fun i _ _ => g19 _) (lay 0) nb (fun j _ => g20 j)
  have eHR : HR F ((0 : Nat) : Int) = HC I := by
    rw [← p1, ← eH, ← eL]
    rfl
  have p3' : KP F (gi F 19 2) 0 := p3
  refine ⟨⟨⟨by rw [eL, eR, eH]; exact hC', by rw [eL, eR, eH]; exact ⟨hRL, eHR, hC.2.2, by decide⟩, (gi_eq (hF 74 72 (by unfold vhC; omega))).trans h72, (gi_eq (hF 74 73 (by unfold vhC; omega))).trans h73⟩, ?_, p3', ?_⟩, eL, eR, eH⟩
  · rw [eL]
    exact VP.fr hL (rx_n hR) hVP (gi_eq (hF 4 4 (by unfold vhC; omega))) (gi_eq (hF 4 5 (by unfold vhC; omega))) (gi_eq (hF 74 65 (by unfold vhC; omega))) (gi_eq (hF 74 66 (by unfold vhC; omega))) (funext fun k => hF 21 k (by unfold vhC; omega)) nb (fun v _ _ => lay v) (fun j _ => g20 j) (by rw [g19]; exact Int.le_refl _)
  · rw [eL, eH, g19]
    exact hrn
/-- as it stands, whatever else changed -/
theorem VH.frs {I F : Nat → Nat → Int32} (hV : VH I) (hF : ∀ c k, scrC c = false → scrF c k = false → vhX c k → F c k = I c k) : VH F ∧ LC F = LC I ∧ RC F = RC I ∧ HC F = HC I := by
  have hb := rx_b hV.1.2.1
  obtain ⟨G, hG⟩ : ∃ G : Nat → Nat → Int32, ∀ c k, G c k = if scrC c = false ∧ scrF c k = false then F c k else I c k := ⟨fun c k => if scrC c = false ∧ scrF c k = false then F c k else I c k, fun _ _ => rfl⟩
  have g1 : ∀ c k, vhX c k → G c k = I c k := fun c k hx => by
    rw [hG]
    by_cases h : scrC c = false ∧ scrF c k = false
    · rw [if_pos h]; exact hF c k h.1 h.2 hx
    · rw [if_neg h]
  have g2 : scrS G F := fun c k a b => by
    rw [hG, if_pos ⟨a, b⟩]
  obtain ⟨v1, v2, v3, v4⟩ := hV.bank (b := (1 - gi I 74 13).toNat) (F := G) (by omega) (by omega) (fun c k hc => g1 c k hc.x)
  obtain ⟨w1, w2, w3, w4⟩ := v1.scr g2
  exact ⟨w1, w2.trans v2, w3.trans v3, w4.trans v4⟩
end VHFR

section RFIN
/-! ===== the reference: a statement's end ===== -/
noncomputable def fin (T : Nat → Int) (n : Nat) (told : Int) : St → St
  | .inl e => .inl e
  | .inr c => ci (sgn T n c.2 59 ∧ told = 80 ∧ kR T n (tE T n c.2) ≠ 0) (.inl (6, tS T n (tE T n c.2))) (ci (sgn T n c.2 59) (.inr (c.1, tE T n c.2)) (.inl (1, pl T n c.2)))
theorem sgn_bd {T : Nat → Int} {n p : Nat} {x : Int} (h : sgn T n p x) : bd T n p = -1 := bd_3 (Or.inl h.1)
set_option maxHeartbeats 1000000 in
theorem R_fin {k : Nat} {P : Option Nat} {I : Nat → Nat → Int32} {J : Nat → Nat → Int64} {Q : Option AV → Mem → Prop} {T : Nat → Int} {n p : Nat} {told : Int} (hk : 12 ≤ k) (hX : TX T n) (hp : p ≤ n) (hT : RT I J T n p) (h8 : gi I 74 8 = 0) (hx : inR told) (he : ¬ sgn T n p 59 → ∀ I', ER I I' (1, pl T n p) → Q none (mem (P, some 5, some 22) I' J)) (h6 : sgn T n p 59 → told = 80 → kR T n (tE T n p) ≠ 0 → ∀ I', ER I I' (6, tS T n (tE T n p)) → Q none (mem (P, some 5, some 22) I' J)) (ho : sgn T n p 59 → ¬ (told = 80 ∧ kR T n (tE T n p) ≠ 0) → ∀ I' J', RT I' J' T n (tE T n p) → Fr [] FLr I I' → Fr [] [(74, 7)] J J' → Q none (mem (P, some 5, some 22) I' J')) : WPm k LAY m_X12_finishes [vR (some 74), vI told] (mem (P, some 5, some 22) I J) Q := by
  have hn := hX.1
  have h12 : gi I 74 12 = bd T n p := hT.2.2.2.2.1
  have h5 : gi I 74 5 = tE T n p := hT.2.2.2.1
  have h2 : gi I 74 2 = (n : Int) := hT.1.1
  have hte := tE_rng (T := T) hp
  have hts := tS_rng (T := T) (n := n) (p := tE T n p) hte.2.1
  -- what must stand
  have mu : (sgn T n p 59 → ¬ (told = 80 ∧ kR T n (tE T n p) ≠ 0)) → WPm (k - 1) LAY m_X12_must [vR (some 74), vI 59] (mem (P, some 5, some 22) I J) (retV (fun I3 J4 => Q none (mem (P, some 5, some 22) I3 J4)) (P, some 5, some 22)) := fun q => R_must (by omega) hX hp hT h8 (by decide) (fun hs I' J' a1 a2 a3 => ⟨_, _, rfl, rfl, ho hs (q hs) I' J' a1 a2 a3⟩) (fun hs I' hE => ⟨_, _, rfl, rfl, he hs I' hE⟩)
  have loop : ∀ m x2 : Nat, tE T n p ≤ x2 → x2 ≤ tS T n (tE T n p) → tS T n (tE T n p) - x2 ≤ m → WP k LAY m_X12_finishes 17 [(0, vR (some 74)), (1, vI told), (2, vI (x2 : Int))] [] (mem (P, some 5, some 22) I J) Q := by
    intro m
    induction m with
    | zero =>
      intro x2 a1 a2 a3
      have e : x2 = tS T n (tE T n p) := by omega
      refine B_X12_finishes_17 (by omega) ?_
      rw [h2, hT.s 59]
      refine ⟨by unfold inR; omega, fun hle => ?_, fun hlt => ?_⟩
      · have k0 : kR T n (tE T n p) = 0 := kR_0.mpr (by omega)
        have mm := mu (fun _ t => t.2 k0)
        exact ⟨fun _ => mm, fun _ => ⟨hx, fun _ => mm, fun _ => ⟨fun _ => mm, fun q => absurd hle q⟩⟩⟩
      · have hlt2 : tS T n (tE T n p) < n := by omega
        have k0 : kR T n (tE T n p) ≠ 0 := fun t => by have := kR_0.mp t; omega
        have hzb : zB (T (tS T n (tE T n p))) = false := runS_end (g := zB) hlt2
        have nb : ¬ (T (tS T n (tE T n p)) = 10 ∨ T (tS T n (tE T n p)) = 32) := by
          unfold zB at hzb
          exact of_decide_eq_false hzb
        rw [Int.toNat_natCast, hT.1.2 x2 (by omega), e]
        refine ⟨by omega, fun q => absurd (Or.inr q) nb, fun _ => ⟨fun _ => ⟨fun ns => mu (fun s => absurd s ns), fun s => ⟨hx, fun n80 => mu (fun _ t => n80 t.1), fun e80 => ⟨fun q => absurd q (by omega), fun _ => ⟨fun _ => ?_, fun q => absurd (by omega) q⟩⟩⟩⟩, fun q => absurd (Or.inl q) nb⟩⟩
        have hE : ER I (si (si I 74 8 6) 74 9 ((tS T n (tE T n p) : Nat) : Int)) (6, ((tS T n (tE T n p) : Nat) : Int)) := ER.of (by decide) (by unfold inR; omega)
        have h8' : gi (si (si I 74 8 6) 74 9 ((tS T n (tE T n p) : Nat) : Int)) 74 8 = 6 := hE.2.1
        exact R_mustZ (by omega) (by omega) (by decide) ⟨_, _, rfl, rfl, h6 s e80 k0 _ hE⟩
    | succ m ih =>
      intro x2 a1 a2 a3
      by_cases e : x2 = tS T n (tE T n p)
      · exact ih x2 a1 a2 (by omega)
      · have hall : zB (T x2) = true := runS_all (g := zB) a1 (by show x2 < tS T n (tE T n p); omega)
        have hb : T x2 = 10 ∨ T x2 = 32 := by
          unfold zB at hall
          exact of_decide_eq_true hall
        have nx := ih (x2 + 1) (by omega) (by omega) (by omega)
        refine B_X12_finishes_17 (by omega) ?_
        rw [h2, hT.s 59]
        refine ⟨by unfold inR; omega, fun hle => absurd hle (by omega), fun hlt => ?_⟩
        rw [Int.toNat_natCast, hT.1.2 x2 (by omega)]
        exact ⟨by omega, fun _ => nx, fun q32 => ⟨fun q10 => absurd hb (fun t => t.elim q10 q32), fun _ => nx⟩⟩
  refine WPm.of k_X12_finishes.1 (Nat.le_of_ble_eq_true rfl) (B_X12_finishes_0 (by omega) ?_)
  rw [h5]
  refine ⟨fun e12 => ⟨fun _ => loop _ _ (Nat.le_refl _) hts.1 (Nat.le_refl _), fun q => absurd (by omega) q⟩, fun e12 => ⟨fun _ => ?_, fun q => absurd (by omega) q⟩⟩
  have hb : bd T n p ≠ -1 := fun t => e12 (h12.trans t)
  exact he (fun s => hb (sgn_bd s)) _ (ER.lex hT hb)
end RFIN

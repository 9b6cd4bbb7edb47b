section LOOP
/-! ===== a refusal has a kind ===== -/
def Ge (s : St) : Prop := ∀ e, s = .inl e → 0 < e.1
theorem Ge_l {z y : Int} (h : 0 < z) : Ge (.inl (z, y)) := fun e q => by
  have q' : ((z, y) : Int × Int) = e := Sum.inl.inj q
  subst q'
  exact h
theorem Ge_r (c : (Lt × Nt × Rt) × Nat) : Ge (.inr c) := fun e q => by cases q
theorem Ge_ci {P : Prop} {a b : St} (ha : P → Ge a) (hb : ¬ P → Ge b) : Ge (ci P a b) := by
  by_cases h : P
  · rw [ci_y h]; exact ha h
  · rw [ci_n h]; exact hb h
theorem Ge_pW {T : Nat → Int} {n p : Nat} {w : Int} {c : Nat → St} (h : ∀ q, Ge (c q)) : Ge (pW T n w p c) := Ge_ci (fun _ => h _) (fun _ => Ge_l (by decide))
theorem Ge_pNu {T : Nat → Int} {n p : Nat} {lo hi : Int} {c : Int → Nat → St} (h : ∀ v q, Ge (c v q)) : Ge (pNu T n lo hi p c) := Ge_ci (fun _ => Ge_ci (fun _ => h _ _) (fun _ => Ge_l (by decide))) (fun _ => Ge_l (by decide))
theorem Ge_pA {T : Nat → Int} {n p s : Nat} {L : Lt} {N : Nt} {c : Nat → St} (h : ∀ q, Ge (c q)) : Ge (pA T n s L N p c) := Ge_ci (fun _ => Ge_ci (fun _ => Ge_l (by decide)) (fun _ => h _)) (fun _ => Ge_l (by decide))
theorem Ge_pG {T : Nat → Int} {n p : Nat} {L : Lt} {N : Nt} {c : Nat → St} (h : ∀ q, Ge (c q)) : Ge (pG T n L N p c) := Ge_ci (fun _ => Ge_ci (fun _ => h _) (fun _ => Ge_l (by decide))) (fun _ => Ge_l (by decide))
theorem Ge_rule {L : Lt} {N : Nt} {R : Rt} {ρ n p : Nat} {r : Res} {g : Bool} {dep : Nat} {fol : Nat → Prop} (h : gdx g dep n p fol r) : Ge (ruleR L N R ρ r) := by
  cases r with
  | inl e =>
    intro e' q
    have q' : e = e' := Sum.inl.inj q
    subst q'
    exact h
  | inr c => exact Ge_r _
theorem Ge_if {P : Prop} [Decidable P] {a b : St} (ha : Ge a) (hb : Ge b) : Ge (if P then a else b) := by
  by_cases h : P
  · rw [if_pos h]; exact ha
  · rw [if_neg h]; exact hb
theorem stm_ge {T : Nat → Int} {n p : Nat} {L : Lt} {N : Nt} {R : Rt} {rs rt : Nat → Res} (hp : p ≤ n) (hR : RR2 T n rs rt) : Ge (stm T n L N R rs rt p) := by
  unfold stm
  refine Ge_ci (fun h => Ge_ci (fun _ => Ge_l (by decide)) (fun _ => ?_)) (fun _ => Ge_l (by decide))
  have hg := tE_gt (T := T) hp (by rw [h.2.1]; decide)
  have hRp := hR _ hg.2.1
  unfold stmB
  refine Ge_if ?_ (Ge_if ?_ (Ge_if ?_ (Ge_if ?_ (Ge_if ?_ (Ge_if ?_ (Ge_if (Ge_rule hRp.1.1) (Ge_if (Ge_rule hRp.1.1) (Ge_rule hRp.2.1))))))))
  · exact Ge_pG (fun _ => Ge_r _)
  · exact Ge_pG (fun _ => Ge_pW (fun _ => Ge_pA (fun _ => Ge_pW (fun _ => Ge_pNu (fun _ _ => Ge_ci (fun _ => Ge_r _) (fun _ => Ge_r _))))))
  · exact Ge_pA (fun _ => Ge_pA (fun _ => Ge_ci (fun _ => Ge_l (by decide)) (fun _ => Ge_r _)))
  · exact Ge_pG (fun _ => Ge_pW (fun _ => Ge_pNu (fun _ _ => Ge_pW (fun _ => Ge_pNu (fun _ _ => Ge_r _)))))
  · exact Ge_pG (fun _ => Ge_pW (fun _ => Ge_pNu (fun _ _ => Ge_r _)))
  · exact Ge_pNu (fun _ _ => Ge_r _)
end LOOP

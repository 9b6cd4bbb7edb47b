section WLT
/-! ===== what is always kept, through a statement ===== -/
theorem WL_need {L : Lt} {N : Nt} {R : Rt} {a b : Nat} (hW : WL L N R) (ha : (a : Int) < L 0 1) (hb : b < a) (hc : L 0 4 ≠ 20) : WL (needL L a b) N R := by
  have nl : ∀ f i, ¬ (f = 4 ∧ i = a) → ¬ (f = 0 ∧ i = 4) → needL L a b f i = L f i := fun f i y1 y2 => by
    unfold needL
    rw [putL_o _ _ y2, putL_o _ _ y1]
  have n4 : needL L a b 4 a = (((L 4 a).toNat ||| 2 ^ b : Nat) : Int) := by
    unfold needL
    rw [putL_o _ _ (by omega), putL_s]
  have n0 : needL L a b 0 4 = L 0 4 + 1 := by
    unfold needL
    rw [putL_s]
  obtain ⟨⟨z0, z1, z2, z3, z4, z5⟩, y1, y2, y3, y4, y5, y6⟩ := hW
  refine ⟨⟨?_, ?_, ?_, ?_, ?_, ?_⟩, fun i hi => ?_, fun i hi => ?_, fun i hi => ?_, fun i hi => ?_, fun k i hk hi => ?_, y6⟩
  · rw [nl _ _ (by omega) (by omega)]; exact z0
  · rw [nl _ _ (by omega) (by omega)]; exact z1
  · rw [nl _ _ (by omega) (by omega)]; exact z2
  · rw [nl _ _ (by omega) (by omega)]; exact z3
  · rw [n0]; omega
  · rw [nl _ _ (by omega) (by omega)]; exact z5
  · rw [nl 0 1 (by omega) (by omega)] at hi
    rw [nl 1 i (by omega) (by omega), nl 2 i (by omega) (by omega), nl 3 i (by omega) (by omega), nl 0 0 (by omega) (by omega)]
    obtain ⟨w1, w2, w3, w4⟩ := y1 i hi
    refine ⟨w1, w2, w3, ?_⟩
    by_cases e : i = a
    · subst e
      rw [n4]
      have h2b : 2 ^ b < 2 ^ i := Nat.pow_lt_pow_right (by decide) hb
      have := Nat.or_lt_two_pow w4.2 h2b
      exact ⟨by omega, by omega⟩
    · rw [nl 4 i (by omega) (by omega)]
      exact w4
  · rw [nl 0 2 (by omega) (by omega)] at hi
    rw [nl 5 i (by omega) (by omega), nl 6 i (by omega) (by omega)]
    exact y2 i hi
  · rw [nl 0 3 (by omega) (by omega)] at hi
    rw [nl 7 i (by omega) (by omega)]
    exact y3 i hi
  · rw [nl 0 1 (by omega) (by omega)] at hi
    rw [nl 3 i (by omega) (by omega), nl 4 i (by omega) (by omega)]
    exact y4 i hi
  · rw [nl 0 k (by omega) (by omega)] at hi
    exact y5 k i hk hi
theorem WL_inch {L : Lt} {N : Nt} {R : Rt} {v : Int} (hW : WL L N R) (hv : 10 ≤ v ∧ v ≤ 120) : WL (putL L 0 5 v) N R := by
  have po : ∀ f i, ¬ (f = 0 ∧ i = 5) → putL L 0 5 v f i = L f i := fun f i h => putL_o _ _ h
  obtain ⟨⟨z0, z1, z2, z3, z4, z5⟩, y1, y2, y3, y4, y5, y6⟩ := hW
  refine ⟨⟨?_, ?_, ?_, ?_, ?_, ?_⟩, fun i hi => ?_, fun i hi => ?_, fun i hi => ?_, fun i hi => ?_, fun k i hk hi => ?_, y6⟩
  · rw [po _ _ (by omega)]; exact z0
  · rw [po _ _ (by omega)]; exact z1
  · rw [po _ _ (by omega)]; exact z2
  · rw [po _ _ (by omega)]; exact z3
  · rw [po _ _ (by omega)]; exact z4
  · rw [putL_s]; exact hv
  · rw [po 0 1 (by omega)] at hi
    rw [po 1 i (by omega), po 2 i (by omega), po 3 i (by omega), po 4 i (by omega), po 0 0 (by omega)]
    exact y1 i hi
  · rw [po 0 2 (by omega)] at hi
    rw [po 5 i (by omega), po 6 i (by omega)]
    exact y2 i hi
  · rw [po 0 3 (by omega)] at hi
    rw [po 7 i (by omega)]
    exact y3 i hi
  · rw [po 0 1 (by omega)] at hi
    rw [po 3 i (by omega), po 4 i (by omega)]
    exact y4 i hi
  · rw [po 0 k (by omega)] at hi
    exact y5 k i hk hi
theorem WL_rule {L : Lt} {N : Nt} {R : Rt} {ρ : Nat} {c : List Int} (hW : WL L N R) (hc : tok (decide (ρ = 2)) c []) : WL L N (putR R ρ c) := by
  obtain ⟨z, y1, y2, y3, y4, y5, y6⟩ := hW
  refine ⟨z, y1, y2, y3, y4, y5, fun ρ' hρ' => ?_⟩
  by_cases e : ρ' = ρ
  · subst e
    have ep : putR R ρ' c ρ' = c := if_pos rfl
    rw [ep]
    exact Or.inr hc
  · have ep : putR R ρ c ρ' = R ρ' := if_neg e
    rw [ep]
    exact y6 ρ' hρ'
def WLr (n p : Nat) (c : (Lt × Nt × Rt) × Nat) : Prop := WL c.1.1 c.1.2.1 c.1.2.2 ∧ p ≤ c.2 ∧ c.2 ≤ n
theorem WL_ruleR {n p ρ : Nat} {L : Lt} {N : Nt} {R : Rt} {r : Res} {g : Bool} {dep : Nat} {fol : Nat → Prop} {c : (Lt × Nt × Rt) × Nat} (hW : WL L N R) (hg : gdx g dep n p fol r) (hd : dep ≤ 60) (hρ : decide (ρ = 2) = g) (h : ruleR L N R ρ r = .inr c) : WLr n p c := by
  cases r with
  | inl e => exact (inl_ne h).elim
  | inr d =>
    obtain ⟨g1, g2, g3, g4, g5⟩ := hg
    have e : c = ((L, N, putR R ρ d.1), d.2) := (Sum.inr.inj h).symm
    subst e
    exact ⟨WL_rule hW (by rw [hρ]; exact g4.tk hd), by show p ≤ d.2; omega, g2⟩
set_option maxHeartbeats 1000000 in
theorem WL_stm {T : Nat → Int} {n p : Nat} {L : Lt} {N : Nt} {R : Rt} {rs rt : Nat → Res} {c : (Lt × Nt × Rt) × Nat} (hp : p ≤ n) (hW : WL L N R) (hR : RR2 T n rs rt) (h : stm T n L N R rs rt p = .inr c) : WL c.1.1 c.1.2.1 c.1.2.2 ∧ p < c.2 ∧ c.2 ≤ n := by
  obtain ⟨z0, z1, z2, z3, z4, -⟩ := hW.1
  unfold stm at h
  rcases ci_i h with ⟨⟨hb, h1, hr⟩, h⟩ | ⟨_, h⟩
  rcases ci_i h with ⟨_, h⟩ | ⟨hr0, h⟩
  · exact (inl_ne h).elim
  · have hg := tE_gt (T := T) hp (by rw [h1]; decide)
    have hlt : p < tE T n p := by omega
    have hpn := hg.2.1
    have hRp := hR _ hpn
    suffices hs : WLr n (tE T n p) c from ⟨hs.1, by have := hs.2.1; omega, hs.2.2⟩
    have hw := room_w hr
    generalize ow T n p = w at *
    generalize tE T n p = p1 at *
    rcases hw with e | e | e | e | e | e | e | e | e <;> subst e
    · have hm : roomP L R 0 = 5 - L 0 0 := rfl
      have h' : rBook T n L N R p1 = .inr c := h
      obtain ⟨a1, a2, a3⟩ := pG_i hpn h'
      have e := (Sum.inr.inj a3).symm
      subst e
      exact ⟨WL_book hW (by omega) a2, a1.1, a1.2⟩
    · have hm : roomP L R 1 = 14 - L 0 1 := rfl
      have h' : rPage T n L N R p1 = .inr c := h
      obtain ⟨a1, a2, a3⟩ := pG_i hpn h'
      obtain ⟨b1, b3⟩ := pW_i a1.2 a3
      obtain ⟨c1, bk, c2, c3⟩ := pA_i b1.2 z0.1 b3
      obtain ⟨d1, d3⟩ := pW_i c1.2 c3
      obtain ⟨e1, e2, e3⟩ := pNu_i d1.2 d3
      rcases ci_i e3 with ⟨⟨f1, f2⟩, f3⟩ | ⟨_, f3⟩
      · have hg6 := tE_gt (T := T) e1.2 (by rw [f2.1]; decide)
        have e := (Sum.inr.inj f3).symm
        subst e
        exact ⟨WL_page hW (by omega) a2 ⟨by omega, c2⟩ e2 (by decide), by show p1 ≤ tE T n _; omega, hg6.2.1⟩
      · have e := (Sum.inr.inj f3).symm
        subst e
        exact ⟨WL_page hW (by omega) a2 ⟨by omega, c2⟩ e2 (by decide), by show p1 ≤ tE T n _; omega, e1.2⟩
    · have hm : roomP L R 5 = 20 - L 0 4 := rfl
      have h' : rNeed T n L N R p1 = .inr c := h
      obtain ⟨a1, a, a2, a3⟩ := pA_i hpn z1.1 h'
      obtain ⟨b1, b, b2, b3⟩ := pA_i a1.2 z1.1 a3
      rcases ci_i b3 with ⟨_, f3⟩ | ⟨f1, f3⟩
      · exact (inl_ne f3).elim
      · have e := (Sum.inr.inj f3).symm
        subst e
        have hab : b < a := Nat.lt_of_not_le (fun t => f1 (Or.inl t))
        exact ⟨WL_need hW a2 hab (by omega), by show p1 ≤ tE T n _; omega, b1.2⟩
    · have hm : roomP L R 6 = 6 - L 0 2 := rfl
      have h' : rReader T n L N R p1 = .inr c := h
      obtain ⟨a1, a2, a3⟩ := pG_i hpn h'
      obtain ⟨b1, b3⟩ := pW_i a1.2 a3
      obtain ⟨c1, c2, c3⟩ := pNu_i b1.2 b3
      obtain ⟨d1, d3⟩ := pW_i c1.2 c3
      obtain ⟨e1, e2, e3⟩ := pNu_i d1.2 d3
      have e := (Sum.inr.inj e3).symm
      subst e
      exact ⟨WL_reader hW (by omega) a2 c2 e2, by show p1 ≤ tE T n _; omega, e1.2⟩
    · have hm : roomP L R 9 = 5 - L 0 3 := rfl
      have h' : rTable T n L N R p1 = .inr c := h
      obtain ⟨a1, a2, a3⟩ := pG_i hpn h'
      obtain ⟨b1, b3⟩ := pW_i a1.2 a3
      obtain ⟨c1, c2, c3⟩ := pNu_i b1.2 b3
      have e := (Sum.inr.inj c3).symm
      subst e
      exact ⟨WL_table hW (by omega) a2 c2, by show p1 ≤ tE T n _; omega, c1.2⟩
    · have h' : rInch T n L N R p1 = .inr c := h
      obtain ⟨a1, a2, a3⟩ := pNu_i hpn h'
      have e := (Sum.inr.inj a3).symm
      subst e
      exact ⟨WL_inch hW a2, a1.1, a1.2⟩
    · exact WL_ruleR hW hRp.1.1 (by decide) rfl h
    · exact WL_ruleR hW hRp.1.1 (by decide) rfl h
    · exact WL_ruleR hW hRp.2.1 (by decide) rfl h
  · exact (inl_ne h).elim
end WLT

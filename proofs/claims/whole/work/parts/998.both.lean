section BOTHX
/-! ===== both readers come to one result ===== -/
def gdx (g : Bool) (dep n p : Nat) (fol : Nat → Prop) : Res → Prop
  | .inl e => 0 < e.1
  | .inr c => p < c.2 ∧ c.2 ≤ n ∧ c.1 ≠ [] ∧ Tyc g c.1 dep ∧ fol c.2
def EX (md : MD) (K : Nat) (tst : Bool) (bud : Nat) (cx lo : Int) (g : Bool) (dep : Nat) (fol : Nat → Prop) (T : Nat → Int) (n o p : Nat) : Prop := ∃ r, gdx g dep n p fol r ∧ CN md K T n o p r ∧ RN tst bud cx lo T n o p r
abbrev fP (T : Nat → Int) (n : Nat) : Nat → Prop := fun q => ¬ pOp T n q
abbrev fS (T : Nat → Int) (n : Nat) : Nat → Prop := fun q => ¬ pOp T n q ∧ ¬ sOp T n q
abbrev fA (T : Nat → Int) (n : Nat) : Nat → Prop := fun q => ¬ (bd T n q = -1 ∧ wd T n q 20)
abbrev fO (T : Nat → Int) (n : Nat) : Nat → Prop := fun q => ¬ (bd T n q = -1 ∧ wd T n q 20) ∧ ¬ (bd T n q = -1 ∧ wd T n q 19)
def E1 (T : Nat → Int) (n o p : Nat) : Prop := EX m_X3_parsePart (KD 1 o) false 5 7 7 false (1 + 3 * (7 - o)) (fun _ => True) T n o p
def E2 (T : Nat → Int) (n o p : Nat) : Prop := EX m_X3_parseProduct (KD 2 o) false 4 6 6 false (2 + 3 * (7 - o)) (fP T n) T n o p
def E3 (T : Nat → Int) (n o p : Nat) : Prop := EX m_X3_parseSum (KD 3 o) false 3 5 5 false (3 + 3 * (7 - o)) (fS T n) T n o p
def E4 (T : Nat → Int) (n o p : Nat) : Prop := EX m_X3_parseFact (KD 4 o) true 2 4 3 true (4 + 3 * (7 - o)) (fun _ => True) T n o p
def E5 (T : Nat → Int) (n o p : Nat) : Prop := EX m_X3_parseBoth (KD 5 o) true 1 2 2 true (5 + 3 * (7 - o)) (fA T n) T n o p
def E6 (T : Nat → Int) (n o p : Nat) : Prop := EX m_X3_parseTest (KD 6 o) true 0 1 1 true (6 + 3 * (7 - o)) (fO T n) T n o p
def gdl (g : Bool) (dep n p : Nat) (fol : Nat → Prop) : Res → Prop
  | .inl e => 0 < e.1
  | .inr c => p ≤ c.2 ∧ c.2 ≤ n ∧ (∀ a, Tyc g a dep → Tyc g (a ++ c.1) dep) ∧ fol c.2
theorem X_loop {md mds : MD} {K Ks : Nat} {tst g : Bool} {bud buds D : Nat} {cx cxs los : Int} {T : Nat → Int} {n o p0 : Nat} {fs op : Nat → Prop}
    (hexit : ∀ p, p ≤ n → ¬ op p → CLp md K T n o p (.inr ([], p)))
    (hstep : ∀ p, p ≤ n → op p → ∃ z : Int, (∀ a c, Tyc g a (D + 1) → Tyc g c D → Tyc g (a ++ c ++ [z]) (D + 1)) ∧ p < tE T n p ∧ tE T n p ≤ n ∧ (∀ r1 r2, CN mds Ks T n o (tE T n p) r1 → (∀ c, r1 = .inr c → CLp md K T n o c.2 r2) → CLp md K T n o p (seqR [z] r1 r2)) ∧ (∀ r1 r2, RN tst buds cxs los T n o (tE T n p) r1 → (∀ c, r1 = .inr c → RLp tst bud cx cx T n o c.2 r2) → RLp tst bud cx cx T n o p (seqR [z] r1 r2)))
    (hsub : ∀ p', p0 < p' → p' ≤ n → EX mds Ks tst buds cxs los g D fs T n o p') :
    ∀ d p, n - p ≤ d → p0 ≤ p → p ≤ n → fs p → ∃ r, gdl g (D + 1) n p (fun q => fs q ∧ ¬ op q) r ∧ CLp md K T n o p r ∧ RLp tst bud cx cx T n o p r := by
  intro d
  induction d with
  | zero =>
    intro p hd hp0 hp hfs
    have : ¬ op p := fun q => by
      obtain ⟨z, -, h1, h2, -⟩ := hstep p hp q
      omega
    exact ⟨.inr ([], p), ⟨Nat.le_refl _, hp, fun a ha => by rw [List.append_nil]; exact ha, hfs, this⟩, hexit p hp this, R_exit⟩
  | succ d ih =>
    intro p hd hp0 hp hfs
    rcases Classical.em (op p) with q | q
    · obtain ⟨z, hz, h1, h2, hC, hR⟩ := hstep p hp q
      obtain ⟨r1, g1, c1, n1⟩ := hsub (tE T n p) (by omega) h2
      cases r1 with
      | inl e => exact ⟨.inl e, g1, hC (.inl e) (.inl e) c1 (fun c hc => (by cases hc)), hR (.inl e) (.inl e) n1 (fun c hc => by cases hc)⟩
      | inr c =>
        obtain ⟨e1, e2, e3, e4, e5⟩ := g1
        obtain ⟨r2, g2, c2, n2⟩ := ih c.2 (by omega) (by omega) e2 e5
        refine ⟨seqR [z] (.inr c) r2, ?_, hC _ _ c1 (fun c' hc => by cases hc; exact c2), hR _ _ n1 (fun c' hc => by cases hc; exact n2)⟩
        cases r2 with
        | inl e => exact g2
        | inr d2 =>
          obtain ⟨f1, f2, f3, f4⟩ := g2
          refine ⟨by show p ≤ d2.2; omega, f2, fun a ha => ?_, f4⟩
          show Tyc g (a ++ ((c.1 ++ [z]) ++ d2.1)) (D + 1)
          have := f3 _ (hz a c.1 ha e4)
          rwa [List.append_assoc, List.append_assoc, ← List.append_assoc c.1] at this
    · exact ⟨.inr ([], p), ⟨Nat.le_refl _, hp, fun a ha => by rw [List.append_nil]; exact ha, hfs, q⟩, hexit p hp q, R_exit⟩
theorem X_head {md mds : MD} {K Ks : Nat} {tst g : Bool} {bud buds D : Nat} {cx cxs los : Int} {T : Nat → Int} {n o p : Nat} {fs fol : Nat → Prop} (hb : bud ≤ buds) (hc : cx ≤ cxs) (hl : cx ≤ los)
    (hC : ∀ r1 r2, CN mds Ks T n o p r1 → (∀ c, r1 = .inr c → CLp md K T n o c.2 r2) → CN md K T n o p (seqR [] r1 r2))
    (h1 : EX mds Ks tst buds cxs los g D fs T n o p)
    (h2 : ∀ p', p < p' → p' ≤ n → fs p' → ∃ r, gdl g (D + 1) n p' fol r ∧ CLp md K T n o p' r ∧ RLp tst bud cx cx T n o p' r) : EX md K tst bud cx cx g (D + 1) fol T n o p := by
  obtain ⟨r1, g1, c1, n1⟩ := h1
  cases r1 with
  | inl e => exact ⟨.inl e, g1, hC (.inl e) (.inl e) c1 (fun c hc => by cases hc), R_head (r1 := .inl e) (r2 := .inl e) hb hc hl n1 (fun c hc => by cases hc)⟩
  | inr c =>
    obtain ⟨e1, e2, e3, e4, e5⟩ := g1
    obtain ⟨r2, g2, c2, n2⟩ := h2 c.2 e1 e2 e5
    refine ⟨seqR [] (.inr c) r2, ?_, hC _ _ c1 (fun c' hc => by cases hc; exact c2), R_head hb hc hl n1 (fun c' hc => by cases hc; exact n2)⟩
    rw [seqR_0]
    cases r2 with
    | inl e => exact g2
    | inr d2 =>
      obtain ⟨f1, f2, f3, f4⟩ := g2
      exact ⟨by show p < d2.2; omega, f2, fun q => e3 (List.append_eq_nil_iff.mp q).1, f3 c.1 (e4.up (Nat.le_succ _)), f4⟩
theorem clo_gd {T : Nat → Int} {n p p1 : Nat} {x : Int} {g : Bool} {dep : Nat} {fs : Nat → Prop} {r : Res} (h : gdx g dep n p1 fs r) (hp : p < p1) {dep' : Nat} (hd : dep ≤ dep') : gdx g dep' n p (fun _ => True) (cloR T n x r) := by
  cases r with
  | inl e => exact h
  | inr c =>
    obtain ⟨e1, e2, e3, e4, e5⟩ := h
    by_cases hs : sgn T n c.2 x
    · rw [cloR_y hs]
      have hg := tE_gt (T := T) e2 (by rw [hs.1]; decide)
      exact ⟨by show p < tE T n c.2; omega, hg.2.1, e3, e4.up hd, trivial⟩
    · rw [cloR_n hs]
      exact (by decide : (0 : Int) < 1)
theorem X1 {T : Nat → Int} {n o p : Nat} (hX : TX T n) (hp : p ≤ n) (ho : o ≤ 7) (hI : ∀ p', p < p' → p' ≤ n → ∀ o', o' ≤ 7 → E3 T n o' p') : E1 T n o p := by
  by_cases hb : bd T n p = -1
  · by_cases h2 : kR T n p = 2
    · have hg := tE_gt (T := T) hp (by omega)
      exact ⟨.inr ([vl T n p], tE T n p), ⟨hg.1, hg.2.1, (by intro q; cases q), (Tyc.num (vl_d hp h2)).up (by omega), trivial⟩, C_num hX hp hb h2, R_num hX hp hb h2⟩
    · by_cases h40 : sgn T n p 40
      · have hg := tE_gt (T := T) hp (by rw [h40.1]; decide)
        by_cases ho7 : o = 7
        · subst ho7
          exact ⟨.inl (5, tS T n p), (by decide : (0 : Int) < 5), C_par7 (o := 0) hX hp h40, R_par7 hX hp h40⟩
        · obtain ⟨r, g1, c1, n1⟩ := hI (tE T n p) hg.1 hg.2.1 (o + 1) (by omega)
          exact ⟨_, clo_gd g1 hg.1 (by omega), C_par hX hp h40 (by omega) c1, R_par hX hp h40 (by omega) n1 (fun c hc => by subst hc; exact g1.2.2.2.2)⟩
      · by_cases hm : wd T n p 23 ∨ wd T n p 24
        · have hk1 : kR T n p = 1 := hm.elim (fun t => t.1) (fun t => t.1)
          have hg := tE_gt (T := T) hp (by omega)
          by_cases hs : sgn T n (tE T n p) 40
          · by_cases ho7 : o = 7
            · subst ho7
              refine ⟨.inl (5, tS T n (tE T n p)), (by decide : (0 : Int) < 5), ?_, ?_⟩
              · rcases hm with q | q
                · exact C_min23b hX hp hb q hs
                · exact C_min24b hX hp hb q hs
              · rcases hm with q | q
                · exact R_minb hX hp hb q (Or.inl ⟨rfl, rfl⟩) hs
                · exact R_minb hX hp hb q (Or.inr ⟨rfl, rfl⟩) hs
            · have hg1 := tE_gt (T := T) hg.2.1 (by rw [hs.1]; decide)
              obtain ⟨r1, g1, c1, n1⟩ := hI (tE T n (tE T n p)) (by omega) hg1.2.1 (o + 1) (by omega)
              have h2' : ∃ r2, (∀ c, r1 = .inr c → sgn T n c.2 44 → gdx false (3 + 3 * (7 - (o + 1))) n (tE T n c.2) (fS T n) r2 ∧ CN m_X3_parseSum (KD 3 (o + 1)) T n (o + 1) (tE T n c.2) r2 ∧ RN false 3 5 5 T n (o + 1) (tE T n c.2) r2) ∧ (∀ c, r2 = .inr c → fS T n c.2) := by
                cases r1 with
                | inl e => exact ⟨.inl (1, 0), ⟨fun c hc => (by cases hc), fun c hc => (by cases hc)⟩⟩
                | inr c1' =>
                  by_cases h44 : sgn T n c1'.2 44
                  · have hg2 := tE_gt (T := T) g1.2.1 (by rw [h44.1]; decide)
                    have := g1.1
                    obtain ⟨r2, g2, c2, n2⟩ := hI (tE T n c1'.2) (by omega) hg2.2.1 (o + 1) (by omega)
                    exact ⟨r2, fun c hc _ => by cases hc; exact ⟨g2, c2, n2⟩, fun c hc => by subst hc; exact g2.2.2.2.2⟩
                  · exact ⟨.inl (1, 0), ⟨fun c hc h => (by cases hc; exact absurd h h44), fun c hc => (by cases hc)⟩⟩
              obtain ⟨r2, h2a, h2b⟩ := h2'
              have fin : ∀ w z : Int, (w = 23 ∧ z = 15) ∨ (w = 24 ∧ z = 16) → wd T n p w → CN m_X3_parsePart (KD 1 o) T n o p (minR T n (10090 + z) r1 r2) → E1 T n o p := fun w z hz hw hC => by
                refine ⟨_, ?_, hC, R_min hX hp hb hw hz hs (by omega) n1 (fun c hc => by subst hc; exact g1.2.2.2.2) (fun c hc h => (h2a c hc h).2.2) h2b⟩
                cases r1 with
                | inl e => exact g1
                | inr d1 =>
                  obtain ⟨e1, e2, e3, e4, e5⟩ := g1
                  by_cases h44 : sgn T n d1.2 44
                  · have hg2 := tE_gt (T := T) e2 (by rw [h44.1]; decide)
                    have gg := (h2a d1 rfl h44).1
                    cases r2 with
                    | inl e => rw [minR_e h44]; exact gg
                    | inr d2 =>
                      obtain ⟨f1, f2, f3, f4, f5⟩ := gg
                      by_cases h41 : sgn T n d2.2 41
                      · rw [minR_y h44 h41]
                        have hg3 := tE_gt (T := T) f2 (by rw [h41.1]; decide)
                        refine ⟨by show p < tE T n d2.2; omega, hg3.2.1, fun q => absurd (List.append_eq_nil_iff.mp q).2 (by intro t; cases t), ?_, trivial⟩
                        have := Tyc.two (z := 10090 + z) (by omega) e4 f4 (Nat.le_succ _)
                        exact this.up (by omega)
                      · rw [minR_b h44 h41]
                        exact (by decide : (0 : Int) < 1)
                  · rw [minR_n h44]
                    exact (by decide : (0 : Int) < 1)
              rcases hm with q | q
              · exact fin 23 15 (Or.inl ⟨rfl, rfl⟩) q (C_min23 hX hp hb q hs (by omega) c1 (fun c hc h => (h2a c hc h).2.1))
              · exact fin 24 16 (Or.inr ⟨rfl, rfl⟩) q (C_min24 hX hp hb q hs (by omega) c1 (fun c hc h => (h2a c hc h).2.1))
          · refine ⟨.inl (1, pl T n (tE T n p)), (by decide : (0 : Int) < 1), ?_, ?_⟩
            · rcases hm with q | q
              · exact C_min23a hX hp hb q hs
              · exact C_min24a hX hp hb q hs
            · rcases hm with q | q
              · exact R_mina hX hp hb q (Or.inl ⟨rfl, rfl⟩) hs
              · exact R_mina hX hp hb q (Or.inr ⟨rfl, rfl⟩) hs
        · by_cases hv : kR T n p = 1 ∧ isV (10000 + ow T n p)
          · have hg := tE_gt (T := T) hp (by omega)
            exact ⟨.inr ([10000 + ow T n p], tE T n p), ⟨hg.1, hg.2.1, (by intro q; cases q), (Tyc.val hv.2).up (by omega), trivial⟩, C_val hX hp hb hv.1 hv.2, R_val hX hp hb hv.1 hv.2⟩
          · exact ⟨.inl (1, pl T n p), (by decide : (0 : Int) < 1), C_bad hX hp (fun q => h2 q.2) h40 (fun q => hm q.2) (fun q => hv q.2), R_none hp hb h2 h40 hm hv⟩
  · exact ⟨.inl (1, pl T n p), (by decide : (0 : Int) < 1), C_bad hX hp (fun q => hb q.1) (fun q => hb (bd_3 (Or.inl q.1))) (fun q => hb q.1) (fun q => hb q.1), R_bad hb⟩
theorem X2 {T : Nat → Int} {n o p : Nat} (hX : TX T n) (ho : o ≤ 7) (h1 : E1 T n o p) (hI : ∀ p', p < p' → p' ≤ n → E1 T n o p') : E2 T n o p := by
  have e : 2 + 3 * (7 - o) = (1 + 3 * (7 - o)) + 1 := by omega
  unfold E2
  rw [e]
  refine X_head (fs := fun _ => True) (by decide) (by decide) (by decide) (fun _ _ a b => C_prod a b) h1 (fun p' a b c => ?_)
  obtain ⟨r, g1, g2, g3⟩ := X_loop (mds := m_X3_parsePart) (Ks := KD 1 o) (buds := 5) (cxs := 7) (los := 7) (p0 := p) (op := pOp T n) (fs := fun _ => True) (fun q hq hn => C_prodx hq hn) (fun q hq hop => by
    have hk3 : kR T n q = 3 := opT_3 (by unfold pOp at hop; omega)
    have hg := tE_gt (T := T) hq (by rw [hk3]; decide)
    have hr := hop
    unfold pOp at hr
    exact ⟨opT T n q, fun a c ha hc => Tyc.two (by omega) ha hc (Nat.le_refl _), hg.1, hg.2.1, fun r1 r2 c1 c2 => C_prods hX hq hop c1 c2, fun r1 r2 c1 c2 => R_bin (least := 6) hX (by decide) (Or.inl ⟨rfl, hop⟩) c1 c2⟩) hI (n - p') p' (Nat.le_refl _) (by omega) b trivial
  refine ⟨r, ?_, g2, g3⟩
  cases r with
  | inl e => exact g1
  | inr c => exact ⟨g1.1, g1.2.1, g1.2.2.1, g1.2.2.2.2⟩
theorem X3' {T : Nat → Int} {n o p : Nat} (hX : TX T n) (ho : o ≤ 7) (h1 : E2 T n o p) (hI : ∀ p', p < p' → p' ≤ n → E2 T n o p') : E3 T n o p := by
  have e : 3 + 3 * (7 - o) = (2 + 3 * (7 - o)) + 1 := by omega
  unfold E3
  rw [e]
  refine X_head (fs := fP T n) (by decide) (by decide) (by decide) (fun _ _ a b => C_sum a b) h1 (fun p' a b c => ?_)
  exact X_loop (mds := m_X3_parseProduct) (Ks := KD 2 o) (buds := 4) (cxs := 6) (los := 6) (p0 := p) (op := sOp T n) (fs := fP T n) (fun q hq hn => C_sumx hq hn) (fun q hq hop => by
    have hk3 : kR T n q = 3 := opT_3 (by unfold sOp at hop; omega)
    have hg := tE_gt (T := T) hq (by rw [hk3]; decide)
    have hr := hop
    unfold sOp at hr
    exact ⟨opT T n q, fun a c ha hc => Tyc.two (by omega) ha hc (Nat.le_refl _), hg.1, hg.2.1, fun r1 r2 c1 c2 => C_sums hX hq hop c1 c2, fun r1 r2 c1 c2 => R_bin (least := 5) hX (by decide) (Or.inr ⟨rfl, hop⟩) c1 c2⟩) hI (n - p') p' (Nat.le_refl _) (by omega) b c
theorem X4' {T : Nat → Int} {n o p : Nat} (hX : TX T n) (hp : p ≤ n) (ho : o ≤ 7) (h3 : E3 T n o p) (hI3 : ∀ p', p < p' → p' ≤ n → E3 T n o p') (hI : ∀ p', p < p' → p' ≤ n → ∀ o', o' ≤ 7 → E4 T n o' p' ∧ E6 T n o' p') : E4 T n o p := by
  by_cases h21 : bd T n p = -1 ∧ wd T n p 21
  · have hg := tE_gt (T := T) hp (by rw [h21.2.1]; decide)
    by_cases ho7 : o = 7
    · subst ho7
      exact ⟨.inl (5, tS T n p), (by decide : (0 : Int) < 5), C_not7 hX hp h21.1 h21.2, R_not7 hp h21.1 h21.2⟩
    · obtain ⟨r, g1, c1, n1⟩ := (hI (tE T n p) hg.1 hg.2.1 (o + 1) (by omega)).1
      refine ⟨notR r, ?_, C_not hX hp h21.1 h21.2 (by omega) c1, R_not hX hp h21.1 h21.2 (by omega) n1⟩
      cases r with
      | inl e => exact g1
      | inr c =>
        obtain ⟨e1, e2, e3, e4, e5⟩ := g1
        exact ⟨by show p < c.2; omega, e2, fun q => absurd (List.append_eq_nil_iff.mp q).2 (by intro t; cases t), e4.not.up (by omega), trivial⟩
  · by_cases h91 : sgn T n p 91
    · have hg := tE_gt (T := T) hp (by rw [h91.1]; decide)
      by_cases ho7 : o = 7
      · subst ho7
        exact ⟨.inl (5, tS T n p), (by decide : (0 : Int) < 5), C_brk7 hX hp h91, R_brk7 hX hp h91⟩
      · obtain ⟨r, g1, c1, n1⟩ := (hI (tE T n p) hg.1 hg.2.1 (o + 1) (by omega)).2
        exact ⟨_, clo_gd g1 hg.1 (by omega), C_brk hX hp h91 (by omega) c1, R_brk hX hp h91 (by omega) n1 (fun c hc => by subst hc; exact g1.2.2.2.2)⟩
    · by_cases h22 : bd T n p = -1 ∧ wd T n p 22
      · have hg := tE_gt (T := T) hp (by rw [h22.2.1]; decide)
        exact ⟨.inr ([1], tE T n p), ⟨hg.1, hg.2.1, (by intro q; cases q), Tyc.all.up (by omega), trivial⟩, C_all hX hp h22.1 h22.2, R_all hX hp h22.1 h22.2⟩
      · obtain ⟨r1, g1, c1, n1⟩ := h3
        have h2' : ∃ r2, (∀ c, r1 = .inr c → tOp T n c.2 → gdx false (3 + 3 * (7 - o)) n (tE T n c.2) (fS T n) r2 ∧ CN m_X3_parseSum (KD 3 o) T n o (tE T n c.2) r2 ∧ RN false 3 5 5 T n o (tE T n c.2) r2) ∧ (∀ c, r2 = .inr c → fS T n c.2) := by
          cases r1 with
          | inl e => exact ⟨.inl (1, 0), ⟨fun c hc => (by cases hc), fun c hc => (by cases hc)⟩⟩
          | inr c1' =>
            by_cases ht : tOp T n c1'.2
            · have hk3 : kR T n c1'.2 = 3 := opT_3 (by unfold tOp at ht; omega)
              have hg2 := tE_gt (T := T) g1.2.1 (by rw [hk3]; decide)
              have := g1.1
              obtain ⟨r2, g2, c2, n2⟩ := hI3 (tE T n c1'.2) (by omega) hg2.2.1
              exact ⟨r2, fun c hc _ => by cases hc; exact ⟨g2, c2, n2⟩, fun c hc => by subst hc; exact g2.2.2.2.2⟩
            · exact ⟨.inl (1, 0), ⟨fun c hc h => (by cases hc; exact absurd h ht), fun c hc => (by cases hc)⟩⟩
        obtain ⟨r2, h2a, h2b⟩ := h2'
        refine ⟨cmpR T n r1 r2, ?_, C_cmp hX h21 h91 h22 c1 (fun c hc h => (h2a c hc h).2.1), R_cmp hX (fun q => ?_) n1 (fun c hc => by subst hc; exact g1.2.2.2.2) (fun c hc h => (h2a c hc h).2.2) h2b⟩
        · cases r1 with
          | inl e => exact g1
          | inr d1 =>
            obtain ⟨e1, e2, e3, e4, e5⟩ := g1
            by_cases ht : tOp T n d1.2
            · have gg := (h2a d1 rfl ht).1
              have hg2 := tE_rng (T := T) e2
              have hs2 := tS_rng (T := T) e2
              cases r2 with
              | inl e => rw [cmpR_e ht]; exact gg
              | inr d2 =>
                obtain ⟨f1, f2, f3, f4, f5⟩ := gg
                rw [cmpR_y ht]
                refine ⟨by show p < d2.2; omega, f2, fun q => absurd (List.append_eq_nil_iff.mp q).2 (by intro t; cases t), ?_, trivial⟩
                have hr := ht
                unfold tOp at hr
                exact (Tyc.cmp hr e4 f4 (Nat.le_succ _)).up (by omega)
            · rw [cmpR_n ht]
              exact (by decide : (0 : Int) < 1)
        · rcases q.2 with t | t | t
          · exact h21 ⟨q.1, t⟩
          · exact h91 t
          · exact h22 ⟨q.1, t⟩
theorem X5' {T : Nat → Int} {n o p : Nat} (hX : TX T n) (ho : o ≤ 7) (h1 : E4 T n o p) (hI : ∀ p', p < p' → p' ≤ n → E4 T n o p') : E5 T n o p := by
  have e : 5 + 3 * (7 - o) = (4 + 3 * (7 - o)) + 1 := by omega
  unfold E5
  rw [e]
  refine X_head (fs := fun _ => True) (by decide) (by decide) (by decide) (fun _ _ a b => C_both a b) h1 (fun p' a b c => ?_)
  obtain ⟨r, g1, g2, g3⟩ := X_loop (mds := m_X3_parseFact) (Ks := KD 4 o) (buds := 2) (cxs := 4) (los := 3) (p0 := p) (op := fun q => bd T n q = -1 ∧ wd T n q 20) (fs := fun _ => True) (fun q hq hn => C_bothx hq hn) (fun q hq hop => by
    have hg := tE_gt (T := T) hq (by rw [hop.2.1]; decide)
    exact ⟨10110, fun a c ha hc => Tyc.and (by decide) ha hc (Nat.le_refl _), hg.1, hg.2.1, fun r1 r2 c1 c2 => C_boths hX hq hop c1 c2, fun r1 r2 c1 c2 => R_ao (x := 20) (least := 2) hX (by decide) hop.1 (Or.inl ⟨rfl, rfl, hop.2⟩) (by decide) (by decide) c1 c2⟩) hI (n - p') p' (Nat.le_refl _) (by omega) b trivial
  refine ⟨r, ?_, g2, g3⟩
  cases r with
  | inl e => exact g1
  | inr c => exact ⟨g1.1, g1.2.1, g1.2.2.1, g1.2.2.2.2⟩
theorem X6' {T : Nat → Int} {n o p : Nat} (hX : TX T n) (ho : o ≤ 7) (h1 : E5 T n o p) (hI : ∀ p', p < p' → p' ≤ n → E5 T n o p') : E6 T n o p := by
  have e : 6 + 3 * (7 - o) = (5 + 3 * (7 - o)) + 1 := by omega
  unfold E6
  rw [e]
  refine X_head (fs := fA T n) (by decide) (by decide) (by decide) (fun _ _ a b => C_test a b) h1 (fun p' a b c => ?_)
  exact X_loop (mds := m_X3_parseBoth) (Ks := KD 5 o) (buds := 1) (cxs := 2) (los := 2) (p0 := p) (op := fun q => bd T n q = -1 ∧ wd T n q 19) (fs := fA T n) (fun q hq hn => C_testx hq hn) (fun q hq hop => by
    have hg := tE_gt (T := T) hq (by rw [hop.2.1]; decide)
    exact ⟨10111, fun a c ha hc => Tyc.and (by decide) ha hc (Nat.le_refl _), hg.1, hg.2.1, fun r1 r2 c1 c2 => C_tests hX hq hop c1 c2, fun r1 r2 c1 c2 => R_ao (x := 21) (least := 1) hX (by decide) hop.1 (Or.inr ⟨rfl, rfl, hop.2⟩) (by decide) (by decide) c1 c2⟩) hI (n - p') p' (Nat.le_refl _) (by omega) b c
/-- at every place, with so many open ones, both come to one result -/
theorem X_all {T : Nat → Int} {n : Nat} (hX : TX T n) : ∀ d p, n - p ≤ d → p ≤ n → ∀ o, o ≤ 7 → E1 T n o p ∧ E2 T n o p ∧ E3 T n o p ∧ E4 T n o p ∧ E5 T n o p ∧ E6 T n o p := by
  intro d
  induction d with
  | zero =>
    intro p hd hp o ho
    have no : ∀ p', p < p' → p' ≤ n → False := fun p' a b => by omega
    have x1 := X1 hX hp ho (fun p' a b => (no p' a b).elim)
    have x2 := X2 hX ho x1 (fun p' a b => (no p' a b).elim)
    have x3 := X3' hX ho x2 (fun p' a b => (no p' a b).elim)
    have x4 := X4' hX hp ho x3 (fun p' a b => (no p' a b).elim) (fun p' a b => (no p' a b).elim)
    have x5 := X5' hX ho x4 (fun p' a b => (no p' a b).elim)
    exact ⟨x1, x2, x3, x4, x5, X6' hX ho x5 (fun p' a b => (no p' a b).elim)⟩
  | succ d ih =>
    intro p hd hp o ho
    have x1 := X1 hX hp ho (fun p' a b o' ho' => (ih p' (by omega) b o' ho').2.2.1)
    have x2 := X2 hX ho x1 (fun p' a b => (ih p' (by omega) b o ho).1)
    have x3 := X3' hX ho x2 (fun p' a b => (ih p' (by omega) b o ho).2.1)
    have x4 := X4' hX hp ho x3 (fun p' a b => (ih p' (by omega) b o ho).2.2.1) (fun p' a b o' ho' => ⟨(ih p' (by omega) b o' ho').2.2.2.1, (ih p' (by omega) b o' ho').2.2.2.2.2⟩)
    have x5 := X5' hX ho x4 (fun p' a b => (ih p' (by omega) b o ho).2.2.2.1)
    exact ⟨x1, x2, x3, x4, x5, X6' hX ho x5 (fun p' a b => (ih p' (by omega) b o ho).2.2.2.2.1)⟩
theorem X_sum {T : Nat → Int} {n p : Nat} (hX : TX T n) (hp : p ≤ n) : E3 T n 0 p := (X_all hX (n - p) p (Nat.le_refl _) hp 0 (by decide)).2.2.1
theorem X_test {T : Nat → Int} {n p : Nat} (hX : TX T n) (hp : p ≤ n) : E6 T n 0 p := (X_all hX (n - p) p (Nat.le_refl _) hp 0 (by decide)).2.2.2.2.2
end BOTHX

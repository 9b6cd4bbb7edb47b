section LEXA
abbrev FLr : List (Nat × Nat) := [(74, 3), (74, 4), (74, 5), (74, 6), (74, 12)]
def TR (I : Nat → Nat → Int32) (T : Nat → Int) (n : Nat) : Prop := gi I 74 2 = n ∧ ∀ i, i < n → gi I 75 i = T i
theorem TR.fr {cs : List Nat} {fs : List (Nat × Nat)} {I I' : Nat → Nat → Int32} {T : Nat → Int} {n : Nat} (h : TR I T n) (hF : Fr cs fs I I') (h1 : 74 ∉ cs ∧ 75 ∉ cs) (h2 : (74, 2) ∉ fs ∧ ∀ q ∈ fs, q.1 ≠ 75) : TR I' T n := ⟨by rw [hF.gv 74 2 h1.1 h2.1]; exact h.1, fun i hi => by rw [hF.gvc i h1.2 h2.2]; exact h.2 i hi⟩
def RT (I : Nat → Nat → Int32) (J : Nat → Nat → Int64) (T : Nat → Int) (n p : Nat) : Prop := TR I T n ∧ gi I 74 3 = kR T n p ∧ gi I 74 4 = tS T n p ∧ gi I 74 5 = tE T n p ∧ gi I 74 12 = bd T n p ∧ (kR T n p = 2 ∨ kR T n p = 3 → gi I 74 6 = vl T n p) ∧ (kR T n p = 1 → gl J 74 7 = ((pkN (ltR T (tS T n p) (min 8 (tE T n p - tS T n p))) : Nat) : Int))
theorem RT.fr {cs : List Nat} {fs : List (Nat × Nat)} {I I' : Nat → Nat → Int32} {J J' : Nat → Nat → Int64} {T : Nat → Int} {n p : Nat} (h : RT I J T n p) (hF : Fr cs fs I I') (h1 : 74 ∉ cs ∧ 75 ∉ cs) (h2 : ((74, 2) ∉ fs ∧ ∀ q ∈ fs, q.1 ≠ 75) ∧ (74, 3) ∉ fs ∧ (74, 4) ∉ fs ∧ (74, 5) ∉ fs ∧ (74, 12) ∉ fs ∧ (74, 6) ∉ fs) (hJ : gl J' 74 7 = gl J 74 7) : RT I' J' T n p := by
  refine ⟨h.1.fr hF h1 h2.1, ?_⟩
  rw [hF.gv 74 3 h1.1 h2.2.1, hF.gv 74 4 h1.1 h2.2.2.1, hF.gv 74 5 h1.1 h2.2.2.2.1, hF.gv 74 12 h1.1 h2.2.2.2.2.1, hF.gv 74 6 h1.1 h2.2.2.2.2.2, hJ]
  exact h.2
/-- the place of a fault, as the reference comes to it letter by letter -/
def lxA (s m : Nat) (g : Int) (j : Nat) : Int := if g = -1 then (if m < j then ((s + m : Nat) : Int) else -1) else g
theorem bd_w {T : Nat → Int} {n p : Nat} {g : Int} (hp : p ≤ n) (h1 : kR T n p = 1) (hg : (glu T n p ∧ g = ((tS T n p : Nat) : Int)) ∨ (¬ glu T n p ∧ g = -1)) : (lxA (tS T n p) 6 g (tE T n p - tS T n p) = ((tS T n p : Nat) : Int) + 6 → tE T n p - tS T n p ≤ 8 → bd T n p = if owI (lR T n p) = -1 then ((tS T n p : Nat) : Int) + 6 else -1) ∧ (¬ (lxA (tS T n p) 6 g (tE T n p - tS T n p) = ((tS T n p : Nat) : Int) + 6 ∧ tE T n p - tS T n p ≤ 8) → bd T n p = lxA (tS T n p) 6 g (tE T n p - tS T n p)) := by
  have eow : ow T n p = owI (lR T n p) := by unfold ow; rw [if_pos h1]
  have hol := ow_len (T := T) (n := n) (p := p)
  rw [← eow]
  rcases hg with ⟨hgl, hg⟩ | ⟨hgl, hg⟩
  · have eg : ¬ g = -1 := by omega
    have e : lxA (tS T n p) 6 g (tE T n p - tS T n p) = g := by unfold lxA; rw [if_neg eg]
    rw [e, bd_g hgl]
    exact ⟨fun q => by omega, fun _ => hg.symm⟩
  · have hb := bd_n hgl
    have e : lxA (tS T n p) 6 g (tE T n p - tS T n p) = if 6 < tE T n p - tS T n p then ((tS T n p + 6 : Nat) : Int) else -1 := by unfold lxA; rw [if_pos hg]
    rw [e]
    by_cases cl : 6 < tE T n p - tS T n p
    · rw [if_pos cl]
      by_cases co : ow T n p = -1
      · rw [if_pos ⟨h1, co, cl⟩] at hb
        rw [hb, if_pos co]
        exact ⟨fun _ _ => by omega, fun _ => rfl⟩
      · have := (hol co).2
        rw [if_neg (fun q => co q.2.1), if_neg (fun q => by omega)] at hb
        rw [hb, if_neg co]
        exact ⟨fun _ _ => rfl, fun q => absurd ⟨by omega, by omega⟩ q⟩
    · rw [if_neg (fun q => cl q.2.2), if_neg (fun q => by omega)] at hb
      rw [hb, if_neg cl]
      exact ⟨fun q => by omega, fun _ => rfl⟩
theorem bd_d {T : Nat → Int} {n p : Nat} {g : Int} (hp : p ≤ n) (h1 : kR T n p = 2) (hg : (glu T n p ∧ g = ((tS T n p : Nat) : Int)) ∨ (¬ glu T n p ∧ g = -1)) : bd T n p = lxA (tS T n p) 4 g (tE T n p - tS T n p) := by
  unfold lxA
  rcases hg with ⟨hgl, hg⟩ | ⟨hgl, hg⟩
  · have eg : ¬ g = -1 := by omega
    rw [if_neg eg, bd_g hgl]
    exact hg.symm
  · have hb := bd_n hgl
    rw [if_neg (fun q => by omega)] at hb
    rw [if_pos hg, hb]
    by_cases cl : 4 < tE T n p - tS T n p
    · rw [if_pos ⟨h1, cl⟩, if_pos cl]
    · rw [if_neg (fun q => cl q.2), if_neg cl]
theorem lxA_up {s m : Nat} {g : Int} {j : Nat} (hg : g = s ∨ g = -1) : lxA s m g (j + 1) = if j = m ∧ lxA s m g j = -1 then ((s + j : Nat) : Int) else lxA s m g j := by
  unfold lxA
  by_cases e : g = -1
  · rw [if_pos e, if_pos e]
    by_cases c : j = m
    · subst c
      rw [if_pos (show j < j + 1 by omega), if_neg (show ¬ j < j by omega), if_pos ⟨rfl, rfl⟩]
    · rw [if_neg (show ¬ (j = m ∧ (if m < j then ((s + m : Nat) : Int) else -1) = -1) from fun q => c q.1)]
      by_cases c2 : m < j
      · rw [if_pos c2, if_pos (show m < j + 1 by omega)]
      · rw [if_neg c2, if_neg (show ¬ m < j + 1 by omega)]
  · rw [if_neg e, if_neg e, if_neg (fun q => e q.2)]
theorem lxA_in {s m : Nat} {g : Int} {j : Nat} (hg : g = s ∨ g = -1) : lxA s m g j = -1 ∨ (s : Int) ≤ lxA s m g j ∧ lxA s m g j ≤ s + m := by
  unfold lxA
  by_cases e : g = -1
  · rw [if_pos e]
    split <;> omega
  · rw [if_neg e]
    omega
set_option maxRecDepth 20000 in
set_option maxHeartbeats 8000000 in
theorem ah_let {k : Nat} {P : Option Nat} {I : Nat → Nat → Int32} {J : Nat → Nat → Int64} {Q : Option AV → Mem → Prop} {T : Nat → Int} {n p : Nat} (hk : 6 ≤ k) (hX : TX T n) (hp : p ≤ n) (h : ∀ I' J', RT I' J' T n p → Fr [] FLr I I' → Fr [] [(74, 7)] J J' → Q none (mem (P, some 5, some 22) I' J')) : ∀ (g : Int), kR T n p = 1 → ((glu T n p ∧ g = ((tS T n p : Nat) : Int)) ∨ (¬ glu T n p ∧ g = -1)) → ∀ (d j : Nat) (x1 x5 : Int) (I1 : Nat → Nat → Int32) (J1 : Nat → Nat → Int64), j + d = tE T n p - tS T n p → x1 = ((tS T n p + j : Nat) : Int) → x5 = j → Fr [] FLr I I1 → Fr [] [(74, 7)] J J1 → TR I1 T n → gi I1 74 3 = 1 → gi I1 74 4 = tS T n p → gi I1 74 12 = lxA (tS T n p) 6 g j → gl J1 74 7 = ((pkN (ltR T (tS T n p) (min 8 j)) : Nat) : Int) → WP k LAY m_X12_ahead 204 [(0, vR (some 74)), (1, vI x1), (2, vI 1), (3, vI 0), (4, vI 6), (5, vI x5)] [] (mem (P, some 5, some 22) I1 J1) Q := by
  have hn := hX.1
  have hr := tE_rng (T := T) hp
  have hsr := tS_rng (T := T) hp
  have iS : inR ((tS T n p : Nat) : Int) := by unfold inR; omega
  have iE : inR ((tE T n p : Nat) : Int) := by unfold inR; omega
  intro g ek hg d
  have hg2 : g = ((tS T n p : Nat) : Int) ∨ g = -1 := hg.elim (fun q => Or.inl q.2) (fun q => Or.inr q.2)
  have hlt : tS T n p < n := by
    have := (not_congr (kR_0 (T := T) (n := n) (p := p))).mp (by rw [ek]; decide)
    omega
  have erun : tE T n p = runS zL T n (tS T n p) := by
    have ek' := ek
    unfold kR at ek'
    unfold tE
    rcases rK_cases T n (tS T n p) with ⟨a, e, e2⟩ | ⟨a, b, e, e2⟩ | ⟨a, -, b, e, e2⟩ | ⟨a, b, c, e, e2⟩
    · omega
    · exact e2
    · omega
    · omega
  have hall : ∀ i, tS T n p ≤ i → i < tE T n p → 97 ≤ T i ∧ T i ≤ 122 := fun i a b => zL_t.mp (runS_all (p := tS T n p) (n := n) a (by rw [← erun]; exact b))
  have hmem : ∀ j, j ≤ tE T n p - tS T n p → ∀ c ∈ ltR T (tS T n p) j, 97 ≤ c ∧ c ≤ 122 := fun j hj c hc => by
    obtain ⟨i, hi, e⟩ := ltR_mem hc
    have := hall (tS T n p + i) (by omega) (by omega)
    omega
  induction d with
  | zero =>
    intro j x1 x5 I1 J1 hj hx1 hx5 hF hFJ hT1 h13 h14 h112 h17
    have ej : j = tE T n p - tS T n p := by omega
    subst hx1 hx5
    rw [show tS T n p + j = tE T n p by omega]
    have hbw := bd_w hp ek hg
    rw [← ej] at hbw
    have fin : WP k LAY m_X12_ahead 334 [(0, vR (some 74)), (1, vI ((tE T n p : Nat) : Int)), (2, vI 1), (4, vI 6), (5, vI (j : Int))] [] (mem (P, some 5, some 22) I1 J1) Q := by
      have hF2 : Fr [] FLr I1 (si I1 74 5 ((tE T n p : Nat) : Int)) := (Fr.rf _ _ _).up 74 5 _ (Or.inr (by decide))
      have hvl : kR T n p = 2 ∨ kR T n p = 3 → gi (si I1 74 5 ((tE T n p : Nat) : Int)) 74 6 = vl T n p := fun q => absurd q (by omega)
      have out : bd T n p = lxA (tS T n p) 6 g j → Q none (mem (P, some 5, some 22) (si I1 74 5 ((tE T n p : Nat) : Int)) J1) := fun eb => by
        refine h _ _ ⟨hT1.fr hF2 (by decide) (by decide), ?_, ?_, ?_, ?_, hvl, fun _ => ?_⟩ (hF.tr hF2) hFJ
        · rw [gi_idx _ _ _ (by decide), h13, ek]
          rfl
        · rw [gi_idx _ _ _ (by decide), h14]
        · rw [gi_si _ _ _ _ _ iE, if_pos ⟨rfl, rfl⟩]
        · rw [gi_idx _ _ _ (by decide), h112, eb]
        · rw [h17, ej]
      refine B_X12_ahead_334 (by omega) ⟨by decide, fun c => absurd c (by decide), fun _ => ⟨by unfold inR; omega, fun c => ?_, fun c => ?_⟩⟩
      · exact out (hbw.2 (fun q => by omega))
      · rw [h14, h112]
        refine ⟨by unfold inR; omega, fun c2 => out (hbw.2 (fun q => c2 q.1)), fun c2 => ?_⟩
        have hb1 := hbw.1 c2 (by omega)
        have e8 : min 8 j = j := by omega
        rw [e8] at h17
        rw [h17]
        have elr : ltR T (tS T n p) j = lR T n p := by rw [ej]; rfl
        refine S_X12_isOwn (hmem j (by omega)) (by rw [← h17]; exact gl_in _ _ _) (fun z hz => ⟨z, _, _, rfl, rfl, ?_⟩)
        rw [elr] at hz
        dsimp only
        by_cases co : owI (lR T n p) = -1
        · rw [if_pos co] at hz hb1
          subst hz
          refine ⟨by decide, fun _ => out (by rw [hb1, c2]), fun q => absurd rfl q⟩
        · rw [if_neg co] at hz hb1
          subst hz
          refine ⟨by decide, fun q => absurd q (by decide), fun _ => ?_⟩
          have hF3 : Fr [] FLr I1 (si (si I1 74 5 ((tE T n p : Nat) : Int)) 74 12 (-1)) := hF2.up 74 12 _ (Or.inr (by decide))
          refine h _ _ ⟨hT1.fr hF3 (by decide) (by decide), ?_, ?_, ?_, ?_, fun q => absurd q (by omega), fun _ => ?_⟩ (hF.tr hF3) hFJ
          · rw [gi_idx _ _ _ (by decide), gi_idx _ _ _ (by decide), h13, ek]
            rfl
          · rw [gi_idx _ _ _ (by decide), gi_idx _ _ _ (by decide), h14]
          · rw [gi_idx _ _ _ (by decide), gi_si _ _ _ _ _ iE, if_pos ⟨rfl, rfl⟩]
          · rw [gi_si _ _ _ _ _ (by decide), if_pos ⟨rfl, rfl⟩, hb1]
          · rw [h17, ← ej, e8]
    refine B_X12_ahead_204 (by omega) ⟨iE, ?_⟩
    rw [hT1.1]
    refine ⟨fun _ => fin, fun c => ⟨by decide, fun q => absurd q (by decide), fun _ => ?_⟩⟩
    have hlt2 : tE T n p < n := by omega
    have hend := runS_end (g := zL) (T := T) (n := n) (p := tS T n p) (by rw [← erun]; exact hlt2)
    rw [← erun] at hend
    rw [Int.toNat_natCast, hT1.2 _ hlt2]
    refine ⟨by omega, fun _ => fin, fun q => ?_⟩
    rw [zL_t.mpr q] at hend
    exact absurd hend (by decide)
  | succ d ih =>
    intro j x1 x5 I1 J1 hj hx1 hx5 hF hFJ hT1 h13 h14 h112 h17
    subst hx1 hx5
    have hc := hall (tS T n p + j) (by omega) (by omega)
    have hup := lxA_up (m := 6) (j := j) hg2
    have hin := lxA_in (m := 6) (j := j) hg2
    -- the next turn
    have nxt : ∀ (I2 : Nat → Nat → Int32) (J2 : Nat → Nat → Int64), (I2 = I1 ∨ I2 = si I1 74 12 ((tS T n p + j : Nat) : Int)) → gi I2 74 12 = lxA (tS T n p) 6 g (j + 1) → Fr [] [(74, 7)] J1 J2 → gl J2 74 7 = ((pkN (ltR T (tS T n p) (min 8 (j + 1))) : Nat) : Int) → WP k LAY m_X12_ahead 204 [(0, vR (some 74)), (1, vI (((tS T n p + j : Nat) : Int) + 1)), (2, vI 1), (3, vI 0), (4, vI 6), (5, vI ((j : Int) + 1))] [] (mem (P, some 5, some 22) I2 J2) Q := by
      intro I2 J2 hI2 h212 hFJ2 h27
      have hF2 : Fr [] FLr I1 I2 := by
        rcases hI2 with e | e <;> rw [e]
        · exact Fr.rf _ _ _
        · exact (Fr.rf _ _ _).up 74 12 _ (Or.inr (by decide))
      have e3 : gi I2 74 3 = 1 ∧ gi I2 74 4 = tS T n p := by
        rcases hI2 with e | e <;> rw [e]
        · exact ⟨h13, h14⟩
        · rw [gi_idx _ _ _ (by decide), gi_idx _ _ _ (by decide)]
          exact ⟨h13, h14⟩
      exact ih (j + 1) _ _ I2 J2 (by omega) (by omega) (by omega) (hF.tr hF2) (hFJ.tr hFJ2) (hT1.fr hF2 (by decide) (by decide)) e3.1 e3.2 h212 h27
    refine B_X12_ahead_204 (by omega) ⟨by unfold inR; omega, ?_⟩
    rw [hT1.1, Int.toNat_natCast, hT1.2 _ (show tS T n p + j < n by omega)]
    refine ⟨fun q => absurd q (by omega), fun _ => ⟨by decide, fun q => absurd q (by decide), fun _ => ⟨by omega, fun q => absurd hc q, fun _ => ⟨by unfold inR; omega, by decide, ?_⟩⟩⟩⟩
    -- whether the word takes the letter
    have b2 : ∀ I2 : Nat → Nat → Int32, (I2 = I1 ∨ I2 = si I1 74 12 ((tS T n p + j : Nat) : Int)) → gi I2 74 12 = lxA (tS T n p) 6 g (j + 1) → (8 ≤ (j : Int) → WP k LAY m_X12_ahead 204 [(0, vR (some 74)), (1, vI (((tS T n p + j : Nat) : Int) + 1)), (2, vI 1), (3, vI 0), (4, vI 6), (5, vI ((j : Int) + 1))] [] (mem (P, some 5, some 22) I2 J1) Q) ∧ (¬ 8 ≤ (j : Int) → WP k LAY m_X12_ahead 204 [(0, vR (some 74)), (1, vI (((tS T n p + j : Nat) : Int) + 1)), (2, vI 1), (3, vI 0), (4, vI 6), (5, vI ((j : Int) + 1))] [] (mem (P, some 5, some 22) I2 (sl J1 74 7 (or64 (shl64 (gl J1 74 7) 8) (T (tS T n p + j))))) Q) := by
      intro I2 hI2 h212
      refine ⟨fun c => nxt I2 J1 hI2 h212 (Fr.rf _ _ _) ?_, fun c => nxt I2 _ hI2 h212 ((Fr.rf _ _ _).upL 74 7 _ (Or.inr (by decide))) ?_⟩
      · rw [h17, show min 8 (j + 1) = min 8 j by omega]
      · rw [gl_same _ _ _ (or64_in _ _), h17, show min 8 (j + 1) = j + 1 by omega, show min 8 j = j by omega, ltR]
        have hlt := pkN_lt (ltR T (tS T n p) j) (fun c hc => by have := hmem j (by omega) c hc; omega)
        rw [ltR_len] at hlt
        have h127 : pkN (ltR T (tS T n p) j) * 256 + (T (tS T n p + j)).toNat < 9223372036854775808 := by
          by_cases c7 : j = 7
          · subst c7
            have e1 : ltR T (tS T n p) 7 = (T (tS T n p + 6)).toNat :: ltR T (tS T n p) 6 := rfl
            have hmx : ∀ m, m ≤ 7 → pkN (ltR T (tS T n p) m) * 2 < 256 ^ m ∨ m = 0 := by
              intro m
              induction m with
              | zero => exact fun _ => Or.inr rfl
              | succ m ihm =>
                intro hm
                refine Or.inl ?_
                have hcm := hall (tS T n p + m) (by omega) (by omega)
                rw [ltR, Nat.pow_succ]
                show (pkN (ltR T (tS T n p) m) * 256 + (T (tS T n p + m)).toNat) * 2 < 256 ^ m * 256
                rcases ihm (by omega) with q | q
                · omega
                · subst q
                  show (0 * 256 + (T (tS T n p + 0)).toNat) * 2 < 256 ^ 0 * 256
                  rw [Nat.pow_zero]
                  omega
            have h7 := hmx 7 (by omega)
            have e7 : (256 : Nat) ^ 7 = 72057594037927936 := by decide
            rw [e7] at h7
            omega
          · have hpm : (256 : Nat) ^ j ≤ 256 ^ 6 := Nat.pow_le_pow_right (by decide) (by omega)
            have e6 : (256 : Nat) ^ 6 = 281474976710656 := by decide
            rw [e6] at hpm
            omega
        have eT : T (tS T n p + j) = (((T (tS T n p + j)).toNat : Nat) : Int) := by omega
        have e := pk_add h127 (show (T (tS T n p + j)).toNat < 256 by omega)
        rw [← eT] at e
        rw [e]
        rfl
    refine ⟨fun c => ?_, fun c => ⟨fun c2 => ?_, fun c2 => ?_⟩⟩
    · have hh := b2 I1 (Or.inl rfl) (by rw [h112, hup, if_neg (fun q => by omega)])
      exact ⟨fun c8 => ⟨fun _ => hh.1 c8, fun _ => ⟨by decide, fun _ => hh.1 c8, fun q => absurd rfl q⟩⟩, fun c8 => ⟨fun q => absurd q (by decide), fun _ => ⟨fun _ => hh.2 c8, fun _ => ⟨by decide, fun _ => hh.2 c8, fun q => absurd rfl q⟩⟩⟩⟩
    · rw [h112] at c2
      have hh := b2 I1 (Or.inl rfl) (by rw [h112, hup, if_neg (fun q => c2 q.2)])
      exact ⟨fun c8 => ⟨fun _ => hh.1 c8, fun _ => ⟨by decide, fun _ => hh.1 c8, fun q => absurd rfl q⟩⟩, fun c8 => ⟨fun q => absurd q (by decide), fun _ => ⟨fun _ => hh.2 c8, fun _ => ⟨by decide, fun _ => hh.2 c8, fun q => absurd rfl q⟩⟩⟩⟩
    · rw [h112] at c2
      have hh := b2 (si I1 74 12 ((tS T n p + j : Nat) : Int)) (Or.inr rfl) (by rw [gi_si _ _ _ _ _ (by unfold inR; omega), if_pos ⟨rfl, rfl⟩, hup, if_pos ⟨by omega, c2⟩])
      exact ⟨fun c8 => ⟨fun _ => hh.1 c8, fun _ => ⟨by decide, fun _ => hh.1 c8, fun q => absurd rfl q⟩⟩, fun c8 => ⟨fun q => absurd q (by decide), fun _ => ⟨fun _ => hh.2 c8, fun _ => ⟨by decide, fun _ => hh.2 c8, fun q => absurd rfl q⟩⟩⟩⟩
set_option maxRecDepth 20000 in
set_option maxHeartbeats 8000000 in
theorem ah_dig {k : Nat} {P : Option Nat} {I : Nat → Nat → Int32} {J : Nat → Nat → Int64} {Q : Option AV → Mem → Prop} {T : Nat → Int} {n p : Nat} (hk : 6 ≤ k) (hX : TX T n) (hp : p ≤ n) (h : ∀ I' J', RT I' J' T n p → Fr [] FLr I I' → Fr [] [(74, 7)] J J' → Q none (mem (P, some 5, some 22) I' J')) : ∀ (g : Int), kR T n p = 2 → ((glu T n p ∧ g = ((tS T n p : Nat) : Int)) ∨ (¬ glu T n p ∧ g = -1)) → ∀ (d j : Nat) (x1 x5 : Int) (I1 : Nat → Nat → Int32) (J1 : Nat → Nat → Int64), j + d = tE T n p - tS T n p → x1 = ((tS T n p + j : Nat) : Int) → x5 = j → Fr [] FLr I I1 → Fr [] [(74, 7)] J J1 → TR I1 T n → gi I1 74 3 = 2 → gi I1 74 4 = tS T n p → gi I1 74 12 = lxA (tS T n p) 4 g j → gi I1 74 6 = nvF T (tS T n p) (min 4 j) → WP k LAY m_X12_ahead 204 [(0, vR (some 74)), (1, vI x1), (2, vI 0), (3, vI 1), (4, vI 4), (5, vI x5)] [] (mem (P, some 5, some 22) I1 J1) Q := by
  have hn := hX.1
  have hr := tE_rng (T := T) hp
  have hsr := tS_rng (T := T) hp
  have iS : inR ((tS T n p : Nat) : Int) := by unfold inR; omega
  have iE : inR ((tE T n p : Nat) : Int) := by unfold inR; omega
  intro g ek hg d
  have hg2 : g = ((tS T n p : Nat) : Int) ∨ g = -1 := hg.elim (fun q => Or.inl q.2) (fun q => Or.inr q.2)
  have hlt : tS T n p < n := by
    have := (not_congr (kR_0 (T := T) (n := n) (p := p))).mp (by rw [ek]; decide)
    omega
  have erun : tE T n p = runS zD T n (tS T n p) := by
    have ek' := ek
    unfold kR at ek'
    unfold tE
    rcases rK_cases T n (tS T n p) with ⟨a, e, e2⟩ | ⟨a, b, e, e2⟩ | ⟨a, -, b, e, e2⟩ | ⟨a, b, c, e, e2⟩
    · omega
    · omega
    · exact e2
    · omega
  have hall : ∀ i, tS T n p ≤ i → i < tE T n p → 48 ≤ T i ∧ T i ≤ 57 := fun i a b => zD_t.mp (runS_all (p := tS T n p) (n := n) a (by rw [← erun]; exact b))
  have hnv : ∀ m, m ≤ 4 → m ≤ tE T n p - tS T n p → 0 ≤ nvF T (tS T n p) m ∧ nvF T (tS T n p) m < 10 ^ m := fun m h4 hm => nvF_bd m h4 (fun j hj => zD_t.mpr (hall _ (by omega) (by omega)))
  induction d with
  | zero =>
    intro j x1 x5 I1 J1 hj hx1 hx5 hF hFJ hT1 h13 h14 h112 h16
    have ej : j = tE T n p - tS T n p := by omega
    subst hx1 hx5
    rw [show tS T n p + j = tE T n p by omega]
    have hbd := bd_d hp ek hg
    rw [← ej] at hbd
    have fin : WP k LAY m_X12_ahead 334 [(0, vR (some 74)), (1, vI ((tE T n p : Nat) : Int)), (2, vI 0), (4, vI 4), (5, vI (j : Int))] [] (mem (P, some 5, some 22) I1 J1) Q := by
      have hF2 : Fr [] FLr I1 (si I1 74 5 ((tE T n p : Nat) : Int)) := (Fr.rf _ _ _).up 74 5 _ (Or.inr (by decide))
      refine B_X12_ahead_334 (by omega) ⟨by decide, fun _ => ?_, fun q => absurd rfl q⟩
      refine h _ _ ⟨hT1.fr hF2 (by decide) (by decide), ?_, ?_, ?_, ?_, fun _ => ?_, fun q => absurd q (by omega)⟩ (hF.tr hF2) hFJ
      · rw [gi_idx _ _ _ (by decide), h13, ek]
        rfl
      · rw [gi_idx _ _ _ (by decide), h14]
      · rw [gi_si _ _ _ _ _ iE, if_pos ⟨rfl, rfl⟩]
      · rw [gi_idx _ _ _ (by decide), h112, hbd]
      · rw [gi_idx _ _ _ (by decide), h16]
        unfold vl
        rw [ek, if_neg (by decide), if_neg (by decide), if_pos rfl, ← ej]
    refine B_X12_ahead_204 (by omega) ⟨iE, ?_⟩
    rw [hT1.1]
    refine ⟨fun _ => fin, fun c => ⟨by decide, fun _ => ?_, fun q => absurd rfl q⟩⟩
    have hlt2 : tE T n p < n := by omega
    have hend := runS_end (g := zD) (T := T) (n := n) (p := tS T n p) (by rw [← erun]; exact hlt2)
    rw [← erun] at hend
    rw [Int.toNat_natCast, hT1.2 _ hlt2]
    refine ⟨by omega, fun _ => fin, fun q => ?_⟩
    rw [zD_t.mpr q] at hend
    exact absurd hend (by decide)
  | succ d ih =>
    intro j x1 x5 I1 J1 hj hx1 hx5 hF hFJ hT1 h13 h14 h112 h16
    subst hx1 hx5
    have hc := hall (tS T n p + j) (by omega) (by omega)
    have hup := lxA_up (m := 4) (j := j) hg2
    have hin := lxA_in (m := 4) (j := j) hg2
    -- the next turn
    have b2 : ∀ I2 : Nat → Nat → Int32, (I2 = I1 ∨ I2 = si I1 74 12 ((tS T n p + j : Nat) : Int)) → gi I2 74 12 = lxA (tS T n p) 4 g (j + 1) → (4 ≤ (j : Int) → WP k LAY m_X12_ahead 204 [(0, vR (some 74)), (1, vI (((tS T n p + j : Nat) : Int) + 1)), (2, vI 0), (3, vI 1), (4, vI 4), (5, vI ((j : Int) + 1))] [] (mem (P, some 5, some 22) I2 J1) Q) ∧ (¬ 4 ≤ (j : Int) → WP k LAY m_X12_ahead 204 [(0, vR (some 74)), (1, vI (((tS T n p + j : Nat) : Int) + 1)), (2, vI 0), (3, vI 1), (4, vI 4), (5, vI ((j : Int) + 1))] [] (mem (P, some 5, some 22) (si I2 74 6 (((10 * gi I1 74 6) + T (tS T n p + j)) - 48)) J1) Q) := by
      intro I2 hI2 h212
      have hF2 : Fr [] FLr I1 I2 := by
        rcases hI2 with e | e <;> rw [e]
        · exact Fr.rf _ _ _
        · exact (Fr.rf _ _ _).up 74 12 _ (Or.inr (by decide))
      have e3 : gi I2 74 3 = 2 ∧ gi I2 74 4 = tS T n p ∧ gi I2 74 6 = gi I1 74 6 := by
        rcases hI2 with e | e <;> rw [e]
        · exact ⟨h13, h14, rfl⟩
        · rw [gi_idx _ _ _ (by decide), gi_idx _ _ _ (by decide), gi_idx _ _ _ (by decide)]
          exact ⟨h13, h14, rfl⟩
      refine ⟨fun c => ?_, fun c => ?_⟩
      · refine ih (j + 1) _ _ I2 J1 (by omega) (by omega) (by omega) (hF.tr hF2) hFJ (hT1.fr hF2 (by decide) (by decide)) e3.1 e3.2.1 h212 ?_
        rw [e3.2.2, h16, show min 4 (j + 1) = min 4 j by omega]
      · have hF3 : Fr [] FLr I1 (si I2 74 6 (((10 * gi I1 74 6) + T (tS T n p + j)) - 48)) := hF2.up 74 6 _ (Or.inr (by decide))
        refine ih (j + 1) _ _ _ J1 (by omega) (by omega) (by omega) (hF.tr hF3) hFJ (hT1.fr hF3 (by decide) (by decide)) ?_ ?_ ?_ ?_
        · rw [gi_idx _ _ _ (by decide), e3.1]
        · rw [gi_idx _ _ _ (by decide), e3.2.1]
        · rw [gi_idx _ _ _ (by decide), h212]
        · have e1 : min 4 (j + 1) = j + 1 := by omega
          have e2 : min 4 j = j := by omega
          rw [e2] at h16
          have hb := hnv j (by omega) (by omega)
          have h4 : (10 : Int) ^ j ≤ 1000 := by
            have hj3 : j = 0 ∨ j = 1 ∨ j = 2 ∨ j = 3 := by omega
            rcases hj3 with e | e | e | e <;> rw [e] <;> decide
          rw [gi_si _ _ _ _ _ (by unfold inR; omega), if_pos ⟨rfl, rfl⟩, e1, nvF, h16]
          omega
    refine B_X12_ahead_204 (by omega) ⟨by unfold inR; omega, ?_⟩
    rw [hT1.1, Int.toNat_natCast, hT1.2 _ (show tS T n p + j < n by omega)]
    refine ⟨fun q => absurd q (by omega), fun _ => ⟨by decide, fun _ => ⟨by omega, fun q => absurd hc q, fun _ => ⟨by unfold inR; omega, by decide, ?_⟩⟩, fun q => absurd rfl q⟩⟩
    refine ⟨fun c => ?_, fun c => ⟨fun c2 => ?_, fun c2 => ?_⟩⟩
    · have hh := b2 I1 (Or.inl rfl) (by rw [h112, hup, if_neg (fun q => by omega)])
      exact ⟨fun c8 => ⟨fun q => hh.1 q, fun q => absurd q (by omega)⟩, fun c8 => ⟨fun _ => ⟨fun q => hh.1 q, fun q => ⟨by decide, fun e => absurd e (by decide), fun _ => hh.2 q⟩⟩, fun q => absurd rfl q⟩⟩
    · rw [h112] at c2
      have hh := b2 I1 (Or.inl rfl) (by rw [h112, hup, if_neg (fun q => c2 q.2)])
      exact ⟨fun c8 => ⟨fun q => hh.1 q, fun q => absurd q (by omega)⟩, fun c8 => ⟨fun _ => ⟨fun q => hh.1 q, fun q => ⟨by decide, fun e => absurd e (by decide), fun _ => hh.2 q⟩⟩, fun q => absurd rfl q⟩⟩
    · rw [h112] at c2
      have hh := b2 (si I1 74 12 ((tS T n p + j : Nat) : Int)) (Or.inr rfl) (by rw [gi_si _ _ _ _ _ (by unfold inR; omega), if_pos ⟨rfl, rfl⟩, hup, if_pos ⟨by omega, c2⟩])
      exact ⟨fun c8 => ⟨fun q => hh.1 q, fun q => absurd q (by omega)⟩, fun c8 => ⟨fun _ => ⟨fun q => hh.1 q, fun q => ⟨by decide, fun e => absurd e (by decide), fun _ => hh.2 q⟩⟩, fun q => absurd rfl q⟩⟩
set_option maxRecDepth 20000 in
set_option maxHeartbeats 8000000 in
theorem S_X12_ahead {k : Nat} {P : Option Nat} {I : Nat → Nat → Int32} {J : Nat → Nat → Int64} {Q : Option AV → Mem → Prop} {T : Nat → Int} {n p : Nat} (hk : 6 ≤ k) (hX : TX T n) (hT : TR I T n) (hp : p ≤ n) (h5 : gi I 74 5 = p) (h : ∀ I' J', RT I' J' T n p → Fr [] FLr I I' → Fr [] [(74, 7)] J J' → Q none (mem (P, some 5, some 22) I' J')) : WPm k LAY m_X12_ahead [vR (some 74)] (mem (P, some 5, some 22) I J) Q := by
  have hn := hX.1
  have hr := tE_rng (T := T) hp
  have hsr := tS_rng (T := T) hp
  refine WPm.of k_X12_ahead.1 (Nat.le_of_ble_eq_true rfl) (B_X12_ahead_0 (Nat.zero_le k) ?_)
  rw [h5]
  have iS : inR ((tS T n p : Nat) : Int) := by unfold inR; omega
  generalize hI1 : si (si (si (si I 74 4 ((tS T n p : Nat) : Int)) 74 5 ((tS T n p : Nat) : Int)) 74 3 0) 74 12 (-1) = I1
  have hF1 : Fr [] FLr I I1 := by
    rw [← hI1]
    exact ((((Fr.rf _ _ I).up 74 4 _ (Or.inr (by decide))).up 74 5 _ (Or.inr (by decide))).up 74 3 _ (Or.inr (by decide))).up 74 12 _ (Or.inr (by decide))
  have hT1 : TR I1 T n := hT.fr hF1 (by decide) (by decide)
  have e4 : gi I1 74 4 = tS T n p := by rw [← hI1, gi_idx _ _ _ (by decide), gi_idx _ _ _ (by decide), gi_idx _ _ _ (by decide), gi_si _ _ _ _ _ iS, if_pos ⟨rfl, rfl⟩]
  have e5 : gi I1 74 5 = tS T n p := by rw [← hI1, gi_idx _ _ _ (by decide), gi_idx _ _ _ (by decide), gi_si _ _ _ _ _ iS, if_pos ⟨rfl, rfl⟩]
  have e3 : gi I1 74 3 = 0 := by rw [← hI1, gi_idx _ _ _ (by decide), gi_si _ _ _ _ _ (by decide), if_pos ⟨rfl, rfl⟩]
  have e12 : gi I1 74 12 = -1 := by rw [← hI1, gi_si _ _ _ _ _ (by decide), if_pos ⟨rfl, rfl⟩]
  -- the end
  have eend : tS T n p = n → Q none (mem (P, some 5, some 22) I1 J) := fun es => by
    have ek : kR T n p = 0 := kR_0.mpr (by omega)
    have ng : ¬ glu T n p := fun q => by rcases q.2.1 with q | q <;> omega
    refine h _ _ ⟨hT1, by rw [e3, ek]; rfl, e4, by rw [e5, tE_k.1 ek], ?_, fun q => by omega, fun q => by omega⟩ hF1 (Fr.rf _ _ _)
    rw [e12, bd_n ng, if_neg (fun q => by omega), if_neg (fun q => by omega)]
  -- a word or a number, or a sign
  have mid : tS T n p < n → ∀ (x2 x3 : Int) (I2 : Nat → Nat → Int32) (g : Int), (kR T n p = 1 ∧ x2 = 1 ∧ x3 = 0) ∨ (kR T n p = 2 ∧ x2 = 0 ∧ x3 = 1) ∨ (kR T n p = 3 ∧ x2 = 0 ∧ x3 = 0) → ((kR T n p ≠ 3 → glu T n p) ∧ kR T n p ≠ 3 ∧ g = ((tS T n p : Nat) : Int) ∧ I2 = si I1 74 12 ((tS T n p : Nat) : Int)) ∨ (¬ glu T n p ∧ g = -1 ∧ I2 = I1) → WP k LAY m_X12_ahead 135 [(0, vR (some 74)), (1, vI ((tS T n p : Nat) : Int)), (2, vI x2), (3, vI x3)] [] (mem (P, some 5, some 22) I2 J) Q := by
    intro hlt x2 x3 I2 g hx hg
    have hF2 : Fr [] FLr I1 I2 := by
      rcases hg with ⟨-, -, -, e⟩ | ⟨-, -, e⟩ <;> rw [e]
      · exact (Fr.rf _ _ I1).up 74 12 _ (Or.inr (by decide))
      · exact Fr.rf _ _ _
    have g12 : gi I2 74 12 = g := by
      rcases hg with ⟨-, -, e, e'⟩ | ⟨-, e, e'⟩ <;> rw [e', e]
      · rw [gi_si _ _ _ _ _ iS, if_pos ⟨rfl, rfl⟩]
      · exact e12
    have g4 : gi I2 74 4 = tS T n p := by
      rcases hg with ⟨-, -, -, e⟩ | ⟨-, -, e⟩ <;> rw [e]
      · rw [gi_idx _ _ _ (by decide), e4]
      · exact e4
    have iS1 : inR (((tS T n p : Nat) : Int) + 1) := by unfold inR; omega
    have hgl : kR T n p ≠ 3 → (glu T n p ∧ g = ((tS T n p : Nat) : Int)) ∨ (¬ glu T n p ∧ g = -1) := fun q => hg.elim (fun r => Or.inl ⟨r.1 q, r.2.2.1⟩) (fun r => Or.inr ⟨r.1, r.2.1⟩)
    have g0 : g = ((tS T n p : Nat) : Int) ∨ g = -1 := hg.elim (fun r => Or.inl r.2.2.1) (fun r => Or.inr r.2.1)
    have hT2 := hT1.fr hF2 (by decide) (by decide)
    have lx0 : ∀ m, lxA (tS T n p) m g 0 = g := fun m => by
      unfold lxA
      by_cases e : g = -1
      · rw [if_pos e, if_neg (Nat.not_lt_zero m), e]
      · rw [if_neg e]
    rcases hx with ⟨ek, rfl, rfl⟩ | ⟨ek, rfl, rfl⟩ | ⟨ek, rfl, rfl⟩
    · refine B_X12_ahead_135 (Nat.zero_le k) ⟨by decide, fun _ => ⟨fun q => absurd q (by decide), fun _ => ⟨fun q => absurd q (by decide), fun _ => ?_⟩⟩, fun q => absurd q (by decide)⟩
      refine B_X12_ahead_199 (Nat.zero_le k) ?_
      have hF3 : Fr [] FLr I2 (si (si (si (si I2 74 6 0) 74 3 3) 74 5 (((tS T n p : Nat) : Int) + 1)) 74 3 1) := ((((Fr.rf _ _ I2).up 74 6 _ (Or.inr (by decide))).up 74 3 _ (Or.inr (by decide))).up 74 5 _ (Or.inr (by decide))).up 74 3 _ (Or.inr (by decide))
      refine ah_let (I := I) (J := J) hk hX hp h g ek (hgl (by omega)) (tE T n p - tS T n p) 0 _ _ _ _ (Nat.zero_add _) rfl rfl ((hF1.tr hF2).tr hF3) ((Fr.rf _ _ _).upL 74 7 _ (Or.inr (by decide))) (hT2.fr hF3 (by decide) (by decide)) ?_ ?_ ?_ ?_
      · rw [gi_si _ _ _ _ _ (by decide), if_pos ⟨rfl, rfl⟩]
      · rw [gi_idx _ _ _ (by decide), gi_idx _ _ _ (by decide), gi_idx _ _ _ (by decide), gi_idx _ _ _ (by decide), g4]
      · rw [gi_idx _ _ _ (by decide), gi_idx _ _ _ (by decide), gi_idx _ _ _ (by decide), gi_idx _ _ _ (by decide), g12, lx0]
      · rw [gl_same _ _ _ (by decide)]
        rfl
    · refine B_X12_ahead_135 (Nat.zero_le k) ⟨by decide, fun q => absurd rfl q, fun _ => ⟨by decide, fun _ => ⟨fun _ => ⟨fun _ => ?_, fun q => absurd rfl q⟩, fun q => absurd rfl q⟩, fun q => absurd q (by decide)⟩⟩
      refine B_X12_ahead_199 (Nat.zero_le k) ?_
      have hF3 : Fr [] FLr I2 (si (si (si (si I2 74 6 0) 74 3 3) 74 5 (((tS T n p : Nat) : Int) + 1)) 74 3 2) := ((((Fr.rf _ _ I2).up 74 6 _ (Or.inr (by decide))).up 74 3 _ (Or.inr (by decide))).up 74 5 _ (Or.inr (by decide))).up 74 3 _ (Or.inr (by decide))
      refine ah_dig (I := I) (J := J) hk hX hp h g ek (hgl (by omega)) (tE T n p - tS T n p) 0 _ _ _ _ (Nat.zero_add _) rfl rfl ((hF1.tr hF2).tr hF3) ((Fr.rf _ _ _).upL 74 7 _ (Or.inr (by decide))) (hT2.fr hF3 (by decide) (by decide)) ?_ ?_ ?_ ?_
      · rw [gi_si _ _ _ _ _ (by decide), if_pos ⟨rfl, rfl⟩]
      · rw [gi_idx _ _ _ (by decide), gi_idx _ _ _ (by decide), gi_idx _ _ _ (by decide), gi_idx _ _ _ (by decide), g4]
      · rw [gi_idx _ _ _ (by decide), gi_idx _ _ _ (by decide), gi_idx _ _ _ (by decide), gi_idx _ _ _ (by decide), g12, lx0]
      · rw [gi_idx _ _ _ (by decide), gi_idx _ _ _ (by decide), gi_idx _ _ _ (by decide), gi_si _ _ _ _ _ (by decide), if_pos ⟨rfl, rfl⟩]
        rfl
    · refine B_X12_ahead_135 (Nat.zero_le k) ⟨by decide, fun q => absurd rfl q, fun _ => ⟨by decide, fun q => absurd rfl q, fun _ => ⟨by omega, ?_⟩⟩⟩
      rw [Int.toNat_natCast, hT2.2 _ hlt]
      have hb := hX.2 _ hlt
      have iT : inR (T (tS T n p)) := by unfold inR; omega
      have hF3 : Fr [] FLr I2 (si (si (si (si I2 74 6 0) 74 3 3) 74 5 (((tS T n p : Nat) : Int) + 1)) 74 6 (T (tS T n p))) := ((((Fr.rf _ _ I2).up 74 6 _ (Or.inr (by decide))).up 74 3 _ (Or.inr (by decide))).up 74 5 _ (Or.inr (by decide))).up 74 6 _ (Or.inr (by decide))
      have ng : ¬ glu T n p := fun q => by rcases q.2.1 with q | q <;> omega
      have eg : g = -1 := hg.elim (fun r => absurd ek r.2.1) (fun r => r.2.1)
      refine h _ _ ⟨hT2.fr hF3 (by decide) (by decide), ?_, ?_, ?_, ?_, fun _ => ?_, fun q => by omega⟩ ((hF1.tr hF2).tr hF3) ((Fr.rf _ _ _).upL 74 7 _ (Or.inr (by decide)))
      · rw [gi_idx _ _ _ (by decide), gi_idx _ _ _ (by decide), gi_si _ _ _ _ _ (by decide), if_pos ⟨rfl, rfl⟩, ek]
        rfl
      · rw [gi_idx _ _ _ (by decide), gi_idx _ _ _ (by decide), gi_idx _ _ _ (by decide), gi_idx _ _ _ (by decide), g4]
      · rw [gi_idx _ _ _ (by decide), gi_si _ _ _ _ _ iS1, if_pos ⟨rfl, rfl⟩, tE_k.2 ek]
        omega
      · rw [gi_idx _ _ _ (by decide), gi_idx _ _ _ (by decide), gi_idx _ _ _ (by decide), gi_idx _ _ _ (by decide), g12, eg, bd_n ng, if_neg (fun q => by omega), if_neg (fun q => by omega)]
      · rw [gi_si _ _ _ _ _ iT, if_pos ⟨rfl, rfl⟩]
        unfold vl
        rw [ek, if_neg (by decide), if_neg (by decide), if_neg (by decide)]
  -- whether it is glued
  have gl98 : tS T n p < n → (kR T n p = 1 ∨ kR T n p = 2) → ∀ (x2 x3 : Int), (kR T n p = 1 ∧ x2 = 1 ∧ x3 = 0) ∨ (kR T n p = 2 ∧ x2 = 0 ∧ x3 = 1) ∨ (kR T n p = 3 ∧ x2 = 0 ∧ x3 = 0) → WP k LAY m_X12_ahead 98 [(0, vR (some 74)), (1, vI ((tS T n p : Nat) : Int)), (2, vI x2), (3, vI x3)] [] (mem (P, some 5, some 22) I1 J) Q := by
    intro hlt hk12 x2 x3 hx
    have no : (¬ 0 < tS T n p ∨ (zL (T (tS T n p - 1)) = false ∧ zD (T (tS T n p - 1)) = false)) → WP k LAY m_X12_ahead 135 [(0, vR (some 74)), (1, vI ((tS T n p : Nat) : Int)), (2, vI x2), (3, vI x3)] [] (mem (P, some 5, some 22) I1 J) Q := fun q => mid hlt x2 x3 I1 (-1) hx (Or.inr ⟨fun r => by
      rcases q with q | q
      · exact q r.1
      · rcases r.2.2 with r | r
        · rw [q.1] at r
          exact absurd r (by decide)
        · rw [q.2] at r
          exact absurd r (by decide), rfl, rfl⟩)
    have yes : 0 < tS T n p → (zL (T (tS T n p - 1)) = true ∨ zD (T (tS T n p - 1)) = true) → WP k LAY m_X12_ahead 135 [(0, vR (some 74)), (1, vI ((tS T n p : Nat) : Int)), (2, vI x2), (3, vI x3)] [] (mem (P, some 5, some 22) (si I1 74 12 ((tS T n p : Nat) : Int)) J) Q := fun q1 q2 => mid hlt x2 x3 _ _ hx (Or.inl ⟨fun _ => ⟨q1, hk12, q2⟩, by omega, rfl, rfl⟩)
    refine B_X12_ahead_98 (by omega) ⟨iS, fun c => no (Or.inl (by omega)), fun c => ⟨by omega, ?_⟩⟩
    rw [show (((tS T n p : Nat) : Int) - 1).toNat = tS T n p - 1 by omega, hT1.2 _ (by omega)]
    refine ⟨fun c2 => yes (by omega) (Or.inl (zL_t.mpr c2)), fun c2 => ⟨fun c3 => no (Or.inr ⟨?_, ?_⟩), fun c3 => yes (by omega) (Or.inr (zD_t.mpr c3))⟩⟩
    · exact Bool.eq_false_iff.mpr (fun q => c2 (zL_t.mp q))
    · exact Bool.eq_false_iff.mpr (fun q => c3 (zD_t.mp q))
  have disp : tS T n p < n → ((97 ≤ T (tS T n p) ∧ T (tS T n p) ≤ 122) → WP k LAY m_X12_ahead 98 [(0, vR (some 74)), (1, vI ((tS T n p : Nat) : Int)), (2, vI (b2i (97 ≤ T (tS T n p) ∧ T (tS T n p) ≤ 122))), (3, vI (b2i (48 ≤ T (tS T n p) ∧ T (tS T n p) ≤ 57)))] [] (mem (P, some 5, some 22) I1 J) Q) ∧ (¬ (97 ≤ T (tS T n p) ∧ T (tS T n p) ≤ 122) → (¬ (48 ≤ T (tS T n p) ∧ T (tS T n p) ≤ 57) → WP k LAY m_X12_ahead 135 [(0, vR (some 74)), (1, vI ((tS T n p : Nat) : Int)), (2, vI (b2i (97 ≤ T (tS T n p) ∧ T (tS T n p) ≤ 122))), (3, vI (b2i (48 ≤ T (tS T n p) ∧ T (tS T n p) ≤ 57)))] [] (mem (P, some 5, some 22) I1 J) Q) ∧ ((48 ≤ T (tS T n p) ∧ T (tS T n p) ≤ 57) → WP k LAY m_X12_ahead 98 [(0, vR (some 74)), (1, vI ((tS T n p : Nat) : Int)), (2, vI (b2i (97 ≤ T (tS T n p) ∧ T (tS T n p) ≤ 122))), (3, vI (b2i (48 ≤ T (tS T n p) ∧ T (tS T n p) ≤ 57)))] [] (mem (P, some 5, some 22) I1 J) Q)) := by
    intro hlt
    refine ⟨fun c => ?_, fun c => ⟨fun c2 => ?_, fun c2 => ?_⟩⟩
    · have ek : kR T n p = 1 := by
        unfold kR rK
        rw [if_pos hlt, if_pos (zL_t.mpr c)]
      rw [b2i_1 c, b2i_0 (show ¬ (48 ≤ T (tS T n p) ∧ T (tS T n p) ≤ 57) by omega)]
      exact gl98 hlt (Or.inl ek) 1 0 (Or.inl ⟨ek, rfl, rfl⟩)
    · have ek : kR T n p = 3 := by
        unfold kR rK
        rw [if_pos hlt, if_neg (fun q => c (zL_t.mp q)), if_neg (fun q => c2 (zD_t.mp q))]
      rw [b2i_0 c, b2i_0 c2]
      exact mid hlt 0 0 I1 (-1) (Or.inr (Or.inr ⟨ek, rfl, rfl⟩)) (Or.inr ⟨fun q => by rcases q.2.1 with q | q <;> omega, rfl, rfl⟩)
    · have ek : kR T n p = 2 := by
        unfold kR rK
        rw [if_pos hlt, if_neg (fun q => c (zL_t.mp q)), if_pos (zD_t.mpr c2)]
      rw [b2i_0 c, b2i_1 c2]
      exact gl98 hlt (Or.inr ek) 0 1 (Or.inr (Or.inl ⟨ek, rfl, rfl⟩))
  -- the blanks
  have loop : ∀ (d q : Nat) (x1 : Int), q + d = n → x1 = q → runS zB T n q = tS T n p → WP k LAY m_X12_ahead 5 [(0, vR (some 74)), (1, vI x1)] [] (mem (P, some 5, some 22) I J) Q := by
    intro d
    induction d with
    | zero =>
      intro q x1 hq hx hrun
      subst hx
      rw [runS_stop (by omega)] at hrun
      subst hrun
      refine B_X12_ahead_5 (by omega) ⟨iS, ?_⟩
      rw [hT.1, hI1]
      exact ⟨fun _ => ⟨fun c => absurd c (by omega), fun _ => eend (by omega)⟩, fun c => absurd (by omega) c⟩
    | succ d ih =>
      intro q x1 hq hx hrun
      subst hx
      refine B_X12_ahead_5 (by omega) ⟨by unfold inR; omega, ?_⟩
      rw [hT.1, Int.toNat_natCast, hT.2 q (by omega)]
      have st : zB (T q) = true → WP k LAY m_X12_ahead 5 [(0, vR (some 74)), (1, vI ((q : Int) + 1))] [] (mem (P, some 5, some 22) I J) Q := fun hz => by
        rw [runS_step ⟨by omega, hz⟩] at hrun
        exact ih (q + 1) _ (by omega) (by omega) hrun
      refine ⟨fun c => absurd c (by omega), fun _ => ⟨by omega, fun c => st (zB_t.mpr (Or.inr c)), fun c => ⟨fun c2 => ?_, fun c2 => st (zB_t.mpr (Or.inl c2))⟩⟩⟩
      have hz : ¬ zB (T q) = true := fun z => (zB_t.mp z).elim c2 c
      rw [runS_stop (fun z => hz z.2)] at hrun
      subst hrun
      rw [hI1]
      exact ⟨fun _ => disp (by omega), fun c3 => absurd (show ((tS T n p : Nat) : Int) < n by omega) c3⟩
  exact loop (n - p) p p (by omega) rfl rfl
end LEXA

section LOGS
/-! ===== an evening's pages, in the log and in the list kept ===== -/
theorem KPl_mv {l : List (Int × Int × Int)} {g g' : Nat → Int} {kc : Nat} (h : KPl l g kc) (hg : ∀ j, j < kc → g' j = g j) : KPl l g' kc := by
  obtain ⟨h1, h2⟩ := h
  refine ⟨h1, fun k hk => ?_⟩
  rw [hg _ (by omega)]
  exact h2 k hk
theorem KPl_ps {l : List (Int × Int × Int)} {g g' : Nat → Int} {kc : Nat} {C : List (Int × Int)} {night r : Int} (h : KPl l g kc) (hn : 0 ≤ night ∧ night ≤ 1000) (hr : 0 ≤ r ∧ r < 6) (hg : ∀ j, j < kc → g' j = g j) : ∀ n : Nat, (∀ i, i < n → (0 ≤ cp C i ∧ cp C i < 14) ∧ g' (kc + i) = cdE (night, r, cp C i)) → KPl (psN l C night r n) g' (kc + n)
  | 0, _ => KPl_mv h hg
  | n + 1, hc => by
    have ih := KPl_ps h hn hr hg n (fun i hi => hc i (by omega))
    obtain ⟨c1, c2⟩ := hc n (by omega)
    exact KPl_psh ih c2 (fun _ _ => rfl) ⟨hn, hr, c1⟩
/-- how many pages the first readers read -/
def rdS (L : Lb) (R : Rl) (H : Hl) (cold : Int) : Nat → Nat
  | 0 => 0
  | n + 1 => rdS L R H cold n + rdC L R H cold n
theorem rdS_i (L : Lb) (R : Rl) (H : Hl) (cold : Int) : ∀ n : Nat, ((rdS L R H cold n : Nat) : Int) = smi n (fun r => rdA L R H cold r)
  | 0 => rfl
  | n + 1 => by
    have ih := rdS_i L R H cold n
    have e : rdA L R H cold (n : Int) = ((rdC L R H cold n : Nat) : Int) := rfl
    rw [rdS, smi, ← ih, e, Int.natCast_add]
theorem KPl_kp {l : List (Int × Int × Int)} {g g' : Nat → Int} {kc : Nat} {L : Lb} {R : Rl} {H : Hl} {cold : Int} (h : KPl l g kc) (hn : 0 ≤ H 8 0 ∧ H 8 0 ≤ 999) (hg : ∀ j, j < kc → g' j = g j) : ∀ n : Nat, n ≤ 6 → (∀ m : Nat, m < n → ∀ i, i < rdC L R H cold m → (0 ≤ cp (coN L R H cold m) i ∧ cp (coN L R H cold m) i < 14) ∧ g' (kc + rdS L R H cold m + i) = cdE (H 8 0 + 1, (m : Int), cp (coN L R H cold m) i)) → KPl (kpN L R H cold l n) g' (kc + rdS L R H cold n)
  | 0, _, _ => KPl_mv h hg
  | n + 1, h6, hc => by
    have ih := KPl_kp h hn hg n (by omega) (fun m hm => hc m (by omega))
    have := KPl_ps (C := coN L R H cold n) (night := H 8 0 + 1) (r := (n : Int)) ih ⟨by omega, by omega⟩ ⟨by omega, by omega⟩ (fun _ _ => rfl) (rdC L R H cold n) (hc n (by omega))
    rw [show kc + rdS L R H cold (n + 1) = kc + rdS L R H cold n + rdC L R H cold n from (Nat.add_assoc _ _ _).symm]
    exact this
end LOGS

section VNSTEPS
/-! ===== all calls ===== -/
set_option maxHeartbeats 1000000 in
theorem VN_steps {n : Nat} (h3 : n ≤ 3072) : Steps (VN n) (VN (n + 6)) := by
  have hn : n ≤ n + 6 := by omega
  have hS : Vsc (VN n) (VN (n + 6)) := VN_scr hn
  have hS' : Vsc (VN (n + 6)) (VN (n + 6)) := VN_scr (Nat.le_refl _)
  have hA : Vact (VN n) (VN (n + 6)) := VN_act (by omega) (by omega)
  have hH : ∀ I J, VN n I J → VH I := fun I J h => h.2.2.2.2.1
  have hV : ∀ I J, VN n I J → VA I := fun I J h => (hH I J h).1
  have hK : ∀ I J, VN n I J → KP I (gi I 19 2) 0 := fun I J h => (hH I J h).2.2.1
  have hk : ∀ I J, VN n I J → gi I 117 0 = min 60 (gi I 19 2) := fun I J h => (hK I J h).2.1
  have hV7 : ∀ I J, VN n I J → VA I ∧ 0 ≤ gi I 117 0 ∧ gi I 117 0 ≤ 60 := fun I J h => ⟨hV I J h, by
    have a := hk I J h
    have b := (hK I J h).1
    omega⟩
  have hR : ∀ I J j, VN n I J → j < 6 → VN (n + 6) (refI I j) J := fun I J j h hj => h.ref hn j hj
  have hT : ∀ I J, VN n I J → V_tp I := fun I J h => h.2.2.1
  have hm : ∀ I J, VN n I J → VN (n + 6) I J := fun I J h => h.mono hn
  refine ⟨fun a1 a2 a3 a4 a5 _ _ _ _ _ => step_feed (fun I J h => ⟨(hT I J h).1, (hT I J h).2.1⟩) (fun I J x1 x2 x3 x4 x5 h hl => h.feed hn x1 x2 x3 x4 x5 hl) hR a1 a2 a3 a4 a5, ?_⟩
  refine ⟨fun a1 h1 => step_end (fun I J h => (hT I J h).1) (fun I J x h _ x0 x1 => h.end_ hn x x0 x1) hR a1 h1, ?_⟩
  refine ⟨step_library (by omega), ?_⟩
  refine ⟨fun a1 h1 => step_fault hS (fun I J h => h.2.2.2.1) a1 h1, ?_⟩
  refine ⟨fun a1 h1 => step_has hS hV (fun I J h => ⟨hk I J h, (hH I J h).2.1.2.2.2.1, h.2.2.2.2.2.2.1.1⟩) a1 h1, ?_⟩
  refine ⟨fun a1 a2 a3 h1 h2 h3 => step_letter hS hV (fun I J h => h.2.2.2.2.2.2.2.1) a1 a2 a3 h1 h2 h3, ?_⟩
  refine ⟨fun a1 a2 h1 h2 => step_page hS hV (fun I J h => h.2.2.2.2.2.1) a1 a2 h1 h2, ?_⟩
  refine ⟨fun a1 a2 h1 h2 => step_reader hS hV a1 a2 h1 h2, ?_⟩
  refine ⟨fun a1 a2 h1 h2 => step_table hS hV a1 a2 h1 h2, ?_⟩
  refine ⟨fun a1 a2 h1 h2 => step_takes hS hV a1 a2 h1 h2, ?_⟩
  refine ⟨fun a1 h1 => step_burns hS hV a1 h1, ?_⟩
  refine ⟨fun a1 a2 h1 h2 => step_tonight hS hV7 a1 a2 h1 h2, ?_⟩
  refine ⟨fun a1 h1 => step_whole hS hV7 a1 h1, ?_⟩
  refine ⟨fun a1 a2 h1 h2 => step_seat hA a1 a2 h1 h2, ?_⟩
  refine ⟨fun a1 a2 h1 h2 => step_list hA a1 a2 h1 h2, ?_⟩
  refine ⟨fun a1 h1 => step_drop hA a1 h1, ?_⟩
  refine ⟨fun a1 a2 a3 h1 h2 h3 => step_tell hA hS' a1 a2 a3 h1 h2 h3, ?_⟩
  refine ⟨step_night hA, ?_⟩
  refine ⟨fun a1 h1 => step_winter hA (fun I J h => h.2.2.2.2.2.2.1) (fun I J x h hx x0 => h.seed (Nat.le_refl _) x hx x0) a1 h1, ?_⟩
  refine ⟨step_undo hA, ?_⟩
  refine ⟨fun a1 h1 => step_seed (fun I J x h hx x0 => h.seed hn x hx x0) hR a1 h1, ?_⟩
  refine ⟨fun a1 a2 h1 h2 => step_kept hS hK a1 a2 h1 h2, ?_⟩
  refine ⟨fun a1 a2 a3 h1 h2 h3 => step_work hS hV a1 a2 a3 h1 h2 h3, ?_⟩
  refine ⟨fun a1 h1 => step_scholar hS hV a1 h1, ?_⟩
  refine ⟨fun a1 a2 h1 h2 => step_shared hS hV (fun I J h => h.2.2.2.2.2.2.2.2.2.2.1) (fun I J I' J' h hs hv hj => h.sha hn hs hv hj) a1 a2 h1 h2, ?_⟩
  refine ⟨fun a1 h1 => step_seated hS hV7 (fun I J h => h.2.2.2.2.2.2.2.2.2.2.2.1) (fun I J I' J' h hs hv hj => h.ses hn hs hv hj) a1 h1, ?_⟩
  refine ⟨fun a1 a2 a3 h1 h2 h3 => step_most hS hV (fun I J h => h.2.2.2.2.2.2.2.2.1) (fun I J I' J' h hs hv hj => h.mos hn hs hv hj) a1 a2 a3 h1 h2 h3, ?_⟩
  refine ⟨fun a1 a2 a3 h1 h2 h3 => step_wax hS hV (fun I J h => h.2.2.2.2.2.2.2.2.2.1) (fun I J I' J' h hs hv hj => h.wax hn hs hv hj) a1 a2 a3 h1 h2 h3, ?_⟩
  refine ⟨fun a1 a2 h1 h2 => step_index hS hV a1 a2 h1 h2, ?_⟩
  refine ⟨step_image hV (fun I J I' h hF ho => h.image hn hF ho), ?_⟩
  refine ⟨fun a1 h1 => step_octet (fun I J h => h.2.1) hm a1 h1, ?_⟩
  refine ⟨step_on hA hS' hT (fun I J h => h.end_ (Nat.le_refl _) 0 (by decide) (hT I J h).2.1.1), ?_⟩
  exact fun a1 h1 => step_status (fun I J h => h.1) hm a1 h1
theorem upS_0 (I : Nat → Nat → Int32) : upS I (swI I) := fun c k h => by
  show gi I c k = gi (fun c => I (sg c)) (c + 17) k
  have e : sg (c + 17) = c := by
    unfold sg
    rw [if_neg (by omega), if_pos (by omega)]
    omega
  exact gi_eq2 (by
    show I c k = I (sg (c + 17)) k
    rw [e])
set_option maxRecDepth 20000 in
theorem V_start : VN 0 IC_197 JC_134 := by
  have s6 : ∀ k, k < 4 → gi IC_197 6 k = 0 := by decide +kernel
  have s10 : ∀ k, k < 14 → gi IC_197 10 k = 0 ∧ gi IC_197 11 k = 0 := by decide +kernel
  have s18 : ∀ k, k < 3 → gi IC_197 18 k = 0 := by decide +kernel
  have s19 : ∀ i : Nat, i < 87 → gi IC_197 19 i = rw0 i := by decide +kernel
  have s73 : ∀ j : Nat, j < 6 → gi IC_197 73 j = gi IC_197 107 j := by decide +kernel
  have s89 : ∀ ρ, ρ < 3 → gi IC_197 (89 + 2 * ρ) 0 = -1 := by decide +kernel
  have f13 : gi IC_197 74 13 = 0 := by decide +kernel
  have sw : ∀ c k, 22 ≤ c → c < 36 → gi (swI IC_197) c k = gi IC_197 (c - 17) k := fun c k a b => gi_eq2 (by
    show IC_197 (sg c) k = IC_197 (c - 17) k
    have e : sg c = c - 17 := by
      unfold sg
      rw [if_neg (by omega), if_pos (by omega)]
    rw [e])
  have s13 : gi IC_197 5 13 = 0 := by decide +kernel
  have s14 : gi IC_197 5 14 = 0 := by decide +kernel
  have s15 : gi IC_197 5 15 = 60 := by decide +kernel
  have hS : SCs (swI IC_197) Lz Nz Rz 0 := SCz (fun k hk => (sw 23 k (by decide) (by decide)).trans (s6 k hk)) ((sw 22 14 (by decide) (by decide)).trans s14) ((sw 22 15 (by decide) (by decide)).trans s15) (fun i hi => ⟨(sw 27 i (by decide) (by decide)).trans (s10 i hi).1, (sw 28 i (by decide) (by decide)).trans (s10 i hi).2⟩) (fun ρ hρ => (sw 35 ρ (by decide) (by decide)).trans (s18 ρ hρ)) ((sw 22 13 (by decide) (by decide)).trans s13)
  have hR : SRs IC_197 JC_134 0 Lz Nz Rz 0 := SRz (by decide +kernel) (by decide +kernel) (by decide +kernel) (by decide +kernel) (by decide +kernel) (by decide +kernel) s89 (by decide +kernel)
  have up := upS_0 IC_197
  have eL := LC_q up hS WLz
  obtain ⟨eR, rg⟩ := RC_q up hS (by decide)
  have eL' := LR_q (b := 0) f13 hR
  obtain ⟨eR', rg'⟩ := RR_q (b := 0) f13 hR (by decide)
  have n0 : nR (Lq Lz) = 0 := rfl
  have i46 : gi IC_197 4 6 = 1 := by decide +kernel
  have c1 : gi IC_197 51 11 = -1 := by decide +kernel
  have c2 : gi IC_197 51 14 = -1 := by decide +kernel
  have c3 : gi IC_197 54 5 = -1 := by decide +kernel
  have c4 : gi IC_197 63 9 = -1 := by decide +kernel
  have t1 : gi IC_197 1 1 = 0 := by decide +kernel
  have t2 : gi IC_197 74 1 = 0 := by decide +kernel
  have o1 : gi IC_197 70 2 = 0 := by decide +kernel
  have o2 : gi IC_197 74 87 = 0 := by decide +kernel
  have hf : Lz 0 2 ≤ 0 ∨ Lz 0 3 ≠ 0 := Or.inl (by decide)
  refine ⟨s73, ⟨by rw [o1, o2], by rw [o1]; decide, fun j hj => by rw [o1] at hj; omega⟩, ⟨by rw [t1, t2], by rw [t1]; decide, fun j hj => by rw [t1] at hj; omega⟩, ⟨by decide +kernel, by decide +kernel⟩, ?_, fun p hp => ?_, ⟨by decide +kernel, by decide +kernel⟩, fun x w x0 x3 w0 w1 => ?_, ⟨by rw [c1, i46]; decide, fun t => absurd t (by rw [c1, i46]; decide)⟩, ⟨by rw [c2, i46]; decide, fun t => absurd t (by rw [c2, i46]; decide)⟩, ⟨by rw [c3, i46]; decide, fun t => absurd t (by rw [c3, i46]; decide)⟩, ⟨by rw [c4, i46]; decide, fun t => absurd t (by rw [c4, i46]; decide)⟩, by rw [i46]; decide⟩
  · exact VH_new eL eR rg eL' eR' rg' (by rw [f13]; decide) (Lq_wf WLz hf) (Rq_wf WLz) s19 (by decide +kernel) (by decide +kernel) (by decide +kernel) (fun c r _ _ hr => absurd hr (by rw [n0]; omega)) (by decide +kernel) (by decide +kernel) (by decide +kernel) (by decide +kernel) (by decide +kernel) ⟨by decide +kernel, by decide +kernel⟩
  · rw [eL] at hp
    have hp' : (p : Int) < 0 := hp
    omega
  · have h6 := s6 x.toNat (by omega)
    omega
end VNSTEPS

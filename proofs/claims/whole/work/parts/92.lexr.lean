section LEXR
/-! ===== the reference's tape as tokens ===== -/
theorem bvl (a c : Nat) : (iL (c : Int)).toBitVec = BitVec.ofNat 64 c := iL_bv c
theorem shl64_8 {a : Nat} (ha : a * 256 < 9223372036854775808) : shl64 (a : Int) 8 = ((a * 256 : Nat) : Int) := by
  have h1 : (((iI (8 : Int)).toInt64 &&& 63).toBitVec.smod 64#64).toNat = 8 := by decide +kernel
  unfold shl64
  show (iL (a : Int) <<< ((iI (8 : Int)).toInt64 &&& 63)).toBitVec.toInt = _
  rw [Int64.toBitVec_shiftLeft, iL_bv a]
  show (BitVec.shiftLeft (BitVec.ofNat 64 a) (((iI (8 : Int)).toInt64 &&& 63).toBitVec.smod 64#64).toNat).toInt = _
  rw [h1]
  refine bv_int64 ?_ ha
  have e1 : a < 9223372036854775808 := by omega
  rw [BitVec.shiftLeft_eq, BitVec.toNat_shiftLeft, bv_nat64 e1, Nat.shiftLeft_eq]
  exact Nat.mod_eq_of_lt (by omega)
theorem pk_add {a c : Nat} (ha : a * 256 + c < 9223372036854775808) (hc : c < 256) : or64 (shl64 (a : Int) 8) (c : Int) = ((a * 256 + c : Nat) : Int) := by
  have e1 : a * 256 < 9223372036854775808 := Nat.lt_of_le_of_lt (Nat.le_add_right _ c) ha
  have e2 : c < 9223372036854775808 := Nat.lt_of_le_of_lt (Nat.le_add_left c _) ha
  rw [shl64_8 e1]
  show (iL ((a * 256 : Nat) : Int) ||| iL (c : Int)).toBitVec.toInt = _
  rw [Int64.toBitVec_or, iL_bv, iL_bv]
  refine bv_int64 ?_ ha
  rw [BitVec.toNat_or, bv_nat64 e1, bv_nat64 e2]
  have := Nat.shiftLeft_add_eq_or_of_lt (i := 8) (b := c) (by omega) a
  rw [Nat.shiftLeft_eq] at this
  exact this.symm
theorem pkN_inj : ∀ {r r' : List Nat}, (∀ c ∈ r, 1 ≤ c ∧ c < 256) → (∀ c ∈ r', 1 ≤ c ∧ c < 256) → pkN r = pkN r' → r = r'
  | [], [], _, _, _ => rfl
  | [], c :: r, _, h, e => by
    have h1 := h c List.mem_cons_self
    have e' : 0 = pkN r * 256 + c := e
    omega
  | c :: r, [], h, _, e => by
    have h1 := h c List.mem_cons_self
    have e' : pkN r * 256 + c = 0 := e
    omega
  | c :: r, c' :: r', h, h', e => by
    have h1 := h c List.mem_cons_self
    have h2 := h' c' List.mem_cons_self
    have e' : pkN r * 256 + c = pkN r' * 256 + c' := e
    have ec : c = c' := by omega
    have er : pkN r = pkN r' := by omega
    rw [ec, pkN_inj (fun d hd => h d (List.mem_cons_of_mem _ hd)) (fun d hd => h' d (List.mem_cons_of_mem _ hd)) er]
def ownK : List Nat := [1651470187, 1885431653, 28518, 465625310579, 6449511, 474147546227, 125779751232882, 1885430629, 1702454643, 499850046565, 431415715444, 1768842088, 422877228659, 499850634611, 499917810803, 482955849332, 461414299507, 32485571211914855, 474214787188, 28530, 6385252, 7237492, 6384748, 7170414, 7168376]
theorem ownK_l : (List.range 25).all (fun w => decide (ownK.getD w 0 = pkN (ownR w)) && (ownR w).all (fun c => decide (97 ≤ c ∧ c ≤ 122))) = true := by decide +kernel
theorem ownK_at {w : Nat} (h : w < 25) : ownK.getD w 0 = pkN (ownR w) ∧ ∀ c ∈ ownR w, 97 ≤ c ∧ c ≤ 122 := by
  have := all_at ownK_l h
  rw [Bool.and_eq_true] at this
  exact ⟨of_decide_eq_true this.1, fun c hc => of_decide_eq_true (List.all_eq_true.mp this.2 c hc)⟩
theorem ownK_mem {r : List Nat} (h : ∀ c ∈ r, 97 ≤ c ∧ c ≤ 122) : pkN r ∈ ownK ↔ owI r ≠ -1 := by
  constructor
  · intro hm
    obtain ⟨w, hw, e⟩ := List.mem_iff_getElem.mp hm
    have hw' : w < 25 := hw
    have a := ownK_at hw'
    have e2 : ownK.getD w 0 = pkN r := by
      rw [List.getD_eq_getElem?_getD, List.getElem?_eq_getElem hw, Option.getD_some, e]
    have er : r = ownR w := pkN_inj (fun c hc => by have := h c hc; omega) (fun c hc => by have := a.2 c hc; omega) (by rw [← e2, a.1])
    rw [(owI_iff hw').mpr er]
    omega
  · intro hne
    rcases owI_in r with e | ⟨w, hw, -, e⟩
    · exact absurd e hne
    · have a := ownK_at hw
      rw [e, ← a.1]
      have hl : w < ownK.length := hw
      rw [List.getD_eq_getElem?_getD, List.getElem?_eq_getElem hl, Option.getD_some]
      exact List.getElem_mem hl
/-- a word's number is an own word's -/
theorem owI_pk {r : List Nat} (h : ∀ c ∈ r, 97 ≤ c ∧ c ≤ 122) {w : Nat} (hw : w < 25) : pkN r = pkN (ownR w) ↔ owI r = (w : Int) := by
  have a := ownK_at hw
  rw [owI_iff hw]
  exact ⟨fun e => pkN_inj (fun c hc => by have := h c hc; omega) (fun c hc => by have := a.2 c hc; omega) e, fun e => by rw [e]⟩
set_option maxHeartbeats 4000000 in
theorem S_X12_isOwn {k : Nat} {P : Option Nat} {I : Nat → Nat → Int32} {J : Nat → Nat → Int64} {Q : Option AV → Mem → Prop} {r : List Nat} (h : ∀ c ∈ r, 97 ≤ c ∧ c ≤ 122) (hi : inL ((pkN r : Nat) : Int)) (hQ : ∀ z : Int, z = (if owI r = -1 then 0 else 1) → Q (some (vI z)) (mem (P, some 5, some 22) I J)) : WPm k LAY m_X12_isOwn [vR (some 74), vL ((pkN r : Nat) : Int)] (mem (P, some 5, some 22) I J) Q := by
  have hm := ownK_mem h
  refine WPm.of k_X12_isOwn.1 (Nat.le_of_ble_eq_true rfl) (B_X12_isOwn_0 (Nat.zero_le k) ⟨hi, ?_⟩)
  have h1 : ∀ a : Nat, ((pkN r : Nat) : Int) = (a : Int) → a ∈ ownK → Q (some (vI 1)) (mem (P, some 5, some 22) I J) := fun a e ha => hQ 1 (by rw [if_neg (hm.mp (by rw [show pkN r = a by omega]; exact ha))])
  have h0 : ¬ pkN r ∈ ownK → Q (some (vI 0)) (mem (P, some 5, some 22) I J) := fun hn => hQ 0 (by rw [if_pos (Classical.byContradiction (fun q => hn (hm.mpr q)))])
  generalize pkN r = x at *
  repeat' (first | refine And.intro ?_ ?_ | intro q)
  all_goals first
    | exact h1 1651470187 (by assumption) (by decide)
    | exact h1 1885431653 (by assumption) (by decide)
    | exact h1 28518 (by assumption) (by decide)
    | exact h1 465625310579 (by assumption) (by decide)
    | exact h1 6449511 (by assumption) (by decide)
    | exact h1 474147546227 (by assumption) (by decide)
    | exact h1 125779751232882 (by assumption) (by decide)
    | exact h1 1885430629 (by assumption) (by decide)
    | exact h1 1702454643 (by assumption) (by decide)
    | exact h1 499850046565 (by assumption) (by decide)
    | exact h1 431415715444 (by assumption) (by decide)
    | exact h1 1768842088 (by assumption) (by decide)
    | exact h1 422877228659 (by assumption) (by decide)
    | exact h1 499850634611 (by assumption) (by decide)
    | exact h1 499917810803 (by assumption) (by decide)
    | exact h1 482955849332 (by assumption) (by decide)
    | exact h1 461414299507 (by assumption) (by decide)
    | exact h1 32485571211914855 (by assumption) (by decide)
    | exact h1 474214787188 (by assumption) (by decide)
    | exact h1 28530 (by assumption) (by decide)
    | exact h1 6385252 (by assumption) (by decide)
    | exact h1 7237492 (by assumption) (by decide)
    | exact h1 6384748 (by assumption) (by decide)
    | exact h1 7170414 (by assumption) (by decide)
    | exact h1 7168376 (by assumption) (by decide)
    | (refine h0 ?_
       simp only [ownK, List.mem_cons, List.not_mem_nil, or_false, not_or]
       omega)
end LEXR

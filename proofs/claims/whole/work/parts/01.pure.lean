/-! MismatchCtl, pure rows: the cast to short, the low bit, indices, the xor of the first n cells -/
theorem mc_sx (a b : Int32) : (a ^^^ b).toInt16.toInt32 = a.toInt16.toInt32 ^^^ b.toInt16.toInt32 := by
  rw [Int32.toInt16_xor, Int16.toInt32_xor]
theorem mc_one : (1 : Int32).toInt16.toInt32 = 1 := by decide
theorem mc_s1 {c : Int32} (h : c.toInt16.toInt32 = c) : (c ^^^ 1).toInt16.toInt32 = c ^^^ 1 := by
  rw [mc_sx, h, mc_one]
theorem mc_nar {x : Int32} (h : x.toInt16.toInt32 = x) : vp_nar .short x.toInt16.toInt32 = x := by
  rw [vp_nar_short, h, h]
theorem mc_b1 : ∀ i, i < 32 → (1 : Int32).toBitVec.getLsbD i = decide (i = 0) := by decide +kernel
/-- an even number plus one is the number with its low bit turned -/
theorem mc_lo {c : Int32} (h : c &&& 1 = 0) : c + 1 = c ^^^ 1 := by
  apply Int32.toBitVec_inj.1
  have hb : c.toBitVec &&& (1 : Int32).toBitVec = 0#32 := by
    rw [← Int32.toBitVec_and, h]; rfl
  rw [Int32.toBitVec_add, Int32.toBitVec_xor, BitVec.add_eq_or_of_and_eq_zero _ _ hb]
  apply BitVec.eq_of_getLsbD_eq
  intro i hi
  have hz : (c.toBitVec &&& (1 : Int32).toBitVec).getLsbD i = false := by
    rw [hb]; exact BitVec.getLsbD_zero
  rw [BitVec.getLsbD_and] at hz
  rw [BitVec.getLsbD_or, BitVec.getLsbD_xor]
  revert hz
  generalize c.toBitVec.getLsbD i = p
  generalize (1 : Int32).toBitVec.getLsbD i = q
  cases p <;> cases q <;> decide
theorem mc_andz {c : Int32} (h : c.toBitVec.getLsbD 0 = false) : c &&& 1 = 0 := by
  apply Int32.toBitVec_inj.1
  rw [Int32.toBitVec_and]
  apply BitVec.eq_of_getLsbD_eq
  intro i hi
  rw [BitVec.getLsbD_and, mc_b1 i hi]
  show _ = (0#32).getLsbD i
  rw [BitVec.getLsbD_zero]
  by_cases e : i = 0
  · rw [e, h]; rfl
  · rw [decide_eq_false e, Bool.and_false]
/-- an odd number less one is the number with its low bit turned -/
theorem mc_hi {c : Int32} (h : ¬ c &&& 1 = 0) : c - 1 = c ^^^ 1 := by
  have k : (c ^^^ 1) &&& 1 = 0 := by
    apply mc_andz
    rw [Int32.toBitVec_xor, BitVec.getLsbD_xor, mc_b1 0 (by decide)]
    cases hb : c.toBitVec.getLsbD 0 with
    | false => exact absurd (mc_andz hb) h
    | true => rfl
  have e := mc_lo k
  rw [Int32.xor_assoc, Int32.xor_self, Int32.xor_zero] at e
  have d := Int32.add_sub_cancel (c ^^^ 1) 1
  rw [e] at d
  exact d
theorem mc_7 {x : Int32} (h : ¬ (8 : Int32) ≤ x) : x ≤ 7 := by
  rw [Int32.le_iff_toInt_le] at h ⊢
  have a : (8 : Int32).toInt = 8 := by decide
  have b : (7 : Int32).toInt = 7 := by decide
  omega
theorem mc_n7 {x : Int32} (h : (8 : Int32) ≤ x) : ¬ x ≤ 7 := by
  rw [Int32.le_iff_toInt_le] at h ⊢
  have a : (8 : Int32).toInt = 8 := by decide
  have b : (7 : Int32).toInt = 7 := by decide
  omega
theorem mc_in {x : Int32} (h0 : ¬ x < 0) (h8 : ¬ (8 : Int32) ≤ x) : vp_in x 8 := by
  rw [Int32.lt_iff_toInt_lt] at h0
  rw [Int32.le_iff_toInt_le] at h8
  have a : (8 : Int32).toInt = 8 := by decide
  have b : (0 : Int32).toInt = 0 := by decide
  rw [vp_in_iff]
  omega
theorem mc_ix {x : Int32} (h : vp_in x 8) : x.toNatClampNeg < 8 := by
  obtain ⟨j, hj, rfl⟩ := vp_in_of h (by omega)
  rw [nI_clamp (by omega)]
  exact hj
theorem mc_c7 : (7 : Int32).toNatClampNeg = 7 := by decide
theorem mc_in7 : vp_in 7 8 := vp_in_iff.mpr (by decide)
theorem mc_10 : ¬ (1 : Int32) = 0 := by decide
theorem mc_32 : ¬ (32 : Int32) = 0 := by decide
theorem mc_8 : nI 8 = 8 := by decide +kernel
/-- the xor of the first n cells -/
def mc_x (a : Nat → Int32) : Nat → Int32
  | 0 => 0
  | n + 1 => mc_x a n ^^^ a n
theorem mc_x_far {a : Nat → Int32} {i : Nat} {v : Int32} : ∀ n, n ≤ i → mc_x (upd a i v) n = mc_x a n := by
  intro n
  induction n with
  | zero => intro _; rfl
  | succ n ih =>
    intro h
    have e : upd a i v n = a n := if_neg (by omega)
    show mc_x (upd a i v) n ^^^ upd a i v n = mc_x a n ^^^ a n
    rw [ih (by omega), e]
theorem mc_x_upd {a : Nat → Int32} {i : Nat} {v : Int32} : ∀ n, i < n → mc_x (upd a i v) n = (mc_x a n ^^^ a i) ^^^ v := by
  intro n
  induction n with
  | zero => intro h; omega
  | succ n ih =>
    intro h
    show mc_x (upd a i v) n ^^^ upd a i v n = ((mc_x a n ^^^ a n) ^^^ a i) ^^^ v
    by_cases e : n = i
    · subst e
      have w : upd a n v n = v := if_pos rfl
      rw [mc_x_far n (by omega), w, Int32.xor_assoc (mc_x a n) (a n) (a n), Int32.xor_self, Int32.xor_zero]
    · have w : upd a i v n = a n := if_neg e
      rw [ih (by omega), w]
      ac_rfl
/-- every cell is a short -/
def mc_fit (a : Nat → Int32) : Prop := ∀ j, (a j).toInt16.toInt32 = a j
theorem mc_fit_upd {a : Nat → Int32} {i : Nat} {v : Int32} (h : mc_fit a) (hv : v.toInt16.toInt32 = v) : mc_fit (upd a i v) := by
  intro j
  by_cases e : j = i
  · have w : upd a i v j = v := if_pos e
    rw [w, hv]
  · have w : upd a i v j = a j := if_neg e
    rw [w, h j]

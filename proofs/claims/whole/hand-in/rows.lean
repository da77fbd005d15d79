section
/-! MismatchCtl, pure rows: the cast to short, the low bit, indices, the xor of the first n cells -/
theorem mc_sx (a b : Int32) : (a ^^^ b).toInt16.toInt32 = a.toInt16.toInt32 ^^^ b.toInt16.toInt32 := by
  rw [Int32.toInt16_xor, Int16.toInt32_xor]
theorem mc_one : (1 : Int32).toInt16.toInt32 = 1 := by decide
theorem mc_s1 {c : Int32} (h : c.toInt16.toInt32 = c) : (c ^^^ 1).toInt16.toInt32 = c ^^^ 1 := by
  rw [mc_sx, h, mc_one]
theorem mc_nar {x : Int32} (h : x.toInt16.toInt32 = x) : vp_nar .short x.toInt16.toInt32 = x := by
  rw [vp_nar_short, h, h]
theorem mc_b1 : ∀ i, i < 32 → (1 : Int32).toBitVec.getLsbD i = decide (i = 0) := by decide +kernel
/-- an even number plus one is the number with its low bit turned -/
theorem mc_lo {c : Int32} (h : c &&& 1 = 0) : c + 1 = c ^^^ 1 := by
  apply Int32.toBitVec_inj.1
  have hb : c.toBitVec &&& (1 : Int32).toBitVec = 0#32 := by
    rw [← Int32.toBitVec_and, h]; rfl
  rw [Int32.toBitVec_add, Int32.toBitVec_xor, BitVec.add_eq_or_of_and_eq_zero _ _ hb]
  apply BitVec.eq_of_getLsbD_eq
  intro i hi
  have hz : (c.toBitVec &&& (1 : Int32).toBitVec).getLsbD i = false := by
    rw [hb]; exact BitVec.getLsbD_zero
  rw [BitVec.getLsbD_and] at hz
  rw [BitVec.getLsbD_or, BitVec.getLsbD_xor]
  revert hz
  generalize c.toBitVec.getLsbD i = p
  generalize (1 : Int32).toBitVec.getLsbD i = q
  cases p <;> cases q <;> decide
theorem mc_andz {c : Int32} (h : c.toBitVec.getLsbD 0 = false) : c &&& 1 = 0 := by
  apply Int32.toBitVec_inj.1
  rw [Int32.toBitVec_and]
  apply BitVec.eq_of_getLsbD_eq
  intro i hi
  rw [BitVec.getLsbD_and, mc_b1 i hi]
  show _ = (0#32).getLsbD i
  rw [BitVec.getLsbD_zero]
  by_cases e : i = 0
  · rw [e, h]; rfl
  · rw [decide_eq_false e, Bool.and_false]
/-- an odd number less one is the number with its low bit turned -/
theorem mc_hi {c : Int32} (h : ¬ c &&& 1 = 0) : c - 1 = c ^^^ 1 := by
  have k : (c ^^^ 1) &&& 1 = 0 := by
    apply mc_andz
    rw [Int32.toBitVec_xor, BitVec.getLsbD_xor, mc_b1 0 (by decide)]
    cases hb : c.toBitVec.getLsbD 0 with
    | false => exact absurd (mc_andz hb) h
    | true => rfl
  have e := mc_lo k
  rw [Int32.xor_assoc, Int32.xor_self, Int32.xor_zero] at e
  have d := Int32.add_sub_cancel (c ^^^ 1) 1
  rw [e] at d
  exact d
theorem mc_7 {x : Int32} (h : ¬ (8 : Int32) ≤ x) : x ≤ 7 := by
  rw [Int32.le_iff_toInt_le] at h ⊢
  have a : (8 : Int32).toInt = 8 := by decide
  have b : (7 : Int32).toInt = 7 := by decide
  omega
theorem mc_n7 {x : Int32} (h : (8 : Int32) ≤ x) : ¬ x ≤ 7 := by
  rw [Int32.le_iff_toInt_le] at h ⊢
  have a : (8 : Int32).toInt = 8 := by decide
  have b : (7 : Int32).toInt = 7 := by decide
  omega
theorem mc_in {x : Int32} (h0 : ¬ x < 0) (h8 : ¬ (8 : Int32) ≤ x) : vp_in x 8 := by
  rw [Int32.lt_iff_toInt_lt] at h0
  rw [Int32.le_iff_toInt_le] at h8
  have a : (8 : Int32).toInt = 8 := by decide
  have b : (0 : Int32).toInt = 0 := by decide
  rw [vp_in_iff]
  omega
theorem mc_ix {x : Int32} (h : vp_in x 8) : x.toNatClampNeg < 8 := by
  obtain ⟨j, hj, rfl⟩ := vp_in_of h (by omega)
  rw [nI_clamp (by omega)]
  exact hj
theorem mc_c7 : (7 : Int32).toNatClampNeg = 7 := by decide
theorem mc_in7 : vp_in 7 8 := vp_in_iff.mpr (by decide)
theorem mc_10 : ¬ (1 : Int32) = 0 := by decide
theorem mc_32 : ¬ (32 : Int32) = 0 := by decide
theorem mc_8 : nI 8 = 8 := by decide +kernel
/-- the xor of the first n cells -/
def mc_x (a : Nat → Int32) : Nat → Int32
  | 0 => 0
  | n + 1 => mc_x a n ^^^ a n
theorem mc_x_far {a : Nat → Int32} {i : Nat} {v : Int32} : ∀ n, n ≤ i → mc_x (upd a i v) n = mc_x a n := by
  intro n
  induction n with
  | zero => intro _; rfl
  | succ n ih =>
    intro h
    have e : upd a i v n = a n := if_neg (by omega)
    show mc_x (upd a i v) n ^^^ upd a i v n = mc_x a n ^^^ a n
    rw [ih (by omega), e]
theorem mc_x_upd {a : Nat → Int32} {i : Nat} {v : Int32} : ∀ n, i < n → mc_x (upd a i v) n = (mc_x a n ^^^ a i) ^^^ v := by
  intro n
  induction n with
  | zero => intro h; omega
  | succ n ih =>
    intro h
    show mc_x (upd a i v) n ^^^ upd a i v n = ((mc_x a n ^^^ a n) ^^^ a i) ^^^ v
    by_cases e : n = i
    · subst e
      have w : upd a n v n = v := if_pos rfl
      rw [mc_x_far n (by omega), w, Int32.xor_assoc (mc_x a n) (a n) (a n), Int32.xor_self, Int32.xor_zero]
    · have w : upd a i v n = a n := if_neg e
      rw [ih (by omega), w]
      ac_rfl
/-- every cell is a short -/
def mc_fit (a : Nat → Int32) : Prop := ∀ j, (a j).toInt16.toInt32 = a j
theorem mc_fit_upd {a : Nat → Int32} {i : Nat} {v : Int32} (h : mc_fit a) (hv : v.toInt16.toInt32 = v) : mc_fit (upd a i v) := by
  intro j
  by_cases e : j = i
  · have w : upd a i v j = v := if_pos e
    rw [w, hv]
  · have w : upd a i v j = a j := if_neg e
    rw [w, h j]
end
section
/-! MismatchCtl: the relation, the private methods and the reference's loop over a general post -/
/-- both sides hold the same cells, every cell is a short, and the field beside them is the xor of the eight -/
def i_Rel (_ : Nat) (u : SX) (v : SY) : Prop := u = (mc_x v 8, v) ∧ mc_fit v
theorem mc_rel {k : Nat} {a : Nat → Int32} {i : Int32} {r : Int32} (hf : mc_fit a) (hi : vp_in i 8) (hr : r.toInt16.toInt32 = r) : i_Rel k ((mc_x a 8 ^^^ a i.toNatClampNeg) ^^^ r, upd a i.toNatClampNeg (vp_nar .short r.toInt16.toInt32)) (upd a i.toNatClampNeg (vp_nar .short r.toInt16.toInt32)) := by
  rw [mc_nar hr]
  refine ⟨?_, mc_fit_upd hf hr⟩
  rw [mc_x_upd 8 (mc_ix hi)]
theorem mc_store {post : SX → Prop} {x : Int32} {a : Nat → Int32} {i v : Int32} (hi : vp_in i 8) (h : post ((x ^^^ a i.toNatClampNeg) ^^^ v, upd a i.toNatClampNeg (vp_nar .short v.toInt16.toInt32))) : wpX_store post (x, a) i v :=
  ⟨hi, nm_e ⟨hi, nm_e h⟩⟩
theorem mc_loop {a : Nat → Int32} {post : Int32 → Prop} (h : post (mc_x a 8)) : ∀ d j : Nat, j + d = 8 → wY_sum_4 post a (d + 1) (mc_x a j) (nI j) := by
  intro d
  induction d with
  | zero =>
    intro j hj
    have e : j = 8 := by omega
    subst e
    exact br_t (by rw [mc_8]; decide) h
  | succ d ih =>
    intro j hj
    have h8 : ¬ (8 : Int32) ≤ nI j := by rw [← mc_8]; exact nI_ge (by omega) (by omega)
    have hi : vp_in (nI j) 8 := vp_in_nI (by omega) (by omega)
    refine br_f h8 ⟨hi, fun x ex y ey => ?_⟩
    rw [ex, ey, nI_1, nI_clamp (by omega)]
    exact ih (j + 1) (by omega)
theorem mc_sum {a : Nat → Int32} {post : Int32 → Prop} (h : post (mc_x a 8)) : wpY_sum post a :=
  ⟨9, mc_loop h 8 0 rfl⟩
/-- saturating: one value for both sides, and it is a short -/
theorem mc_sat (x : Int32) : ∃ r : Int32, r.toInt16.toInt32 = r ∧ (∀ post : Int32 → Prop, post r → wpX_saturate post x) ∧ (∀ (post : Int32 → SY → Prop) (x1 : Int32) (a : Nat → Int32), wY_dequant_87 post x1 r a → ((x ≤ 2047 → wY_dequant_74 post x1 x a) ∧ (¬ x ≤ 2047 → wY_dequant_74 post x1 2047 a))) := by
  by_cases h : x ≤ 2047
  · by_cases g : (-2048) ≤ x
    · refine ⟨x, ?_, fun post hp => br_t h (br_t g hp), fun post x1 a hp => br_t h (br_t g hp)⟩
      have h' := h
      have g' := g
      rw [Int32.le_iff_toInt_le] at h' g'
      have e1 : (2047 : Int32).toInt = 2047 := by decide
      have e2 : (-2048 : Int32).toInt = -2048 := by decide
      exact lg_i2s_small (by omega) (by omega)
    · exact ⟨-2048, by decide, fun post hp => br_t h (br_f g hp), fun post x1 a hp => br_t h (br_f g hp)⟩
  · exact ⟨2047, by decide, fun post hp => br_f h hp, fun post x1 a hp => br_f h (br_t (by decide) hp)⟩
/-- the product: one value for both sides, whatever the level's sign -/
theorem mc_rec (l w s : Int32) : ∃ q : Int32, (∀ post : Int32 → Prop, post q → wpX_reconstruct post l (w &&& 255) (s &&& 31)) ∧ (∀ (post : Int32 → SY → Prop) (x1 : Int32) (a : Nat → Int32), ((q ≤ 2047 → wY_dequant_74 post x1 q a) ∧ (¬ q ≤ 2047 → wY_dequant_74 post x1 2047 a)) → ((l ≤ 0 → wY_dequant_29 post x1 w s l 0 a) ∧ (¬ l ≤ 0 → wY_dequant_29 post x1 w s l 1 a))) := by
  by_cases h : l ≤ 0
  · by_cases g : 0 ≤ l
    · exact ⟨_, fun post hp => br_t h (br_t g ⟨mc_32, hp⟩), fun post x1 a hp => br_t h (br_t g ⟨mc_32, nm_e hp⟩)⟩
    · exact ⟨_, fun post hp => br_t h (br_f g ⟨mc_32, hp⟩), fun post x1 a hp => br_t h (br_f g ⟨mc_32, nm_e hp⟩)⟩
  · have g : 0 ≤ l := by
      rw [Int32.le_iff_toInt_le] at h ⊢
      omega
    exact ⟨_, fun post hp => br_f h ⟨mc_32, hp⟩, fun post x1 a hp => br_f h (br_t g ⟨mc_32, nm_e hp⟩)⟩
end
section
/-! MismatchCtl: what is owed -/
theorem i_up {k : Nat} {u : SX} {v : SY} (h : i_Rel k u v) : i_Rel (k + 5) u v := h
theorem i_vc0 : wpX_init (fun u => wpY_init (fun v => i_Rel 0 u v)) := by
  have e : mc_x (fun _ => 0) 8 = 0 := by decide
  exact ⟨Prod.ext e.symm rfl, fun _ => (by decide : (0 : Int32).toInt16.toInt32 = 0)⟩
theorem i_vc_dequant {k : Nat} {u : SX} {v : SY} (I : i_Rel k u v) (hk : k + 5 ≤ 2560) (v1 : Int32) (v2 : Int32) (v3 : Int32) (v4 : Int32) : wpX_dequant (fun r u' => wpY_dequant (fun r' v' => r' = r ∧ i_Rel (k + 5) u' v') v v1 v2 v3 v4) u v1 v2 v3 v4 := by
  obtain ⟨rfl, hf⟩ := I
  unfold wpX_dequant
  dsimp only
  by_cases h0 : v1 < 0
  · exact br_t h0 (br_t rfl (br_t h0 ⟨rfl, rfl, hf⟩))
  · by_cases h8 : (8 : Int32) ≤ v1
    · exact br_f h0 (br_t h8 (br_t rfl (br_f h0 (br_f (mc_n7 h8) ⟨rfl, rfl, hf⟩))))
    · have hi := mc_in h0 h8
      have h7 := mc_7 h8
      obtain ⟨q, qX, qY⟩ := mc_rec v2.toInt16.toInt32 v3 v4
      obtain ⟨r, hr, rX, rY⟩ := mc_sat q
      refine br_f h0 (br_f h8 (br_f mc_10 ?_))
      refine qX _ ?_
      refine rX _ ?_
      refine mc_store hi ?_
      refine br_f h0 (br_t h7 ?_)
      refine qY _ _ _ ?_
      refine rY _ _ _ ?_
      exact ⟨hi, nm_e ⟨hr, mc_rel hf hi hr⟩⟩
theorem i_vc_close {k : Nat} {u : SX} {v : SY} (I : i_Rel k u v) (hk : k + 5 ≤ 2560) : wpX_close (fun r u' => wpY_close (fun r' v' => r' = r ∧ i_Rel (k + 5) u' v') v) u := by
  obtain ⟨rfl, hf⟩ := I
  unfold wpX_close
  dsimp only
  by_cases hz : mc_x v 8 &&& 1 = 0
  · refine br_t hz ?_
    refine mc_store mc_in7 ?_
    have R := mc_rel (k := k + 5) hf mc_in7 (mc_s1 (hf 7))
    rw [mc_c7] at R ⊢
    dsimp only
    unfold wpY_close
    refine mc_sum ?_
    refine br_t hz ?_
    by_cases hb : v 7 &&& 1 = 0
    · refine br_t hb ?_
      rw [mc_lo hb]
      exact nm_e ⟨rfl, R⟩
    · refine br_f hb ?_
      rw [mc_hi hb]
      exact nm_e ⟨rfl, R⟩
  · refine br_f hz ?_
    unfold wpY_close
    refine mc_sum ?_
    exact br_f hz ⟨rfl, rfl, hf⟩
theorem i_vc_coefAt {k : Nat} {u : SX} {v : SY} (I : i_Rel k u v) (hk : k + 5 ≤ 2560) (v1 : Int32) : wpX_coefAt (fun r => wpY_coefAt (fun r' => r' = r ∧ i_Rel (k + 5) u v) v v1) u v1 := by
  obtain ⟨rfl, hf⟩ := I
  unfold wpX_coefAt
  dsimp only
  by_cases h0 : v1 < 0
  · exact br_t h0 (br_t rfl (br_t h0 ⟨rfl, rfl, hf⟩))
  · by_cases h8 : (8 : Int32) ≤ v1
    · exact br_f h0 (br_t h8 (br_t rfl (br_f h0 (br_f (mc_n7 h8) ⟨rfl, rfl, hf⟩))))
    · have hi := mc_in h0 h8
      have h7 := mc_7 h8
      exact br_f h0 (br_f h8 (br_f mc_10 ⟨hi, br_f h0 (br_t h7 ⟨hi, rfl, rfl, hf⟩)⟩))
theorem i_vc_sum {k : Nat} {u : SX} {v : SY} (I : i_Rel k u v) (hk : k + 5 ≤ 2560) : wpX_sum (fun r => wpY_sum (fun r' => r' = r ∧ i_Rel (k + 5) u v) v) u := by
  obtain ⟨rfl, hf⟩ := I
  unfold wpX_sum
  dsimp only
  exact mc_sum ⟨rfl, rfl, hf⟩
end

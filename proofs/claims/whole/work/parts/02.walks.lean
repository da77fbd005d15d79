/-! MismatchCtl: the relation, the private methods and the reference's loop over a general post -/
/-- both sides hold the same cells, every cell is a short, and the field beside them is the xor of the eight -/
def i_Rel (_ : Nat) (u : SX) (v : SY) : Prop := u = (mc_x v 8, v) ∧ mc_fit v
theorem mc_rel {k : Nat} {a : Nat → Int32} {i : Int32} {r : Int32} (hf : mc_fit a) (hi : vp_in i 8) (hr : r.toInt16.toInt32 = r) : i_Rel k ((mc_x a 8 ^^^ a i.toNatClampNeg) ^^^ r, upd a i.toNatClampNeg (vp_nar .short r.toInt16.toInt32)) (upd a i.toNatClampNeg (vp_nar .short r.toInt16.toInt32)) := by
  rw [mc_nar hr]
  refine ⟨?_, mc_fit_upd hf hr⟩
  rw [mc_x_upd 8 (mc_ix hi)]
theorem mc_store {post : SX → Prop} {x : Int32} {a : Nat → Int32} {i v : Int32} (hi : vp_in i 8) (h : post ((x ^^^ a i.toNatClampNeg) ^^^ v, upd a i.toNatClampNeg (vp_nar .short v.toInt16.toInt32))) : wpX_store post (x, a) i v :=
  ⟨hi, nm_e ⟨hi, nm_e h⟩⟩
theorem mc_loop {a : Nat → Int32} {post : Int32 → Prop} (h : post (mc_x a 8)) : ∀ d j : Nat, j + d = 8 → wY_sum_4 post a (d + 1) (mc_x a j) (nI j) := by
  intro d
  induction d with
  | zero =>
    intro j hj
    have e : j = 8 := by omega
    subst e
    exact br_t (by rw [mc_8]; decide) h
  | succ d ih =>
    intro j hj
    have h8 : ¬ (8 : Int32) ≤ nI j := by rw [← mc_8]; exact nI_ge (by omega) (by omega)
    have hi : vp_in (nI j) 8 := vp_in_nI (by omega) (by omega)
    refine br_f h8 ⟨hi, fun x ex y ey => ?_⟩
    rw [ex, ey, nI_1, nI_clamp (by omega)]
    exact ih (j + 1) (by omega)
theorem mc_sum {a : Nat → Int32} {post : Int32 → Prop} (h : post (mc_x a 8)) : wpY_sum post a :=
  ⟨9, mc_loop h 8 0 rfl⟩
/-- saturating: one value for both sides, and it is a short -/
theorem mc_sat (x : Int32) : ∃ r : Int32, r.toInt16.toInt32 = r ∧ (∀ post : Int32 → Prop, post r → wpX_saturate post x) ∧ (∀ (post : Int32 → SY → Prop) (x1 : Int32) (a : Nat → Int32), wY_dequant_87 post x1 r a → ((x ≤ 2047 → wY_dequant_74 post x1 x a) ∧ (¬ x ≤ 2047 → wY_dequant_74 post x1 2047 a))) := by
  by_cases h : x ≤ 2047
  · by_cases g : (-2048) ≤ x
    · refine ⟨x, ?_, fun post hp => br_t h (br_t g hp), fun post x1 a hp => br_t h (br_t g hp)⟩
      have h' := h
      have g' := g
      rw [Int32.le_iff_toInt_le] at h' g'
      have e1 : (2047 : Int32).toInt = 2047 := by decide
      have e2 : (-2048 : Int32).toInt = -2048 := by decide
      exact lg_i2s_small (by omega) (by omega)
    · exact ⟨-2048, by decide, fun post hp => br_t h (br_f g hp), fun post x1 a hp => br_t h (br_f g hp)⟩
  · exact ⟨2047, by decide, fun post hp => br_f h hp, fun post x1 a hp => br_f h (br_t (by decide) hp)⟩
/-- the product: one value for both sides, whatever the level's sign -/
theorem mc_rec (l w s : Int32) : ∃ q : Int32, (∀ post : Int32 → Prop, post q → wpX_reconstruct post l (w &&& 255) (s &&& 31)) ∧ (∀ (post : Int32 → SY → Prop) (x1 : Int32) (a : Nat → Int32), ((q ≤ 2047 → wY_dequant_74 post x1 q a) ∧ (¬ q ≤ 2047 → wY_dequant_74 post x1 2047 a)) → ((l ≤ 0 → wY_dequant_29 post x1 w s l 0 a) ∧ (¬ l ≤ 0 → wY_dequant_29 post x1 w s l 1 a))) := by
  by_cases h : l ≤ 0
  · by_cases g : 0 ≤ l
    · exact ⟨_, fun post hp => br_t h (br_t g ⟨mc_32, hp⟩), fun post x1 a hp => br_t h (br_t g ⟨mc_32, nm_e hp⟩)⟩
    · exact ⟨_, fun post hp => br_t h (br_f g ⟨mc_32, hp⟩), fun post x1 a hp => br_t h (br_f g ⟨mc_32, nm_e hp⟩)⟩
  · have g : 0 ≤ l := by
      rw [Int32.le_iff_toInt_le] at h ⊢
      omega
    exact ⟨_, fun post hp => br_f h ⟨mc_32, hp⟩, fun post x1 a hp => br_f h (br_t g ⟨mc_32, nm_e hp⟩)⟩

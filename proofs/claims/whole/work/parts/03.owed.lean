/-! MismatchCtl: what is owed -/
theorem i_up {k : Nat} {u : SX} {v : SY} (h : i_Rel k u v) : i_Rel (k + 5) u v := h
theorem i_vc0 : wpX_init (fun u => wpY_init (fun v => i_Rel 0 u v)) := by
  have e : mc_x (fun _ => 0) 8 = 0 := by decide
  exact ⟨Prod.ext e.symm rfl, fun _ => (by decide : (0 : Int32).toInt16.toInt32 = 0)⟩
theorem i_vc_dequant {k : Nat} {u : SX} {v : SY} (I : i_Rel k u v) (hk : k + 5 ≤ 2560) (v1 : Int32) (v2 : Int32) (v3 : Int32) (v4 : Int32) : wpX_dequant (fun r u' => wpY_dequant (fun r' v' => r' = r ∧ i_Rel (k + 5) u' v') v v1 v2 v3 v4) u v1 v2 v3 v4 := by
  obtain ⟨rfl, hf⟩ := I
  unfold wpX_dequant
  dsimp only
  by_cases h0 : v1 < 0
  · exact br_t h0 (br_t rfl (br_t h0 ⟨rfl, rfl, hf⟩))
  · by_cases h8 : (8 : Int32) ≤ v1
    · exact br_f h0 (br_t h8 (br_t rfl (br_f h0 (br_f (mc_n7 h8) ⟨rfl, rfl, hf⟩))))
    · have hi := mc_in h0 h8
      have h7 := mc_7 h8
      obtain ⟨q, qX, qY⟩ := mc_rec v2.toInt16.toInt32 v3 v4
      obtain ⟨r, hr, rX, rY⟩ := mc_sat q
      refine br_f h0 (br_f h8 (br_f mc_10 ?_))
      refine qX _ ?_
      refine rX _ ?_
      refine mc_store hi ?_
      refine br_f h0 (br_t h7 ?_)
      refine qY _ _ _ ?_
      refine rY _ _ _ ?_
      exact ⟨hi, nm_e ⟨hr, mc_rel hf hi hr⟩⟩
theorem i_vc_close {k : Nat} {u : SX} {v : SY} (I : i_Rel k u v) (hk : k + 5 ≤ 2560) : wpX_close (fun r u' => wpY_close (fun r' v' => r' = r ∧ i_Rel (k + 5) u' v') v) u := by
  obtain ⟨rfl, hf⟩ := I
  unfold wpX_close
  dsimp only
  by_cases hz : mc_x v 8 &&& 1 = 0
  · refine br_t hz ?_
    refine mc_store mc_in7 ?_
    have R := mc_rel (k := k + 5) hf mc_in7 (mc_s1 (hf 7))
    rw [mc_c7] at R ⊢
    dsimp only
    unfold wpY_close
    refine mc_sum ?_
    refine br_t hz ?_
    by_cases hb : v 7 &&& 1 = 0
    · refine br_t hb ?_
      rw [mc_lo hb]
      exact nm_e ⟨rfl, R⟩
    · refine br_f hb ?_
      rw [mc_hi hb]
      exact nm_e ⟨rfl, R⟩
  · refine br_f hz ?_
    unfold wpY_close
    refine mc_sum ?_
    exact br_f hz ⟨rfl, rfl, hf⟩
theorem i_vc_coefAt {k : Nat} {u : SX} {v : SY} (I : i_Rel k u v) (hk : k + 5 ≤ 2560) (v1 : Int32) : wpX_coefAt (fun r => wpY_coefAt (fun r' => r' = r ∧ i_Rel (k + 5) u v) v v1) u v1 := by
  obtain ⟨rfl, hf⟩ := I
  unfold wpX_coefAt
  dsimp only
  by_cases h0 : v1 < 0
  · exact br_t h0 (br_t rfl (br_t h0 ⟨rfl, rfl, hf⟩))
  · by_cases h8 : (8 : Int32) ≤ v1
    · exact br_f h0 (br_t h8 (br_t rfl (br_f h0 (br_f (mc_n7 h8) ⟨rfl, rfl, hf⟩))))
    · have hi := mc_in h0 h8
      have h7 := mc_7 h8
      exact br_f h0 (br_f h8 (br_f mc_10 ⟨hi, br_f h0 (br_t h7 ⟨hi, rfl, rfl, hf⟩)⟩))
theorem i_vc_sum {k : Nat} {u : SX} {v : SY} (I : i_Rel k u v) (hk : k + 5 ≤ 2560) : wpX_sum (fun r => wpY_sum (fun r' => r' = r ∧ i_Rel (k + 5) u v) v) u := by
  obtain ⟨rfl, hf⟩ := I
  unfold wpX_sum
  dsimp only
  exact mc_sum ⟨rfl, rfl, hf⟩

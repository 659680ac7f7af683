theorem i_vc_frameOf {k : Nat} {u : SX} {v : SY} (I : i_Rel k u v) (hk : k + 4 ≤ 2048) (v1 : Int32) : wpX_frameOf (fun r => wpY_frameOf (fun r' => r' = r ∧ i_Rel (k + 4) u v) v v1) u v1 := by
  have J := i_up I
  obtain ⟨c, w, f, e, m, us, di, rfl, rfl, hf, hm⟩ := I
  unfold wpX_frameOf wpY_frameOf; dsimp only
  by_cases hp : vp_in v1 16
  · exact vi_pX1 hp (br_f vi_ne ⟨hp, vi_pY1 hp (br_f vi_ne ⟨hp, rfl, J⟩)⟩)
  · exact vi_pX0 hp (br_t rfl (vi_pY0 hp (br_t rfl ⟨rfl, J⟩)))

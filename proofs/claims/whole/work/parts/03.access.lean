theorem vi_a1 : ¬ (-1 : Int32) = 0 := by decide
theorem vi_a2 : ¬ (-2 : Int32) = 0 := by decide
theorem vi_a3 : ¬ (-3 : Int32) = 0 := by decide
section
variable {post : Int32 → Prop} {c : Int32} {w f e m : Nat → Int32} {p q : Int32}
theorem vi_rp (hp : ¬ vp_in p 16) (a : post (-1)) : wpX_loadRefusal post (c, w, f, e, m) p q := by
  unfold wpX_loadRefusal; dsimp only
  exact vi_pX0 hp (br_t rfl a)
theorem vi_rq (hp : vp_in p 16) (hq : ¬ vp_in q 8) (a : post (-1)) : wpX_loadRefusal post (c, w, f, e, m) p q := by
  unfold wpX_loadRefusal; dsimp only
  exact vi_pX1 hp (br_f vi_ne (vi_wX0 hq (br_t rfl a)))
theorem vi_ru (hp : vp_in p 16) (hq : vp_in q 8) (z : f p.toNatClampNeg = -2) (a : post (-2)) : wpX_loadRefusal post (c, w, f, e, m) p q := by
  unfold wpX_loadRefusal; dsimp only
  exact vi_pX1 hp (br_f vi_ne (vi_wX1 hq (br_f vi_ne ⟨hp, vi_fX0 (vi_Fu z) (br_t rfl a)⟩)))
theorem vi_r0 (hp : vp_in p 16) (hq : vp_in q 8) (z : vp_in (f p.toNatClampNeg) 8) (a : post 0) : wpX_loadRefusal post (c, w, f, e, m) p q := by
  unfold wpX_loadRefusal; dsimp only
  exact vi_pX1 hp (br_f vi_ne (vi_wX1 hq (br_f vi_ne ⟨hp, vi_fX1 z (br_f vi_ne a)⟩)))
theorem vi_sp (hp : ¬ vp_in p 16) (a : post (-1)) : wpX_storeRefusal post (c, w, f, e, m) p q := by
  unfold wpX_storeRefusal; dsimp only
  exact vi_rp hp (br_f vi_a1 a)
theorem vi_sq (hp : vp_in p 16) (hq : ¬ vp_in q 8) (a : post (-1)) : wpX_storeRefusal post (c, w, f, e, m) p q := by
  unfold wpX_storeRefusal; dsimp only
  exact vi_rq hp hq (br_f vi_a1 a)
theorem vi_su (hp : vp_in p 16) (hq : vp_in q 8) (z : f p.toNatClampNeg = -2) (a : post (-2)) : wpX_storeRefusal post (c, w, f, e, m) p q := by
  unfold wpX_storeRefusal; dsimp only
  exact vi_ru hp hq z (br_f vi_a2 a)
theorem vi_sr (hp : vp_in p 16) (hq : vp_in q 8) (z : vp_in (f p.toNatClampNeg) 8) (y : e p.toNatClampNeg = 0) (a : post (-3)) : wpX_storeRefusal post (c, w, f, e, m) p q := by
  unfold wpX_storeRefusal; dsimp only
  exact vi_r0 hp hq z (br_t rfl ⟨hp, br_t y a⟩)
theorem vi_s0 (hp : vp_in p 16) (hq : vp_in q 8) (z : vp_in (f p.toNatClampNeg) 8) (y : ¬ e p.toNatClampNeg = 0) (a : post 0) : wpX_storeRefusal post (c, w, f, e, m) p q := by
  unfold wpX_storeRefusal; dsimp only
  exact vi_r0 hp hq z (br_t rfl ⟨hp, br_f y a⟩)
end
section
variable {post : Int32 → SX → Prop} {c : Int32} {w f e m : Nat → Int32} {p q x : Int32}
theorem vi_ex (hp : vp_in p 16) (hq : vp_in q 8) (z : vp_in (f p.toNatClampNeg) 8)
    (a : post (w (8 * f p.toNatClampNeg + q).toNatClampNeg) (c, upd w (8 * f p.toNatClampNeg + q).toNatClampNeg x, f, e, upd m p.toNatClampNeg (m p.toNatClampNeg ||| 3))) :
    wpX_exchange post (c, w, f, e, m) p q x := by
  unfold wpX_exchange wpX_place; dsimp only; rw [vi_pl]
  exact ⟨hp, vi_at z hq, nm_e ⟨vi_at z hq, nm_e ⟨hp, hp, nm_e a⟩⟩⟩
end
section
variable {post : Int32 → SY → Prop} {c : Int32} {w f e us di : Nat → Int32} {p q : Int32}
theorem vi_mp (hp : ¬ vp_in p 16) (a : post 0 (-1, w, f, e, us, di)) : wpY_mayStore post (c, w, f, e, us, di) p q := by
  unfold wpY_mayStore wY_mayStore_17 wY_mayStore_52 wY_mayStore_76; dsimp only
  exact vi_pY0 hp (br_t rfl (br_f vi_a1 (br_f vi_a1 a)))
theorem vi_mq (hp : vp_in p 16) (hq : ¬ vp_in q 8) (a : post 0 (-1, w, f, e, us, di)) : wpY_mayStore post (c, w, f, e, us, di) p q := by
  unfold wpY_mayStore wY_mayStore_17 wY_mayStore_52 wY_mayStore_76; dsimp only
  exact vi_pY1 hp (br_f vi_ne (vi_nY0 hq (br_t rfl (br_f vi_a1 (br_f vi_a1 a)))))
theorem vi_mu (hp : vp_in p 16) (hq : vp_in q 8) (z : f p.toNatClampNeg = -2) (a : post 0 (-2, w, f, e, us, di)) : wpY_mayStore post (c, w, f, e, us, di) p q := by
  unfold wpY_mayStore wY_mayStore_17 wY_mayStore_52 wY_mayStore_76; dsimp only
  exact vi_pY1 hp (br_f vi_ne (vi_nY1 hq (br_f vi_ne ⟨hp, br_t z (br_f vi_a2 (br_f vi_a2 a))⟩)))
theorem vi_mr (hp : vp_in p 16) (hq : vp_in q 8) (z : ¬ f p.toNatClampNeg = -2) (y : e p.toNatClampNeg = 0) (a : post 0 (-3, w, f, e, us, di)) : wpY_mayStore post (c, w, f, e, us, di) p q := by
  unfold wpY_mayStore wY_mayStore_17 wY_mayStore_52 wY_mayStore_76; dsimp only
  exact vi_pY1 hp (br_f vi_ne (vi_nY1 hq (br_f vi_ne ⟨hp, br_f z ⟨hp, br_t y (br_f vi_a3 (br_f vi_a3 a))⟩⟩)))
theorem vi_m0 (hp : vp_in p 16) (hq : vp_in q 8) (z : ¬ f p.toNatClampNeg = -2) (y : ¬ e p.toNatClampNeg = 0)
    (a : post 1 (0, w, f, e, upd us p.toNatClampNeg (vp_nar .boolean 1), upd di p.toNatClampNeg (vp_nar .boolean 1))) : wpY_mayStore post (c, w, f, e, us, di) p q := by
  unfold wpY_mayStore wY_mayStore_17 wY_mayStore_52 wY_mayStore_76; dsimp only
  exact vi_pY1 hp (br_f vi_ne (vi_nY1 hq (br_f vi_ne ⟨hp, br_f z ⟨hp, br_f y (br_t rfl ⟨hp, nm_e ⟨hp, nm_e (br_t rfl a)⟩⟩)⟩⟩)))
end
theorem i_vc_load {k : Nat} {u : SX} {v : SY} (I : i_Rel k u v) (hk : k + 4 ≤ 2048) (v1 : Int32) (v2 : Int32) : wpX_load (fun r u' => wpY_load (fun r' v' => r' = r ∧ i_Rel (k + 4) u' v') v v1 v2) u v1 v2 := by
  obtain ⟨c, w, f, e, m, us, di, rfl, rfl, hf, hm⟩ := I
  unfold wpX_load wpY_load wY_load_17 wY_load_38 wpX_place; dsimp only; rw [vi_pl]
  by_cases hp : vp_in v1 16
  · by_cases hq : vp_in v2 8
    · by_cases z : f v1.toNatClampNeg = -2
      · exact vi_ru hp hq z (br_f vi_a2 (vi_pY1 hp (br_f vi_ne (vi_nY1 hq (br_f vi_ne ⟨hp, br_t z (br_f vi_a2 ⟨rfl, vi_mk _ _ _ _ _ _ _ _ hf hm⟩)⟩)))))
      · have hz := vi_Fn (hf _) z
        refine vi_r0 hp hq hz (br_t rfl ⟨hp, hp, nm_e ⟨hp, vi_at hz hq, ?_⟩⟩)
        refine vi_pY1 hp (br_f vi_ne (vi_nY1 hq (br_f vi_ne ⟨hp, br_f z (br_t rfl ⟨hp, nm_e ⟨hp, vi_at hz hq, rfl, ?_⟩⟩)⟩)))
        exact vi_mk _ _ _ _ _ _ _ _ hf (vi_u2 hm (vi_M1 (hm _)))
    · exact vi_rq hp hq (br_f vi_a1 (vi_pY1 hp (br_f vi_ne (vi_nY0 hq (br_t rfl (br_f vi_a1 ⟨rfl, vi_mk _ _ _ _ _ _ _ _ hf hm⟩))))))
  · exact vi_rp hp (br_f vi_a1 (vi_pY0 hp (br_t rfl (br_f vi_a1 ⟨rfl, vi_mk _ _ _ _ _ _ _ _ hf hm⟩))))
theorem i_vc_store {k : Nat} {u : SX} {v : SY} (I : i_Rel k u v) (hk : k + 4 ≤ 2048) (v1 : Int32) (v2 : Int32) (v3 : Int32) : wpX_store (fun r u' => wpY_store (fun r' v' => r' = r ∧ i_Rel (k + 4) u' v') v v1 v2 v3) u v1 v2 v3 := by
  obtain ⟨c, w, f, e, m, us, di, rfl, rfl, hf, hm⟩ := I
  unfold wpX_store wpY_store; dsimp only
  by_cases hp : vp_in v1 16
  · by_cases hq : vp_in v2 8
    · by_cases z : f v1.toNatClampNeg = -2
      · exact vi_su hp hq z (br_f vi_a2 (vi_mu hp hq z (br_t rfl ⟨rfl, vi_mk _ _ _ _ _ _ _ _ hf hm⟩)))
      · have hz := vi_Fn (hf _) z
        by_cases y : e v1.toNatClampNeg = 0
        · exact vi_sr hp hq hz y (br_f vi_a3 (vi_mr hp hq z y (br_t rfl ⟨rfl, vi_mk _ _ _ _ _ _ _ _ hf hm⟩)))
        · refine vi_s0 hp hq hz y (br_t rfl (vi_ex hp hq hz ?_))
          refine vi_m0 hp hq z y (br_f vi_ne ⟨hp, vi_at hz hq, nm_e ⟨rfl, ?_⟩⟩)
          exact vi_mk _ _ _ _ _ _ _ _ hf (vi_u3 hm (vi_M3 (hm _)))
    · exact vi_sq hp hq (br_f vi_a1 (vi_mq hp hq (br_t rfl ⟨rfl, vi_mk _ _ _ _ _ _ _ _ hf hm⟩)))
  · exact vi_sp hp (br_f vi_a1 (vi_mp hp (br_t rfl ⟨rfl, vi_mk _ _ _ _ _ _ _ _ hf hm⟩)))
theorem i_vc_trade {k : Nat} {u : SX} {v : SY} (I : i_Rel k u v) (hk : k + 4 ≤ 2048) (v1 : Int32) (v2 : Int32) (v3 : Int32) : wpX_trade (fun r u' => wpY_trade (fun r' v' => r' = r ∧ i_Rel (k + 4) u' v') v v1 v2 v3) u v1 v2 v3 := by
  obtain ⟨c, w, f, e, m, us, di, rfl, rfl, hf, hm⟩ := I
  unfold wpX_trade wpY_trade; dsimp only
  by_cases hp : vp_in v1 16
  · by_cases hq : vp_in v2 8
    · by_cases z : f v1.toNatClampNeg = -2
      · exact vi_su hp hq z (br_f vi_a2 (vi_mu hp hq z (br_t rfl ⟨rfl, vi_mk _ _ _ _ _ _ _ _ hf hm⟩)))
      · have hz := vi_Fn (hf _) z
        by_cases y : e v1.toNatClampNeg = 0
        · exact vi_sr hp hq hz y (br_f vi_a3 (vi_mr hp hq z y (br_t rfl ⟨rfl, vi_mk _ _ _ _ _ _ _ _ hf hm⟩)))
        · refine vi_s0 hp hq hz y (br_t rfl (vi_ex hp hq hz ?_))
          refine vi_m0 hp hq z y (br_f vi_ne ⟨hp, vi_at hz hq, nm_e ⟨hp, vi_at hz hq, nm_e ⟨rfl, ?_⟩⟩⟩)
          exact vi_mk _ _ _ _ _ _ _ _ hf (vi_u3 hm (vi_M3 (hm _)))
    · exact vi_sq hp hq (br_f vi_a1 (vi_mq hp hq (br_t rfl ⟨rfl, vi_mk _ _ _ _ _ _ _ _ hf hm⟩)))
  · exact vi_sp hp (br_f vi_a1 (vi_mp hp (br_t rfl ⟨rfl, vi_mk _ _ _ _ _ _ _ _ hf hm⟩)))

theorem i_vc_map {k : Nat} {u : SX} {v : SY} (I : i_Rel k u v) (hk : k + 4 ≤ 2048) (v1 : Int32) (v2 : Int32) (v3 : Int32) : wpX_map (fun r u' => wpY_map (fun r' v' => r' = r ∧ i_Rel (k + 4) u' v') v v1 v2 v3) u v1 v2 v3 := by
  have J := i_up I
  obtain ⟨c, w, f, e, m, us, di, rfl, rfl, hf, hm⟩ := I
  unfold wpX_map wpY_map; dsimp only
  by_cases hp : vp_in v1 16
  · refine vi_pX1 hp (br_f vi_ne ?_)
    by_cases hq : vp_in v2 8
    · refine vi_fX1 hq (br_f vi_ne ⟨hp, nm_e ?_⟩)
      have H : ∀ b : Int32, i_Rel (k + 4) (c, w, upd f v1.toNatClampNeg v2, upd e v1.toNatClampNeg (vp_nar .boolean b), upd m v1.toNatClampNeg 0) (c, w, upd f v1.toNatClampNeg v2, upd e v1.toNatClampNeg (vp_nar .boolean b), upd us v1.toNatClampNeg (vp_nar .boolean 0), upd di v1.toNatClampNeg (vp_nar .boolean 0)) :=
        fun b => vi_mk _ _ _ _ _ _ _ _ (vi_u1 hf (Or.inr hq)) (vi_u3 hm vi_M0)
      by_cases z : v3 = 0
      · refine br_t z ?_
        unfold wX_map_36 wpX_setPage; dsimp only
        refine ⟨hp, nm_e ⟨hp, nm_e ⟨hp, nm_e ?_⟩⟩⟩
        refine vi_pY1 hp (br_f vi_ne (vi_nY1 hq (br_f vi_ne ⟨hp, nm_e (br_t z ?_)⟩)))
        unfold wY_map_38 wpY_show; dsimp only
        exact ⟨hp, nm_e ⟨hp, nm_e ⟨hp, nm_e ⟨hp, nm_e ⟨rfl, H 0⟩⟩⟩⟩⟩
      · refine br_f z ?_
        unfold wX_map_36 wpX_setPage; dsimp only
        refine ⟨hp, nm_e ⟨hp, nm_e ⟨hp, nm_e ?_⟩⟩⟩
        refine vi_pY1 hp (br_f vi_ne (vi_nY1 hq (br_f vi_ne ⟨hp, nm_e (br_f z ?_)⟩)))
        unfold wY_map_38 wpY_show; dsimp only
        exact ⟨hp, nm_e ⟨hp, nm_e ⟨hp, nm_e ⟨hp, nm_e ⟨rfl, H 1⟩⟩⟩⟩⟩
    · exact vi_fX0 hq (br_t rfl (vi_pY1 hp (br_f vi_ne (vi_nY0 hq (br_t rfl ⟨rfl, J⟩)))))
  · exact vi_pX0 hp (br_t rfl (vi_pY0 hp (br_t rfl ⟨rfl, J⟩)))
theorem i_vc_unmap {k : Nat} {u : SX} {v : SY} (I : i_Rel k u v) (hk : k + 4 ≤ 2048) (v1 : Int32) : wpX_unmap (fun r u' => wpY_unmap (fun r' v' => r' = r ∧ i_Rel (k + 4) u' v') v v1) u v1 := by
  have J := i_up I
  obtain ⟨c, w, f, e, m, us, di, rfl, rfl, hf, hm⟩ := I
  unfold wpX_unmap wpY_unmap; dsimp only
  by_cases hp : vp_in v1 16
  · refine vi_pX1 hp (br_f vi_ne ⟨hp, nm_e ?_⟩)
    unfold wpX_setPage; dsimp only
    refine ⟨hp, nm_e ⟨hp, nm_e ⟨hp, nm_e ?_⟩⟩⟩
    refine vi_pY1 hp (br_f vi_ne ⟨hp, nm_e ?_⟩)
    unfold wpY_show; dsimp only
    exact ⟨hp, nm_e ⟨hp, nm_e ⟨hp, nm_e ⟨hp, nm_e ⟨rfl, vi_mk _ _ _ _ _ _ _ _ (vi_u1 hf (Or.inl rfl)) (vi_u3 hm vi_M0)⟩⟩⟩⟩⟩
  · exact vi_pX0 hp (br_t rfl (vi_pY0 hp (br_t rfl ⟨rfl, J⟩)))
theorem i_vc_frameOf {k : Nat} {u : SX} {v : SY} (I : i_Rel k u v) (hk : k + 4 ≤ 2048) (v1 : Int32) : wpX_frameOf (fun r => wpY_frameOf (fun r' => r' = r ∧ i_Rel (k + 4) u v) v v1) u v1 := by
  have J := i_up I
  obtain ⟨c, w, f, e, m, us, di, rfl, rfl, hf, hm⟩ := I
  unfold wpX_frameOf wpY_frameOf; dsimp only
  by_cases hp : vp_in v1 16
  · exact vi_pX1 hp (br_f vi_ne ⟨hp, vi_pY1 hp (br_f vi_ne ⟨hp, rfl, J⟩)⟩)
  · exact vi_pX0 hp (br_t rfl (vi_pY0 hp (br_t rfl ⟨rfl, J⟩)))
theorem vi_allow (k : Nat) (v1 v2 z c : Int32) (w f e m us di : Nat → Int32) (hf : ∀ j, vi_F (f j)) (hm : ∀ j, vi_M (m j) (us j) (di j)) (hp : vp_in v1 16) :
    wX_allow_38 (fun r u' => wY_allow_38 (fun r' v' => r' = r ∧ i_Rel (k + 4) u' v') v1 v2 z c w f e us di) v1 v2 z c w f e m := by
  unfold wX_allow_38 wY_allow_38
  by_cases h : v2 = 0
  · exact br_t h ⟨hp, nm_e (br_t h ⟨hp, nm_e ⟨rfl, vi_mk _ _ _ _ _ _ _ _ hf hm⟩⟩)⟩
  · exact br_f h ⟨hp, nm_e (br_f h ⟨hp, nm_e ⟨rfl, vi_mk _ _ _ _ _ _ _ _ hf hm⟩⟩)⟩
theorem vi_allowX (post post' : Int32 → SX → Prop) (h : ∀ r u, post r u → post' r u) (v1 v2 z c : Int32) (w f e m : Nat → Int32) (a : wX_allow_38 post v1 v2 z c w f e m) : wX_allow_38 post' v1 v2 z c w f e m := by
  unfold wX_allow_38 at a ⊢
  exact ⟨fun q => ⟨(a.1 q).1, fun y ey => h _ _ ((a.1 q).2 y ey)⟩, fun q => ⟨(a.2 q).1, fun y ey => h _ _ ((a.2 q).2 y ey)⟩⟩
theorem i_vc_allow {k : Nat} {u : SX} {v : SY} (I : i_Rel k u v) (hk : k + 4 ≤ 2048) (v1 : Int32) (v2 : Int32) : wpX_allow (fun r u' => wpY_allow (fun r' v' => r' = r ∧ i_Rel (k + 4) u' v') v v1 v2) u v1 v2 := by
  have J := i_up I
  obtain ⟨c, w, f, e, m, us, di, rfl, rfl, hf, hm⟩ := I
  unfold wpX_allow wpY_allow; dsimp only
  by_cases hp : vp_in v1 16
  · refine vi_pX1 hp (br_f vi_ne ⟨hp, ?_⟩)
    by_cases hq : f v1.toNatClampNeg = -2
    · exact vi_fX0 (vi_Fu hq) (br_t rfl (vi_pY1 hp (br_f vi_ne ⟨hp, br_t hq ⟨rfl, J⟩⟩)))
    · refine vi_fX1 (vi_Fn (hf _) hq) (br_f vi_ne ⟨hp, ?_⟩)
      by_cases z : e v1.toNatClampNeg = 0
      · exact br_t z (vi_allowX _ _ (fun r u' a => vi_pY1 hp (br_f vi_ne ⟨hp, br_f hq ⟨hp, br_t z a⟩⟩)) _ _ _ _ _ _ _ _ (vi_allow k v1 v2 0 c w f e m us di hf hm hp))
      · exact br_f z (vi_allowX _ _ (fun r u' a => vi_pY1 hp (br_f vi_ne ⟨hp, br_f hq ⟨hp, br_f z a⟩⟩)) _ _ _ _ _ _ _ _ (vi_allow k v1 v2 1 c w f e m us di hf hm hp))
  · exact vi_pX0 hp (br_t rfl (vi_pY0 hp (br_t rfl ⟨rfl, J⟩)))
theorem i_vc_fault {k : Nat} {u : SX} {v : SY} (I : i_Rel k u v) (hk : k + 4 ≤ 2048) : wpX_fault (fun r => wpY_fault (fun r' => r' = r ∧ i_Rel (k + 4) u v) v) u := by
  have J := i_up I
  obtain ⟨c, w, f, e, m, us, di, rfl, rfl, hf, hm⟩ := I
  exact ⟨rfl, J⟩
theorem i_vc_word {k : Nat} {u : SX} {v : SY} (I : i_Rel k u v) (hk : k + 4 ≤ 2048) (v1 : Int32) (v2 : Int32) : wpX_word (fun r => wpY_word (fun r' => r' = r ∧ i_Rel (k + 4) u v) v v1 v2) u v1 v2 := by
  have J := i_up I
  obtain ⟨c, w, f, e, m, us, di, rfl, rfl, hf, hm⟩ := I
  unfold wpX_word wpY_word wpX_place; dsimp only; rw [vi_pl]
  by_cases hp : vp_in v1 8
  · by_cases hq : vp_in v2 8
    · exact vi_fX1 hp (br_f vi_ne (vi_wX1 hq (br_f vi_ne ⟨vi_at hp hq, vi_nY1 hp (br_f vi_ne (vi_nY1 hq (br_f vi_ne ⟨vi_at hp hq, rfl, J⟩)))⟩)))
    · exact vi_fX1 hp (br_f vi_ne (vi_wX0 hq (br_t rfl (vi_nY1 hp (br_f vi_ne (vi_nY0 hq (br_t rfl ⟨rfl, J⟩)))))))
  · exact vi_fX0 hp (br_t rfl (vi_nY0 hp (br_t rfl ⟨rfl, J⟩)))
theorem i_vc_setWord {k : Nat} {u : SX} {v : SY} (I : i_Rel k u v) (hk : k + 4 ≤ 2048) (v1 : Int32) (v2 : Int32) (v3 : Int32) : wpX_setWord (fun r u' => wpY_setWord (fun r' v' => r' = r ∧ i_Rel (k + 4) u' v') v v1 v2 v3) u v1 v2 v3 := by
  have J := i_up I
  obtain ⟨c, w, f, e, m, us, di, rfl, rfl, hf, hm⟩ := I
  unfold wpX_setWord wpY_setWord wpX_place; dsimp only; rw [vi_pl]
  by_cases hp : vp_in v1 8
  · by_cases hq : vp_in v2 8
    · exact vi_fX1 hp (br_f vi_ne (vi_wX1 hq (br_f vi_ne ⟨vi_at hp hq, nm_e (vi_nY1 hp (br_f vi_ne (vi_nY1 hq (br_f vi_ne ⟨vi_at hp hq, nm_e ⟨rfl, vi_mk _ _ _ _ _ _ _ _ hf hm⟩⟩))))⟩)))
    · exact vi_fX1 hp (br_f vi_ne (vi_wX0 hq (br_t rfl (vi_nY1 hp (br_f vi_ne (vi_nY0 hq (br_t rfl ⟨rfl, J⟩)))))))
  · exact vi_fX0 hp (br_t rfl (vi_nY0 hp (br_t rfl ⟨rfl, J⟩)))
theorem vi_marksY {post : Int32 → Prop} {m us di : Nat → Int32} (c : Int32) (w f e : Nat → Int32) {p : Int32} (hm : ∀ j, vi_M (m j) (us j) (di j)) (hp : vp_in p 16) (h : post (m p.toNatClampNeg)) : wpY_marks post (c, w, f, e, us, di) p := by
  have q := hm p.toNatClampNeg
  unfold vi_M at q; rw [q] at h
  unfold wpY_marks wY_marks_22; dsimp only
  refine vi_pY1 hp (br_f vi_ne ⟨hp, ?_⟩)
  by_cases a : us p.toNatClampNeg = 0
  · rw [if_pos a] at h
    refine br_t a ⟨hp, ?_⟩
    by_cases b : di p.toNatClampNeg = 0
    · rw [if_pos b] at h; exact br_t b h
    · rw [if_neg b] at h; exact br_f b h
  · rw [if_neg a] at h
    refine br_f a ⟨hp, ?_⟩
    by_cases b : di p.toNatClampNeg = 0
    · rw [if_pos b] at h; exact br_t b h
    · rw [if_neg b] at h; exact br_f b h
theorem i_vc_marks {k : Nat} {u : SX} {v : SY} (I : i_Rel k u v) (hk : k + 4 ≤ 2048) (v1 : Int32) : wpX_marks (fun r => wpY_marks (fun r' => r' = r ∧ i_Rel (k + 4) u v) v v1) u v1 := by
  have J := i_up I
  obtain ⟨c, w, f, e, m, us, di, rfl, rfl, hf, hm⟩ := I
  unfold wpX_marks; dsimp only
  by_cases hp : vp_in v1 16
  · exact vi_pX1 hp (br_f vi_ne ⟨hp, vi_marksY c w f e hm hp ⟨rfl, J⟩⟩)
  · refine vi_pX0 hp (br_t rfl ?_)
    unfold wpY_marks; dsimp only
    exact vi_pY0 hp (br_t rfl ⟨rfl, J⟩)
theorem i_vc_clearMarks {k : Nat} {u : SX} {v : SY} (I : i_Rel k u v) (hk : k + 4 ≤ 2048) (v1 : Int32) : wpX_clearMarks (fun r u' => wpY_clearMarks (fun r' v' => r' = r ∧ i_Rel (k + 4) u' v') v v1) u v1 := by
  have J := i_up I
  obtain ⟨c, w, f, e, m, us, di, rfl, rfl, hf, hm⟩ := I
  unfold wpX_clearMarks wpY_clearMarks; dsimp only
  by_cases hp : vp_in v1 16
  · refine vi_pX1 hp (br_f vi_ne ⟨hp, nm_e ⟨hp, nm_e ?_⟩⟩)
    refine vi_marksY c w f e hm hp (vi_pY1 hp (br_f vi_ne ⟨hp, nm_e ⟨hp, nm_e ⟨rfl, ?_⟩⟩⟩))
    exact vi_mk _ _ _ _ _ _ _ _ hf (vi_u3 hm vi_M0)
  · refine vi_pX0 hp (br_t rfl ?_)
    unfold wpY_marks; dsimp only
    exact vi_pY0 hp (br_t rfl (vi_pY0 hp (br_t rfl ⟨rfl, J⟩)))
theorem i_vc_flush {k : Nat} {u : SX} {v : SY} (I : i_Rel k u v) (hk : k + 4 ≤ 2048) : wpX_flush (fun u' => wpY_flush (fun v' => i_Rel (k + 4) u' v') v) u := by
  have J := i_up I
  obtain ⟨c, w, f, e, m, us, di, rfl, rfl, hf, hm⟩ := I
  exact J
theorem i_vc_forget {k : Nat} {u : SX} {v : SY} (I : i_Rel k u v) (hk : k + 4 ≤ 2048) (v1 : Int32) : wpX_forget (fun r => wpY_forget (fun r' => r' = r ∧ i_Rel (k + 4) u v) v v1) u v1 := by
  have J := i_up I
  obtain ⟨c, w, f, e, m, us, di, rfl, rfl, hf, hm⟩ := I
  unfold wpX_forget wpY_forget; dsimp only
  by_cases hp : vp_in v1 16
  · exact vi_pX1 hp (br_f vi_ne (vi_pY1 hp (br_f vi_ne ⟨rfl, J⟩)))
  · exact vi_pX0 hp (br_t rfl (vi_pY0 hp (br_t rfl ⟨rfl, J⟩)))
theorem i_vc_warm {k : Nat} {u : SX} {v : SY} (I : i_Rel k u v) (hk : k + 4 ≤ 2048) (v1 : Int32) : wpX_warm (fun r => wpY_warm (fun r' => r' = r ∧ i_Rel (k + 4) u v) v v1) u v1 := by
  have J := i_up I
  obtain ⟨c, w, f, e, m, us, di, rfl, rfl, hf, hm⟩ := I
  unfold wpX_warm wpY_warm; dsimp only
  by_cases hp : vp_in v1 8
  · exact vi_fX1 hp (br_f vi_ne (vi_nY1 hp (br_f vi_ne ⟨rfl, J⟩)))
  · exact vi_fX0 hp (br_t rfl (vi_nY0 hp (br_t rfl ⟨rfl, J⟩)))

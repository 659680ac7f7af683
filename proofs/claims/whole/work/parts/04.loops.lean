theorem vi_hi {n j : Nat} (h : n ≤ j) (hj : j < 2 ^ 31) : nI n ≤ nI j := nI_le h hj
theorem vi_fill : ∀ d j : Nat, j + d = 16 → ∀ f : Nat → Int32, (∀ q, vi_F (f q)) → ∃ f' : Nat → Int32, (∀ q, vi_F (f' q)) ∧
    (∀ (post : SX → Prop) (c : Int32) (w e m : Nat → Int32), post (c, w, f', e, m) → wX_init_43 post c (d + 1) (nI j) w f e m) ∧
    (∀ (post : SY → Prop) (c : Int32) (w e us di : Nat → Int32), post (c, w, f', e, us, di) → wY_init_46 post c (d + 1) (nI j) w f e us di) := by
  intro d
  induction d with
  | zero =>
    intro j hj f hf
    have h : (16 : Int32) ≤ nI j := nI_le (a := 16) (by omega) (by omega)
    exact ⟨f, hf, fun _ _ _ _ _ a => br_t h a, fun _ _ _ _ _ _ a => br_t h a⟩
  | succ d ih =>
    intro j hj f hf
    have h : ¬ (16 : Int32) ≤ nI j := nI_ge (b := 16) (by omega) (by decide)
    have hi : vp_in (nI j) 16 := vp_in_nI (by omega) (by decide)
    obtain ⟨f', hf', hX, hY⟩ := ih (j + 1) (by omega) (upd f (nI j).toNatClampNeg (-2)) (vi_u1 hf (Or.inl rfl))
    exact ⟨f', hf', fun post c w e m a => br_f h ⟨hi, nm_e (nm_r (nI_1 j) (hX post c w e m a))⟩,
      fun post c w e us di a => br_f h ⟨hi, nm_e (nm_r (nI_1 j) (hY post c w e us di a))⟩⟩
theorem vi_F0 : ∀ q : Nat, vi_F ((fun _ => 0 : Nat → Int32) q) := fun _ => Or.inr (vp_in_nI (n := 0) (by decide) (by decide))
theorem vi_M00 : ∀ q : Nat, vi_M ((fun _ => 0 : Nat → Int32) q) ((fun _ => 0 : Nat → Int32) q) ((fun _ => 0 : Nat → Int32) q) := fun _ => vi_M0
theorem i_vc0 : wpX_init (fun u => wpY_init (fun v => i_Rel 0 u v)) := by
  obtain ⟨f', hf', hX, hY⟩ := vi_fill 16 0 rfl _ vi_F0
  exact ⟨17, hX _ _ _ _ _ ⟨17, hY _ _ _ _ _ _ (vi_mk _ _ _ _ _ _ _ _ hf' vi_M00)⟩⟩
theorem vi_shown (x c c' : Int32) (w e m w' e' us di f : Nat → Int32) : ∀ d j : Nat, j + d = 16 → ∀ s : Int32, ∃ r : Int32,
    (∀ post : Int32 → Prop, post r → wX_shown_13 post x c w f e m (d + 1) s (nI j)) ∧
    (∀ post : Int32 → Prop, post r → wY_shown_14 post x c' w' f e' us di (d + 1) s (nI j)) := by
  intro d
  induction d with
  | zero =>
    intro j hj s
    have h : (16 : Int32) ≤ nI j := nI_le (a := 16) (by omega) (by omega)
    exact ⟨s, fun _ a => br_t h a, fun _ a => br_t h a⟩
  | succ d ih =>
    intro j hj s
    have h : ¬ (16 : Int32) ≤ nI j := nI_ge (b := 16) (by omega) (by decide)
    have hi : vp_in (nI j) 16 := vp_in_nI (by omega) (by decide)
    by_cases z : f (nI j).toNatClampNeg = x
    · obtain ⟨r, hX, hY⟩ := ih (j + 1) (by omega) (s + 1)
      exact ⟨r, fun post a => br_f h ⟨hi, br_t z (nm_e (nm_r (nI_1 j) (hX post a)))⟩, fun post a => br_f h ⟨hi, br_t z (nm_e (nm_r (nI_1 j) (hY post a)))⟩⟩
    · obtain ⟨r, hX, hY⟩ := ih (j + 1) (by omega) s
      exact ⟨r, fun post a => br_f h ⟨hi, br_f z (nm_r (nI_1 j) (hX post a))⟩, fun post a => br_f h ⟨hi, br_f z (nm_r (nI_1 j) (hY post a))⟩⟩
theorem i_vc_shown {k : Nat} {u : SX} {v : SY} (I : i_Rel k u v) (hk : k + 4 ≤ 2048) (v1 : Int32) : wpX_shown (fun r => wpY_shown (fun r' => r' = r ∧ i_Rel (k + 4) u v) v v1) u v1 := by
  have J := i_up I
  obtain ⟨c, w, f, e, m, us, di, rfl, rfl, hf, hm⟩ := I
  unfold wpX_shown wpY_shown; dsimp only
  by_cases hp : vp_in v1 8
  · obtain ⟨r, hX, hY⟩ := vi_shown v1 c c w e m w e us di f 16 0 rfl 0
    exact vi_fX1 hp (br_f vi_ne ⟨17, hX _ (vi_nY1 hp (br_f vi_ne ⟨17, hY _ ⟨rfl, J⟩⟩))⟩)
  · exact vi_fX0 hp (br_t rfl (vi_nY0 hp (br_t rfl ⟨rfl, J⟩)))
theorem vi_dirty (c c' : Int32) (w e m w' e' us di f f' : Nat → Int32) (hm : ∀ j, vi_M (m j) (us j) (di j)) : ∀ d j : Nat, j + d = 16 → ∀ s : Int32, ∃ r : Int32,
    (∀ post : Int32 → Prop, post r → wX_dirtyPages_4 post c w f e m (d + 1) s (nI j)) ∧
    (∀ post : Int32 → Prop, post r → wY_dirtyPages_4 post c' w' f' e' us di (d + 1) s (nI j)) := by
  intro d
  induction d with
  | zero =>
    intro j hj s
    have h : (16 : Int32) ≤ nI j := nI_le (a := 16) (by omega) (by omega)
    exact ⟨s, fun _ a => br_t h a, fun _ a => br_t h a⟩
  | succ d ih =>
    intro j hj s
    have h : ¬ (16 : Int32) ≤ nI j := nI_ge (b := 16) (by omega) (by decide)
    have hi : vp_in (nI j) 16 := vp_in_nI (by omega) (by decide)
    have hd := vi_Md (hm (nI j).toNatClampNeg)
    by_cases z : di (nI j).toNatClampNeg = 0
    · obtain ⟨r, hX, hY⟩ := ih (j + 1) (by omega) s
      exact ⟨r, fun post a => br_f h ⟨hi, br_t (hd.mpr z) (nm_r (nI_1 j) (hX post a))⟩, fun post a => br_f h ⟨hi, br_t z (nm_r (nI_1 j) (hY post a))⟩⟩
    · obtain ⟨r, hX, hY⟩ := ih (j + 1) (by omega) (s + 1)
      exact ⟨r, fun post a => br_f h ⟨hi, br_f (fun q => z (hd.mp q)) (nm_e (nm_r (nI_1 j) (hX post a)))⟩, fun post a => br_f h ⟨hi, br_f z (nm_e (nm_r (nI_1 j) (hY post a)))⟩⟩
theorem i_vc_dirtyPages {k : Nat} {u : SX} {v : SY} (I : i_Rel k u v) (hk : k + 4 ≤ 2048) : wpX_dirtyPages (fun r => wpY_dirtyPages (fun r' => r' = r ∧ i_Rel (k + 4) u v) v) u := by
  have J := i_up I
  obtain ⟨c, w, f, e, m, us, di, rfl, rfl, hf, hm⟩ := I
  obtain ⟨r, hX, hY⟩ := vi_dirty c c w e m w e us di f f hm 16 0 rfl 0
  exact ⟨17, hX _ ⟨17, hY _ ⟨rfl, J⟩⟩⟩
theorem vi_copy (x y c c' : Int32) (f e m f' e' us di : Nat → Int32) (hx : vp_in x 8) (hy : vp_in y 8) : ∀ d j : Nat, j + d = 8 → ∀ (s : Int32) (w : Nat → Int32), ∃ (r : Int32) (w' : Nat → Int32),
    (∀ post : Int32 → SX → Prop, post r (c, w', f, e, m) → wX_copyFrame_21 post x y c (d + 1) s (nI j) w f e m) ∧
    (∀ post : Int32 → SY → Prop, post r (c', w', f', e', us, di) → wY_copyFrame_23 post x y c' (d + 1) s (nI j) w f' e' us di) := by
  intro d
  induction d with
  | zero =>
    intro j hj s w
    have h : (8 : Int32) ≤ nI j := nI_le (a := 8) (by omega) (by omega)
    exact ⟨s, w, fun _ a => br_t h a, fun _ a => br_t h a⟩
  | succ d ih =>
    intro j hj s w
    have h : ¬ (8 : Int32) ≤ nI j := nI_ge (b := 8) (by omega) (by decide)
    have hi : vp_in (nI j) 8 := vp_in_nI (by omega) (by decide)
    have hX8 := vi_at hx hi
    have hY8 := vi_at hy hi
    by_cases z : w (8 * x + nI j).toNatClampNeg = w (8 * y + nI j).toNatClampNeg
    · obtain ⟨r, w', hX, hY⟩ := ih (j + 1) (by omega) s w
      refine ⟨r, w', fun post a => ?_, fun post a => br_f h ⟨hX8, hY8, br_t z (nm_r (nI_1 j) (hY post a))⟩⟩
      unfold wX_copyFrame_21 wpX_place; dsimp only; rw [vi_pl, vi_pl]
      exact br_f h ⟨hX8, hY8, br_t z (nm_r (nI_1 j) (hX post a))⟩
    · obtain ⟨r, w', hX, hY⟩ := ih (j + 1) (by omega) (s + 1) (upd w (8 * x + nI j).toNatClampNeg (w (8 * y + nI j).toNatClampNeg))
      refine ⟨r, w', fun post a => ?_, fun post a => br_f h ⟨hX8, hY8, br_f z ⟨hY8, hX8, nm_e (nm_e (nm_r (nI_1 j) (hY post a)))⟩⟩⟩
      unfold wX_copyFrame_21 wpX_place; dsimp only; rw [vi_pl, vi_pl]
      exact br_f h ⟨hX8, hY8, br_f z ⟨hY8, hX8, nm_e (nm_e (nm_r (nI_1 j) (hX post a)))⟩⟩
theorem i_vc_copyFrame {k : Nat} {u : SX} {v : SY} (I : i_Rel k u v) (hk : k + 4 ≤ 2048) (v1 : Int32) (v2 : Int32) : wpX_copyFrame (fun r u' => wpY_copyFrame (fun r' v' => r' = r ∧ i_Rel (k + 4) u' v') v v1 v2) u v1 v2 := by
  have J := i_up I
  obtain ⟨c, w, f, e, m, us, di, rfl, rfl, hf, hm⟩ := I
  unfold wpX_copyFrame wpY_copyFrame; dsimp only
  by_cases hp : vp_in v1 8
  · by_cases hq : vp_in v2 8
    · obtain ⟨r, w', hX, hY⟩ := vi_copy v1 v2 c c f e m f e us di hp hq 8 0 rfl 0 w
      exact vi_fX1 hp (br_f vi_ne (vi_fX1 hq (br_f vi_ne ⟨9, hX _ (vi_nY1 hp (br_f vi_ne (vi_nY1 hq (br_f vi_ne ⟨9, hY _ ⟨rfl, vi_mk _ _ _ _ _ _ _ _ hf hm⟩⟩))))⟩)))
    · exact vi_fX1 hp (br_f vi_ne (vi_fX0 hq (br_t rfl (vi_nY1 hp (br_f vi_ne (vi_nY0 hq (br_t rfl ⟨rfl, J⟩)))))))
  · exact vi_fX0 hp (br_t rfl (vi_nY0 hp (br_t rfl ⟨rfl, J⟩)))

section
/-- the marks of one page: the component's number against the reference's two flags -/
def vi_M (m us di : Int32) : Prop := m = (if us = 0 then 0 else 1) + (if di = 0 then 0 else 2)
/-- what a page holds of a frame: nothing, or one of the eight -/
def vi_F (f : Int32) : Prop := f = -2 ∨ vp_in f 8
/-- both keep words, frames, rights and the last fault alike; the marks by vi_M -/
def i_Rel (_ : Nat) (u : SX) (v : SY) : Prop :=
  ∃ (c : Int32) (w f e m us di : Nat → Int32), u = (c, w, f, e, m) ∧ v = (c, w, f, e, us, di) ∧
    (∀ j, vi_F (f j)) ∧ (∀ j, vi_M (m j) (us j) (di j))
theorem i_up {k : Nat} {u : SX} {v : SY} (h : i_Rel k u v) : i_Rel (k + 4) u v := h
theorem vi_mk (k : Nat) (c : Int32) (w f e m us di : Nat → Int32) (hf : ∀ j, vi_F (f j)) (hm : ∀ j, vi_M (m j) (us j) (di j)) :
    i_Rel k (c, w, f, e, m) (c, w, f, e, us, di) := ⟨c, w, f, e, m, us, di, rfl, rfl, hf, hm⟩
theorem vi_ne : ¬ (1 : Int32) = 0 := by decide
theorem vi_n0 : vp_nar .boolean 0 = 0 := by decide
theorem vi_n1 : vp_nar .boolean 1 = 1 := by decide
theorem vi_M0 : vi_M 0 (vp_nar .boolean 0) (vp_nar .boolean 0) := by
  rw [vi_n0]; unfold vi_M; decide
theorem vi_M1 {m us di : Int32} (h : vi_M m us di) : vi_M (m ||| 1) (vp_nar .boolean 1) di := by
  rw [vi_n1]; unfold vi_M at h ⊢; rw [h, if_neg vi_ne]
  by_cases a : us = 0
  · rw [if_pos a]
    by_cases b : di = 0
    · rw [if_pos b]; decide
    · rw [if_neg b]; decide
  · rw [if_neg a]
    by_cases b : di = 0
    · rw [if_pos b]; decide
    · rw [if_neg b]; decide
theorem vi_M3 {m us di : Int32} (h : vi_M m us di) : vi_M (m ||| 3) (vp_nar .boolean 1) (vp_nar .boolean 1) := by
  rw [vi_n1]; unfold vi_M at h ⊢; rw [h, if_neg vi_ne, if_neg vi_ne]
  by_cases a : us = 0
  · rw [if_pos a]
    by_cases b : di = 0
    · rw [if_pos b]; decide
    · rw [if_neg b]; decide
  · rw [if_neg a]
    by_cases b : di = 0
    · rw [if_pos b]; decide
    · rw [if_neg b]; decide
theorem vi_Md {m us di : Int32} (h : vi_M m us di) : (m &&& 2) = 0 ↔ di = 0 := by
  unfold vi_M at h; rw [h]
  by_cases a : us = 0
  · rw [if_pos a]
    by_cases b : di = 0
    · rw [if_pos b]; exact ⟨fun _ => b, fun _ => by decide⟩
    · rw [if_neg b]; exact ⟨fun z => absurd z (by decide), fun z => absurd z b⟩
  · rw [if_neg a]
    by_cases b : di = 0
    · rw [if_pos b]; exact ⟨fun _ => b, fun _ => by decide⟩
    · rw [if_neg b]; exact ⟨fun z => absurd z (by decide), fun z => absurd z b⟩
/-- a point's write keeps a fact of every place -/
theorem vi_u1 {P : Int32 → Prop} {f : Nat → Int32} {k : Nat} {x : Int32} (h : ∀ j, P (f j)) (hx : P x) : ∀ j, P (upd f k x j) := by
  intro j; unfold upd
  by_cases e : j = k
  · rw [if_pos e]; exact hx
  · rw [if_neg e]; exact h j
theorem vi_u3 {m us di : Nat → Int32} {k : Nat} {a b c : Int32} (h : ∀ j, vi_M (m j) (us j) (di j)) (hx : vi_M a b c) :
    ∀ j, vi_M (upd m k a j) (upd us k b j) (upd di k c j) := by
  intro j; unfold upd
  by_cases e : j = k
  · rw [if_pos e, if_pos e, if_pos e]; exact hx
  · rw [if_neg e, if_neg e, if_neg e]; exact h j
theorem vi_u2 {m us di : Nat → Int32} {k : Nat} {a b : Int32} (h : ∀ j, vi_M (m j) (us j) (di j)) (hx : vi_M a b (di k)) :
    ∀ j, vi_M (upd m k a j) (upd us k b j) (di j) := by
  intro j; unfold upd
  by_cases e : j = k
  · rw [if_pos e, if_pos e, e]; exact hx
  · rw [if_neg e, if_neg e]; exact h j
theorem vi_in {p : Int32} {n : Nat} (hn : n < 2 ^ 31) : vp_in p n ↔ ¬ p < 0 ∧ ¬ nI n ≤ p := by
  constructor
  · intro h
    obtain ⟨j, hj, rfl⟩ := vp_in_of h hn
    exact ⟨nI_pos (by omega), nI_ge hj hn⟩
  · rintro ⟨h0, h1⟩
    obtain ⟨j, hj, rfl⟩ := nI_of h0
    rw [nI_leI hn hj] at h1
    exact vp_in_nI (by omega) hn
theorem vi_in' {p : Int32} {n : Nat} (hn : n + 1 < 2 ^ 31) : vp_in p (n + 1) ↔ ¬ p < 0 ∧ ¬ nI n < p := by
  constructor
  · intro h
    obtain ⟨j, hj, rfl⟩ := vp_in_of h hn
    exact ⟨nI_pos (by omega), nI_nlt (by omega) (by omega)⟩
  · rintro ⟨h0, h1⟩
    obtain ⟨j, hj, rfl⟩ := nI_of h0
    rw [nI_ltI (by omega) hj] at h1
    exact vp_in_nI (by omega) hn
theorem vi_br {c d A : Prop} {P Q R : Prop} (e : A ↔ ¬ c ∧ ¬ d) (h1 : A → R) (h0 : ¬ A → P) (hPQ : P → Q) :
    (c → P) ∧ (¬ c → ((d → Q) ∧ (¬ d → R))) := by
  by_cases hc : c
  · exact br_t hc (h0 (fun a => (e.mp a).1 hc))
  · refine br_f hc ?_
    by_cases hd : d
    · exact br_t hd (hPQ (h0 (fun a => (e.mp a).2 hd)))
    · exact br_f hd (h1 (e.mpr ⟨hc, hd⟩))
theorem vi_pX1 {post : Int32 → Prop} {p : Int32} (h : vp_in p 16) (a : post 1) : wpX_isPage post p :=
  vi_br (vi_in (by decide)) (fun _ => a) (fun z => absurd h z) id
theorem vi_pX0 {post : Int32 → Prop} {p : Int32} (h : ¬ vp_in p 16) (a : post 0) : wpX_isPage post p :=
  vi_br (vi_in (n := 16) (by decide)) (fun z => absurd z h) (fun _ => a) id
theorem vi_fX1 {post : Int32 → Prop} {p : Int32} (h : vp_in p 8) (a : post 1) : wpX_isFrame post p :=
  vi_br (vi_in (by decide)) (fun _ => a) (fun z => absurd h z) id
theorem vi_fX0 {post : Int32 → Prop} {p : Int32} (h : ¬ vp_in p 8) (a : post 0) : wpX_isFrame post p :=
  vi_br (vi_in (n := 8) (by decide)) (fun z => absurd z h) (fun _ => a) id
theorem vi_wX1 {post : Int32 → Prop} {p : Int32} (h : vp_in p 8) (a : post 1) : wpX_isWord post p :=
  vi_br (vi_in (by decide)) (fun _ => a) (fun z => absurd h z) id
theorem vi_wX0 {post : Int32 → Prop} {p : Int32} (h : ¬ vp_in p 8) (a : post 0) : wpX_isWord post p :=
  vi_br (vi_in (n := 8) (by decide)) (fun z => absurd z h) (fun _ => a) id
theorem vi_pY1 {post : Int32 → Prop} {u : SY} {p : Int32} (h : vp_in p 16) (a : post 1) : wpY_isPage post u p :=
  vi_br (vi_in' (n := 15) (by decide)) (fun _ => a) (fun z => absurd h z) id
theorem vi_pY0 {post : Int32 → Prop} {u : SY} {p : Int32} (h : ¬ vp_in p 16) (a : post 0) : wpY_isPage post u p :=
  vi_br (vi_in' (n := 15) (by decide)) (fun z => absurd z h) (fun _ => a) id
theorem vi_nY1 {post : Int32 → Prop} {u : SY} {p : Int32} (h : vp_in p 8) (a : post 1) : wpY_isNumber post u p :=
  vi_br (vi_in' (n := 7) (by decide)) (fun _ => a) (fun z => absurd h z) id
theorem vi_nY0 {post : Int32 → Prop} {u : SY} {p : Int32} (h : ¬ vp_in p 8) (a : post 0) : wpY_isNumber post u p :=
  vi_br (vi_in' (n := 7) (by decide)) (fun z => absurd z h) (fun _ => a) id
theorem vi_un : ¬ vp_in (-2) 8 := fun h => absurd (vp_in_iff.mp h).1 (by decide)
theorem vi_Fn {x : Int32} (h : vi_F x) (hn : ¬ x = -2) : vp_in x 8 := h.resolve_left hn
theorem vi_Fu {x : Int32} (h : x = -2) : ¬ vp_in x 8 := h ▸ vi_un
theorem vi_pl (a b : Int32) : a * 8 + b = 8 * a + b := by rw [Int32.mul_comm]
theorem vi_at {a b : Int32} (ha : vp_in a 8) (hb : vp_in b 8) : vp_in (8 * a + b) 64 := by
  obtain ⟨i, hi, rfl⟩ := vp_in_of ha (by decide)
  obtain ⟨j, hj, rfl⟩ := vp_in_of hb (by decide)
  have e : (8 : Int32) * nI i + nI j = nI (8 * i + j) := by
    rw [← nI_add]; exact congrArg (· + nI j) (Int32.ofNat_mul 8 i).symm
  rw [e]; exact vp_in_nI (by omega) (by decide)
end
section
theorem i_vc_map {k : Nat} {u : SX} {v : SY} (I : i_Rel k u v) (hk : k + 4 ≤ 2048) (v1 : Int32) (v2 : Int32) (v3 : Int32) : wpX_map (fun r u' => wpY_map (fun r' v' => r' = r ∧ i_Rel (k + 4) u' v') v v1 v2 v3) u v1 v2 v3 := by
  have J := i_up I
  obtain ⟨c, w, f, e, m, us, di, rfl, rfl, hf, hm⟩ := I
  unfold wpX_map wpY_map; dsimp only
  by_cases hp : vp_in v1 16
  · refine vi_pX1 hp (br_f vi_ne ?_)
    by_cases hq : vp_in v2 8
    · refine vi_fX1 hq (br_f vi_ne ⟨hp, nm_e ?_⟩)
      have H : ∀ b : Int32, i_Rel (k + 4) (c, w, upd f v1.toNatClampNeg v2, upd e v1.toNatClampNeg (vp_nar .boolean b), upd m v1.toNatClampNeg 0) (c, w, upd f v1.toNatClampNeg v2, upd e v1.toNatClampNeg (vp_nar .boolean b), upd us v1.toNatClampNeg (vp_nar .boolean 0), upd di v1.toNatClampNeg (vp_nar .boolean 0)) :=
        fun b => vi_mk _ _ _ _ _ _ _ _ (vi_u1 hf (Or.inr hq)) (vi_u3 hm vi_M0)
      by_cases z : v3 = 0
      · refine br_t z ?_
        unfold wX_map_36 wpX_setPage; dsimp only
        refine ⟨hp, nm_e ⟨hp, nm_e ⟨hp, nm_e ?_⟩⟩⟩
        refine vi_pY1 hp (br_f vi_ne (vi_nY1 hq (br_f vi_ne ⟨hp, nm_e (br_t z ?_)⟩)))
        unfold wY_map_38 wpY_show; dsimp only
        exact ⟨hp, nm_e ⟨hp, nm_e ⟨hp, nm_e ⟨hp, nm_e ⟨rfl, H 0⟩⟩⟩⟩⟩
      · refine br_f z ?_
        unfold wX_map_36 wpX_setPage; dsimp only
        refine ⟨hp, nm_e ⟨hp, nm_e ⟨hp, nm_e ?_⟩⟩⟩
        refine vi_pY1 hp (br_f vi_ne (vi_nY1 hq (br_f vi_ne ⟨hp, nm_e (br_f z ?_)⟩)))
        unfold wY_map_38 wpY_show; dsimp only
        exact ⟨hp, nm_e ⟨hp, nm_e ⟨hp, nm_e ⟨hp, nm_e ⟨rfl, H 1⟩⟩⟩⟩⟩
    · exact vi_fX0 hq (br_t rfl (vi_pY1 hp (br_f vi_ne (vi_nY0 hq (br_t rfl ⟨rfl, J⟩)))))
  · exact vi_pX0 hp (br_t rfl (vi_pY0 hp (br_t rfl ⟨rfl, J⟩)))
theorem i_vc_unmap {k : Nat} {u : SX} {v : SY} (I : i_Rel k u v) (hk : k + 4 ≤ 2048) (v1 : Int32) : wpX_unmap (fun r u' => wpY_unmap (fun r' v' => r' = r ∧ i_Rel (k + 4) u' v') v v1) u v1 := by
  have J := i_up I
  obtain ⟨c, w, f, e, m, us, di, rfl, rfl, hf, hm⟩ := I
  unfold wpX_unmap wpY_unmap; dsimp only
  by_cases hp : vp_in v1 16
  · refine vi_pX1 hp (br_f vi_ne ⟨hp, nm_e ?_⟩)
    unfold wpX_setPage; dsimp only
    refine ⟨hp, nm_e ⟨hp, nm_e ⟨hp, nm_e ?_⟩⟩⟩
    refine vi_pY1 hp (br_f vi_ne ⟨hp, nm_e ?_⟩)
    unfold wpY_show; dsimp only
    exact ⟨hp, nm_e ⟨hp, nm_e ⟨hp, nm_e ⟨hp, nm_e ⟨rfl, vi_mk _ _ _ _ _ _ _ _ (vi_u1 hf (Or.inl rfl)) (vi_u3 hm vi_M0)⟩⟩⟩⟩⟩
  · exact vi_pX0 hp (br_t rfl (vi_pY0 hp (br_t rfl ⟨rfl, J⟩)))
theorem i_vc_frameOf {k : Nat} {u : SX} {v : SY} (I : i_Rel k u v) (hk : k + 4 ≤ 2048) (v1 : Int32) : wpX_frameOf (fun r => wpY_frameOf (fun r' => r' = r ∧ i_Rel (k + 4) u v) v v1) u v1 := by
  have J := i_up I
  obtain ⟨c, w, f, e, m, us, di, rfl, rfl, hf, hm⟩ := I
  unfold wpX_frameOf wpY_frameOf; dsimp only
  by_cases hp : vp_in v1 16
  · exact vi_pX1 hp (br_f vi_ne ⟨hp, vi_pY1 hp (br_f vi_ne ⟨hp, rfl, J⟩)⟩)
  · exact vi_pX0 hp (br_t rfl (vi_pY0 hp (br_t rfl ⟨rfl, J⟩)))
theorem vi_allow (k : Nat) (v1 v2 z c : Int32) (w f e m us di : Nat → Int32) (hf : ∀ j, vi_F (f j)) (hm : ∀ j, vi_M (m j) (us j) (di j)) (hp : vp_in v1 16) :
    wX_allow_38 (fun r u' => wY_allow_38 (fun r' v' => r' = r ∧ i_Rel (k + 4) u' v') v1 v2 z c w f e us di) v1 v2 z c w f e m := by
  unfold wX_allow_38 wY_allow_38
  by_cases h : v2 = 0
  · exact br_t h ⟨hp, nm_e (br_t h ⟨hp, nm_e ⟨rfl, vi_mk _ _ _ _ _ _ _ _ hf hm⟩⟩)⟩
  · exact br_f h ⟨hp, nm_e (br_f h ⟨hp, nm_e ⟨rfl, vi_mk _ _ _ _ _ _ _ _ hf hm⟩⟩)⟩
theorem vi_allowX (post post' : Int32 → SX → Prop) (h : ∀ r u, post r u → post' r u) (v1 v2 z c : Int32) (w f e m : Nat → Int32) (a : wX_allow_38 post v1 v2 z c w f e m) : wX_allow_38 post' v1 v2 z c w f e m := by
  unfold wX_allow_38 at a ⊢
  exact ⟨fun q => ⟨(a.1 q).1, fun y ey => h _ _ ((a.1 q).2 y ey)⟩, fun q => ⟨(a.2 q).1, fun y ey => h _ _ ((a.2 q).2 y ey)⟩⟩
theorem i_vc_allow {k : Nat} {u : SX} {v : SY} (I : i_Rel k u v) (hk : k + 4 ≤ 2048) (v1 : Int32) (v2 : Int32) : wpX_allow (fun r u' => wpY_allow (fun r' v' => r' = r ∧ i_Rel (k + 4) u' v') v v1 v2) u v1 v2 := by
  have J := i_up I
  obtain ⟨c, w, f, e, m, us, di, rfl, rfl, hf, hm⟩ := I
  unfold wpX_allow wpY_allow; dsimp only
  by_cases hp : vp_in v1 16
  · refine vi_pX1 hp (br_f vi_ne ⟨hp, ?_⟩)
    by_cases hq : f v1.toNatClampNeg = -2
    · exact vi_fX0 (vi_Fu hq) (br_t rfl (vi_pY1 hp (br_f vi_ne ⟨hp, br_t hq ⟨rfl, J⟩⟩)))
    · refine vi_fX1 (vi_Fn (hf _) hq) (br_f vi_ne ⟨hp, ?_⟩)
      by_cases z : e v1.toNatClampNeg = 0
      · exact br_t z (vi_allowX _ _ (fun r u' a => vi_pY1 hp (br_f vi_ne ⟨hp, br_f hq ⟨hp, br_t z a⟩⟩)) _ _ _ _ _ _ _ _ (vi_allow k v1 v2 0 c w f e m us di hf hm hp))
      · exact br_f z (vi_allowX _ _ (fun r u' a => vi_pY1 hp (br_f vi_ne ⟨hp, br_f hq ⟨hp, br_f z a⟩⟩)) _ _ _ _ _ _ _ _ (vi_allow k v1 v2 1 c w f e m us di hf hm hp))
  · exact vi_pX0 hp (br_t rfl (vi_pY0 hp (br_t rfl ⟨rfl, J⟩)))
theorem i_vc_fault {k : Nat} {u : SX} {v : SY} (I : i_Rel k u v) (hk : k + 4 ≤ 2048) : wpX_fault (fun r => wpY_fault (fun r' => r' = r ∧ i_Rel (k + 4) u v) v) u := by
  have J := i_up I
  obtain ⟨c, w, f, e, m, us, di, rfl, rfl, hf, hm⟩ := I
  exact ⟨rfl, J⟩
theorem i_vc_word {k : Nat} {u : SX} {v : SY} (I : i_Rel k u v) (hk : k + 4 ≤ 2048) (v1 : Int32) (v2 : Int32) : wpX_word (fun r => wpY_word (fun r' => r' = r ∧ i_Rel (k + 4) u v) v v1 v2) u v1 v2 := by
  have J := i_up I
  obtain ⟨c, w, f, e, m, us, di, rfl, rfl, hf, hm⟩ := I
  unfold wpX_word wpY_word wpX_place; dsimp only; rw [vi_pl]
  by_cases hp : vp_in v1 8
  · by_cases hq : vp_in v2 8
    · exact vi_fX1 hp (br_f vi_ne (vi_wX1 hq (br_f vi_ne ⟨vi_at hp hq, vi_nY1 hp (br_f vi_ne (vi_nY1 hq (br_f vi_ne ⟨vi_at hp hq, rfl, J⟩)))⟩)))
    · exact vi_fX1 hp (br_f vi_ne (vi_wX0 hq (br_t rfl (vi_nY1 hp (br_f vi_ne (vi_nY0 hq (br_t rfl ⟨rfl, J⟩)))))))
  · exact vi_fX0 hp (br_t rfl (vi_nY0 hp (br_t rfl ⟨rfl, J⟩)))
theorem i_vc_setWord {k : Nat} {u : SX} {v : SY} (I : i_Rel k u v) (hk : k + 4 ≤ 2048) (v1 : Int32) (v2 : Int32) (v3 : Int32) : wpX_setWord (fun r u' => wpY_setWord (fun r' v' => r' = r ∧ i_Rel (k + 4) u' v') v v1 v2 v3) u v1 v2 v3 := by
  have J := i_up I
  obtain ⟨c, w, f, e, m, us, di, rfl, rfl, hf, hm⟩ := I
  unfold wpX_setWord wpY_setWord wpX_place; dsimp only; rw [vi_pl]
  by_cases hp : vp_in v1 8
  · by_cases hq : vp_in v2 8
    · exact vi_fX1 hp (br_f vi_ne (vi_wX1 hq (br_f vi_ne ⟨vi_at hp hq, nm_e (vi_nY1 hp (br_f vi_ne (vi_nY1 hq (br_f vi_ne ⟨vi_at hp hq, nm_e ⟨rfl, vi_mk _ _ _ _ _ _ _ _ hf hm⟩⟩))))⟩)))
    · exact vi_fX1 hp (br_f vi_ne (vi_wX0 hq (br_t rfl (vi_nY1 hp (br_f vi_ne (vi_nY0 hq (br_t rfl ⟨rfl, J⟩)))))))
  · exact vi_fX0 hp (br_t rfl (vi_nY0 hp (br_t rfl ⟨rfl, J⟩)))
theorem vi_marksY {post : Int32 → Prop} {m us di : Nat → Int32} (c : Int32) (w f e : Nat → Int32) {p : Int32} (hm : ∀ j, vi_M (m j) (us j) (di j)) (hp : vp_in p 16) (h : post (m p.toNatClampNeg)) : wpY_marks post (c, w, f, e, us, di) p := by
  have q := hm p.toNatClampNeg
  unfold vi_M at q; rw [q] at h
  unfold wpY_marks wY_marks_22; dsimp only
  refine vi_pY1 hp (br_f vi_ne ⟨hp, ?_⟩)
  by_cases a : us p.toNatClampNeg = 0
  · rw [if_pos a] at h
    refine br_t a ⟨hp, ?_⟩
    by_cases b : di p.toNatClampNeg = 0
    · rw [if_pos b] at h; exact br_t b h
    · rw [if_neg b] at h; exact br_f b h
  · rw [if_neg a] at h
    refine br_f a ⟨hp, ?_⟩
    by_cases b : di p.toNatClampNeg = 0
    · rw [if_pos b] at h; exact br_t b h
    · rw [if_neg b] at h; exact br_f b h
theorem i_vc_marks {k : Nat} {u : SX} {v : SY} (I : i_Rel k u v) (hk : k + 4 ≤ 2048) (v1 : Int32) : wpX_marks (fun r => wpY_marks (fun r' => r' = r ∧ i_Rel (k + 4) u v) v v1) u v1 := by
  have J := i_up I
  obtain ⟨c, w, f, e, m, us, di, rfl, rfl, hf, hm⟩ := I
  unfold wpX_marks; dsimp only
  by_cases hp : vp_in v1 16
  · exact vi_pX1 hp (br_f vi_ne ⟨hp, vi_marksY c w f e hm hp ⟨rfl, J⟩⟩)
  · refine vi_pX0 hp (br_t rfl ?_)
    unfold wpY_marks; dsimp only
    exact vi_pY0 hp (br_t rfl ⟨rfl, J⟩)
theorem i_vc_clearMarks {k : Nat} {u : SX} {v : SY} (I : i_Rel k u v) (hk : k + 4 ≤ 2048) (v1 : Int32) : wpX_clearMarks (fun r u' => wpY_clearMarks (fun r' v' => r' = r ∧ i_Rel (k + 4) u' v') v v1) u v1 := by
  have J := i_up I
  obtain ⟨c, w, f, e, m, us, di, rfl, rfl, hf, hm⟩ := I
  unfold wpX_clearMarks wpY_clearMarks; dsimp only
  by_cases hp : vp_in v1 16
  · refine vi_pX1 hp (br_f vi_ne ⟨hp, nm_e ⟨hp, nm_e ?_⟩⟩)
    refine vi_marksY c w f e hm hp (vi_pY1 hp (br_f vi_ne ⟨hp, nm_e ⟨hp, nm_e ⟨rfl, ?_⟩⟩⟩))
    exact vi_mk _ _ _ _ _ _ _ _ hf (vi_u3 hm vi_M0)
  · refine vi_pX0 hp (br_t rfl ?_)
    unfold wpY_marks; dsimp only
    exact vi_pY0 hp (br_t rfl (vi_pY0 hp (br_t rfl ⟨rfl, J⟩)))
theorem i_vc_flush {k : Nat} {u : SX} {v : SY} (I : i_Rel k u v) (hk : k + 4 ≤ 2048) : wpX_flush (fun u' => wpY_flush (fun v' => i_Rel (k + 4) u' v') v) u := by
  have J := i_up I
  obtain ⟨c, w, f, e, m, us, di, rfl, rfl, hf, hm⟩ := I
  exact J
theorem i_vc_forget {k : Nat} {u : SX} {v : SY} (I : i_Rel k u v) (hk : k + 4 ≤ 2048) (v1 : Int32) : wpX_forget (fun r => wpY_forget (fun r' => r' = r ∧ i_Rel (k + 4) u v) v v1) u v1 := by
  have J := i_up I
  obtain ⟨c, w, f, e, m, us, di, rfl, rfl, hf, hm⟩ := I
  unfold wpX_forget wpY_forget; dsimp only
  by_cases hp : vp_in v1 16
  · exact vi_pX1 hp (br_f vi_ne (vi_pY1 hp (br_f vi_ne ⟨rfl, J⟩)))
  · exact vi_pX0 hp (br_t rfl (vi_pY0 hp (br_t rfl ⟨rfl, J⟩)))
theorem i_vc_warm {k : Nat} {u : SX} {v : SY} (I : i_Rel k u v) (hk : k + 4 ≤ 2048) (v1 : Int32) : wpX_warm (fun r => wpY_warm (fun r' => r' = r ∧ i_Rel (k + 4) u v) v v1) u v1 := by
  have J := i_up I
  obtain ⟨c, w, f, e, m, us, di, rfl, rfl, hf, hm⟩ := I
  unfold wpX_warm wpY_warm; dsimp only
  by_cases hp : vp_in v1 8
  · exact vi_fX1 hp (br_f vi_ne (vi_nY1 hp (br_f vi_ne ⟨rfl, J⟩)))
  · exact vi_fX0 hp (br_t rfl (vi_nY0 hp (br_t rfl ⟨rfl, J⟩)))
end
section
theorem vi_a1 : ¬ (-1 : Int32) = 0 := by decide
theorem vi_a2 : ¬ (-2 : Int32) = 0 := by decide
theorem vi_a3 : ¬ (-3 : Int32) = 0 := by decide
section
variable {post : Int32 → Prop} {c : Int32} {w f e m : Nat → Int32} {p q : Int32}
theorem vi_rp (hp : ¬ vp_in p 16) (a : post (-1)) : wpX_loadRefusal post (c, w, f, e, m) p q := by
  unfold wpX_loadRefusal; dsimp only
  exact vi_pX0 hp (br_t rfl a)
theorem vi_rq (hp : vp_in p 16) (hq : ¬ vp_in q 8) (a : post (-1)) : wpX_loadRefusal post (c, w, f, e, m) p q := by
  unfold wpX_loadRefusal; dsimp only
  exact vi_pX1 hp (br_f vi_ne (vi_wX0 hq (br_t rfl a)))
theorem vi_ru (hp : vp_in p 16) (hq : vp_in q 8) (z : f p.toNatClampNeg = -2) (a : post (-2)) : wpX_loadRefusal post (c, w, f, e, m) p q := by
  unfold wpX_loadRefusal; dsimp only
  exact vi_pX1 hp (br_f vi_ne (vi_wX1 hq (br_f vi_ne ⟨hp, vi_fX0 (vi_Fu z) (br_t rfl a)⟩)))
theorem vi_r0 (hp : vp_in p 16) (hq : vp_in q 8) (z : vp_in (f p.toNatClampNeg) 8) (a : post 0) : wpX_loadRefusal post (c, w, f, e, m) p q := by
  unfold wpX_loadRefusal; dsimp only
  exact vi_pX1 hp (br_f vi_ne (vi_wX1 hq (br_f vi_ne ⟨hp, vi_fX1 z (br_f vi_ne a)⟩)))
theorem vi_sp (hp : ¬ vp_in p 16) (a : post (-1)) : wpX_storeRefusal post (c, w, f, e, m) p q := by
  unfold wpX_storeRefusal; dsimp only
  exact vi_rp hp (br_f vi_a1 a)
theorem vi_sq (hp : vp_in p 16) (hq : ¬ vp_in q 8) (a : post (-1)) : wpX_storeRefusal post (c, w, f, e, m) p q := by
  unfold wpX_storeRefusal; dsimp only
  exact vi_rq hp hq (br_f vi_a1 a)
theorem vi_su (hp : vp_in p 16) (hq : vp_in q 8) (z : f p.toNatClampNeg = -2) (a : post (-2)) : wpX_storeRefusal post (c, w, f, e, m) p q := by
  unfold wpX_storeRefusal; dsimp only
  exact vi_ru hp hq z (br_f vi_a2 a)
theorem vi_sr (hp : vp_in p 16) (hq : vp_in q 8) (z : vp_in (f p.toNatClampNeg) 8) (y : e p.toNatClampNeg = 0) (a : post (-3)) : wpX_storeRefusal post (c, w, f, e, m) p q := by
  unfold wpX_storeRefusal; dsimp only
  exact vi_r0 hp hq z (br_t rfl ⟨hp, br_t y a⟩)
theorem vi_s0 (hp : vp_in p 16) (hq : vp_in q 8) (z : vp_in (f p.toNatClampNeg) 8) (y : ¬ e p.toNatClampNeg = 0) (a : post 0) : wpX_storeRefusal post (c, w, f, e, m) p q := by
  unfold wpX_storeRefusal; dsimp only
  exact vi_r0 hp hq z (br_t rfl ⟨hp, br_f y a⟩)
end
section
variable {post : Int32 → SX → Prop} {c : Int32} {w f e m : Nat → Int32} {p q x : Int32}
theorem vi_ex (hp : vp_in p 16) (hq : vp_in q 8) (z : vp_in (f p.toNatClampNeg) 8)
    (a : post (w (8 * f p.toNatClampNeg + q).toNatClampNeg) (c, upd w (8 * f p.toNatClampNeg + q).toNatClampNeg x, f, e, upd m p.toNatClampNeg (m p.toNatClampNeg ||| 3))) :
    wpX_exchange post (c, w, f, e, m) p q x := by
  unfold wpX_exchange wpX_place; dsimp only; rw [vi_pl]
  exact ⟨hp, vi_at z hq, nm_e ⟨vi_at z hq, nm_e ⟨hp, hp, nm_e a⟩⟩⟩
end
section
variable {post : Int32 → SY → Prop} {c : Int32} {w f e us di : Nat → Int32} {p q : Int32}
theorem vi_mp (hp : ¬ vp_in p 16) (a : post 0 (-1, w, f, e, us, di)) : wpY_mayStore post (c, w, f, e, us, di) p q := by
  unfold wpY_mayStore wY_mayStore_17 wY_mayStore_52 wY_mayStore_76; dsimp only
  exact vi_pY0 hp (br_t rfl (br_f vi_a1 (br_f vi_a1 a)))
theorem vi_mq (hp : vp_in p 16) (hq : ¬ vp_in q 8) (a : post 0 (-1, w, f, e, us, di)) : wpY_mayStore post (c, w, f, e, us, di) p q := by
  unfold wpY_mayStore wY_mayStore_17 wY_mayStore_52 wY_mayStore_76; dsimp only
  exact vi_pY1 hp (br_f vi_ne (vi_nY0 hq (br_t rfl (br_f vi_a1 (br_f vi_a1 a)))))
theorem vi_mu (hp : vp_in p 16) (hq : vp_in q 8) (z : f p.toNatClampNeg = -2) (a : post 0 (-2, w, f, e, us, di)) : wpY_mayStore post (c, w, f, e, us, di) p q := by
  unfold wpY_mayStore wY_mayStore_17 wY_mayStore_52 wY_mayStore_76; dsimp only
  exact vi_pY1 hp (br_f vi_ne (vi_nY1 hq (br_f vi_ne ⟨hp, br_t z (br_f vi_a2 (br_f vi_a2 a))⟩)))
theorem vi_mr (hp : vp_in p 16) (hq : vp_in q 8) (z : ¬ f p.toNatClampNeg = -2) (y : e p.toNatClampNeg = 0) (a : post 0 (-3, w, f, e, us, di)) : wpY_mayStore post (c, w, f, e, us, di) p q := by
  unfold wpY_mayStore wY_mayStore_17 wY_mayStore_52 wY_mayStore_76; dsimp only
  exact vi_pY1 hp (br_f vi_ne (vi_nY1 hq (br_f vi_ne ⟨hp, br_f z ⟨hp, br_t y (br_f vi_a3 (br_f vi_a3 a))⟩⟩)))
theorem vi_m0 (hp : vp_in p 16) (hq : vp_in q 8) (z : ¬ f p.toNatClampNeg = -2) (y : ¬ e p.toNatClampNeg = 0)
    (a : post 1 (0, w, f, e, upd us p.toNatClampNeg (vp_nar .boolean 1), upd di p.toNatClampNeg (vp_nar .boolean 1))) : wpY_mayStore post (c, w, f, e, us, di) p q := by
  unfold wpY_mayStore wY_mayStore_17 wY_mayStore_52 wY_mayStore_76; dsimp only
  exact vi_pY1 hp (br_f vi_ne (vi_nY1 hq (br_f vi_ne ⟨hp, br_f z ⟨hp, br_f y (br_t rfl ⟨hp, nm_e ⟨hp, nm_e (br_t rfl a)⟩⟩)⟩⟩)))
end
theorem i_vc_load {k : Nat} {u : SX} {v : SY} (I : i_Rel k u v) (hk : k + 4 ≤ 2048) (v1 : Int32) (v2 : Int32) : wpX_load (fun r u' => wpY_load (fun r' v' => r' = r ∧ i_Rel (k + 4) u' v') v v1 v2) u v1 v2 := by
  obtain ⟨c, w, f, e, m, us, di, rfl, rfl, hf, hm⟩ := I
  unfold wpX_load wpY_load wY_load_17 wY_load_38 wpX_place; dsimp only; rw [vi_pl]
  by_cases hp : vp_in v1 16
  · by_cases hq : vp_in v2 8
    · by_cases z : f v1.toNatClampNeg = -2
      · exact vi_ru hp hq z (br_f vi_a2 (vi_pY1 hp (br_f vi_ne (vi_nY1 hq (br_f vi_ne ⟨hp, br_t z (br_f vi_a2 ⟨rfl, vi_mk _ _ _ _ _ _ _ _ hf hm⟩)⟩)))))
      · have hz := vi_Fn (hf _) z
        refine vi_r0 hp hq hz (br_t rfl ⟨hp, hp, nm_e ⟨hp, vi_at hz hq, ?_⟩⟩)
        refine vi_pY1 hp (br_f vi_ne (vi_nY1 hq (br_f vi_ne ⟨hp, br_f z (br_t rfl ⟨hp, nm_e ⟨hp, vi_at hz hq, rfl, ?_⟩⟩)⟩)))
        exact vi_mk _ _ _ _ _ _ _ _ hf (vi_u2 hm (vi_M1 (hm _)))
    · exact vi_rq hp hq (br_f vi_a1 (vi_pY1 hp (br_f vi_ne (vi_nY0 hq (br_t rfl (br_f vi_a1 ⟨rfl, vi_mk _ _ _ _ _ _ _ _ hf hm⟩))))))
  · exact vi_rp hp (br_f vi_a1 (vi_pY0 hp (br_t rfl (br_f vi_a1 ⟨rfl, vi_mk _ _ _ _ _ _ _ _ hf hm⟩))))
theorem i_vc_store {k : Nat} {u : SX} {v : SY} (I : i_Rel k u v) (hk : k + 4 ≤ 2048) (v1 : Int32) (v2 : Int32) (v3 : Int32) : wpX_store (fun r u' => wpY_store (fun r' v' => r' = r ∧ i_Rel (k + 4) u' v') v v1 v2 v3) u v1 v2 v3 := by
  obtain ⟨c, w, f, e, m, us, di, rfl, rfl, hf, hm⟩ := I
  unfold wpX_store wpY_store; dsimp only
  by_cases hp : vp_in v1 16
  · by_cases hq : vp_in v2 8
    · by_cases z : f v1.toNatClampNeg = -2
      · exact vi_su hp hq z (br_f vi_a2 (vi_mu hp hq z (br_t rfl ⟨rfl, vi_mk _ _ _ _ _ _ _ _ hf hm⟩)))
      · have hz := vi_Fn (hf _) z
        by_cases y : e v1.toNatClampNeg = 0
        · exact vi_sr hp hq hz y (br_f vi_a3 (vi_mr hp hq z y (br_t rfl ⟨rfl, vi_mk _ _ _ _ _ _ _ _ hf hm⟩)))
        · refine vi_s0 hp hq hz y (br_t rfl (vi_ex hp hq hz ?_))
          refine vi_m0 hp hq z y (br_f vi_ne ⟨hp, vi_at hz hq, nm_e ⟨rfl, ?_⟩⟩)
          exact vi_mk _ _ _ _ _ _ _ _ hf (vi_u3 hm (vi_M3 (hm _)))
    · exact vi_sq hp hq (br_f vi_a1 (vi_mq hp hq (br_t rfl ⟨rfl, vi_mk _ _ _ _ _ _ _ _ hf hm⟩)))
  · exact vi_sp hp (br_f vi_a1 (vi_mp hp (br_t rfl ⟨rfl, vi_mk _ _ _ _ _ _ _ _ hf hm⟩)))
theorem i_vc_trade {k : Nat} {u : SX} {v : SY} (I : i_Rel k u v) (hk : k + 4 ≤ 2048) (v1 : Int32) (v2 : Int32) (v3 : Int32) : wpX_trade (fun r u' => wpY_trade (fun r' v' => r' = r ∧ i_Rel (k + 4) u' v') v v1 v2 v3) u v1 v2 v3 := by
  obtain ⟨c, w, f, e, m, us, di, rfl, rfl, hf, hm⟩ := I
  unfold wpX_trade wpY_trade; dsimp only
  by_cases hp : vp_in v1 16
  · by_cases hq : vp_in v2 8
    · by_cases z : f v1.toNatClampNeg = -2
      · exact vi_su hp hq z (br_f vi_a2 (vi_mu hp hq z (br_t rfl ⟨rfl, vi_mk _ _ _ _ _ _ _ _ hf hm⟩)))
      · have hz := vi_Fn (hf _) z
        by_cases y : e v1.toNatClampNeg = 0
        · exact vi_sr hp hq hz y (br_f vi_a3 (vi_mr hp hq z y (br_t rfl ⟨rfl, vi_mk _ _ _ _ _ _ _ _ hf hm⟩)))
        · refine vi_s0 hp hq hz y (br_t rfl (vi_ex hp hq hz ?_))
          refine vi_m0 hp hq z y (br_f vi_ne ⟨hp, vi_at hz hq, nm_e ⟨hp, vi_at hz hq, nm_e ⟨rfl, ?_⟩⟩⟩)
          exact vi_mk _ _ _ _ _ _ _ _ hf (vi_u3 hm (vi_M3 (hm _)))
    · exact vi_sq hp hq (br_f vi_a1 (vi_mq hp hq (br_t rfl ⟨rfl, vi_mk _ _ _ _ _ _ _ _ hf hm⟩)))
  · exact vi_sp hp (br_f vi_a1 (vi_mp hp (br_t rfl ⟨rfl, vi_mk _ _ _ _ _ _ _ _ hf hm⟩)))
end
section
theorem vi_hi {n j : Nat} (h : n ≤ j) (hj : j < 2 ^ 31) : nI n ≤ nI j := nI_le h hj
theorem vi_fill : ∀ d j : Nat, j + d = 16 → ∀ f : Nat → Int32, (∀ q, vi_F (f q)) → ∃ f' : Nat → Int32, (∀ q, vi_F (f' q)) ∧
    (∀ (post : SX → Prop) (c : Int32) (w e m : Nat → Int32), post (c, w, f', e, m) → wX_init_43 post c (d + 1) (nI j) w f e m) ∧
    (∀ (post : SY → Prop) (c : Int32) (w e us di : Nat → Int32), post (c, w, f', e, us, di) → wY_init_46 post c (d + 1) (nI j) w f e us di) := by
  intro d
  induction d with
  | zero =>
    intro j hj f hf
    have h : (16 : Int32) ≤ nI j := nI_le (a := 16) (by omega) (by omega)
    exact ⟨f, hf, fun _ _ _ _ _ a => br_t h a, fun _ _ _ _ _ _ a => br_t h a⟩
  | succ d ih =>
    intro j hj f hf
    have h : ¬ (16 : Int32) ≤ nI j := nI_ge (b := 16) (by omega) (by decide)
    have hi : vp_in (nI j) 16 := vp_in_nI (by omega) (by decide)
    obtain ⟨f', hf', hX, hY⟩ := ih (j + 1) (by omega) (upd f (nI j).toNatClampNeg (-2)) (vi_u1 hf (Or.inl rfl))
    exact ⟨f', hf', fun post c w e m a => br_f h ⟨hi, nm_e (nm_r (nI_1 j) (hX post c w e m a))⟩,
      fun post c w e us di a => br_f h ⟨hi, nm_e (nm_r (nI_1 j) (hY post c w e us di a))⟩⟩
theorem vi_F0 : ∀ q : Nat, vi_F ((fun _ => 0 : Nat → Int32) q) := fun _ => Or.inr (vp_in_nI (n := 0) (by decide) (by decide))
theorem vi_M00 : ∀ q : Nat, vi_M ((fun _ => 0 : Nat → Int32) q) ((fun _ => 0 : Nat → Int32) q) ((fun _ => 0 : Nat → Int32) q) := fun _ => vi_M0
theorem i_vc0 : wpX_init (fun u => wpY_init (fun v => i_Rel 0 u v)) := by
  obtain ⟨f', hf', hX, hY⟩ := vi_fill 16 0 rfl _ vi_F0
  exact ⟨17, hX _ _ _ _ _ ⟨17, hY _ _ _ _ _ _ (vi_mk _ _ _ _ _ _ _ _ hf' vi_M00)⟩⟩
theorem vi_shown (x c c' : Int32) (w e m w' e' us di f : Nat → Int32) : ∀ d j : Nat, j + d = 16 → ∀ s : Int32, ∃ r : Int32,
    (∀ post : Int32 → Prop, post r → wX_shown_13 post x c w f e m (d + 1) s (nI j)) ∧
    (∀ post : Int32 → Prop, post r → wY_shown_14 post x c' w' f e' us di (d + 1) s (nI j)) := by
  intro d
  induction d with
  | zero =>
    intro j hj s
    have h : (16 : Int32) ≤ nI j := nI_le (a := 16) (by omega) (by omega)
    exact ⟨s, fun _ a => br_t h a, fun _ a => br_t h a⟩
  | succ d ih =>
    intro j hj s
    have h : ¬ (16 : Int32) ≤ nI j := nI_ge (b := 16) (by omega) (by decide)
    have hi : vp_in (nI j) 16 := vp_in_nI (by omega) (by decide)
    by_cases z : f (nI j).toNatClampNeg = x
    · obtain ⟨r, hX, hY⟩ := ih (j + 1) (by omega) (s + 1)
      exact ⟨r, fun post a => br_f h ⟨hi, br_t z (nm_e (nm_r (nI_1 j) (hX post a)))⟩, fun post a => br_f h ⟨hi, br_t z (nm_e (nm_r (nI_1 j) (hY post a)))⟩⟩
    · obtain ⟨r, hX, hY⟩ := ih (j + 1) (by omega) s
      exact ⟨r, fun post a => br_f h ⟨hi, br_f z (nm_r (nI_1 j) (hX post a))⟩, fun post a => br_f h ⟨hi, br_f z (nm_r (nI_1 j) (hY post a))⟩⟩
theorem i_vc_shown {k : Nat} {u : SX} {v : SY} (I : i_Rel k u v) (hk : k + 4 ≤ 2048) (v1 : Int32) : wpX_shown (fun r => wpY_shown (fun r' => r' = r ∧ i_Rel (k + 4) u v) v v1) u v1 := by
  have J := i_up I
  obtain ⟨c, w, f, e, m, us, di, rfl, rfl, hf, hm⟩ := I
  unfold wpX_shown wpY_shown; dsimp only
  by_cases hp : vp_in v1 8
  · obtain ⟨r, hX, hY⟩ := vi_shown v1 c c w e m w e us di f 16 0 rfl 0
    exact vi_fX1 hp (br_f vi_ne ⟨17, hX _ (vi_nY1 hp (br_f vi_ne ⟨17, hY _ ⟨rfl, J⟩⟩))⟩)
  · exact vi_fX0 hp (br_t rfl (vi_nY0 hp (br_t rfl ⟨rfl, J⟩)))
theorem vi_dirty (c c' : Int32) (w e m w' e' us di f f' : Nat → Int32) (hm : ∀ j, vi_M (m j) (us j) (di j)) : ∀ d j : Nat, j + d = 16 → ∀ s : Int32, ∃ r : Int32,
    (∀ post : Int32 → Prop, post r → wX_dirtyPages_4 post c w f e m (d + 1) s (nI j)) ∧
    (∀ post : Int32 → Prop, post r → wY_dirtyPages_4 post c' w' f' e' us di (d + 1) s (nI j)) := by
  intro d
  induction d with
  | zero =>
    intro j hj s
    have h : (16 : Int32) ≤ nI j := nI_le (a := 16) (by omega) (by omega)
    exact ⟨s, fun _ a => br_t h a, fun _ a => br_t h a⟩
  | succ d ih =>
    intro j hj s
    have h : ¬ (16 : Int32) ≤ nI j := nI_ge (b := 16) (by omega) (by decide)
    have hi : vp_in (nI j) 16 := vp_in_nI (by omega) (by decide)
    have hd := vi_Md (hm (nI j).toNatClampNeg)
    by_cases z : di (nI j).toNatClampNeg = 0
    · obtain ⟨r, hX, hY⟩ := ih (j + 1) (by omega) s
      exact ⟨r, fun post a => br_f h ⟨hi, br_t (hd.mpr z) (nm_r (nI_1 j) (hX post a))⟩, fun post a => br_f h ⟨hi, br_t z (nm_r (nI_1 j) (hY post a))⟩⟩
    · obtain ⟨r, hX, hY⟩ := ih (j + 1) (by omega) (s + 1)
      exact ⟨r, fun post a => br_f h ⟨hi, br_f (fun q => z (hd.mp q)) (nm_e (nm_r (nI_1 j) (hX post a)))⟩, fun post a => br_f h ⟨hi, br_f z (nm_e (nm_r (nI_1 j) (hY post a)))⟩⟩
theorem i_vc_dirtyPages {k : Nat} {u : SX} {v : SY} (I : i_Rel k u v) (hk : k + 4 ≤ 2048) : wpX_dirtyPages (fun r => wpY_dirtyPages (fun r' => r' = r ∧ i_Rel (k + 4) u v) v) u := by
  have J := i_up I
  obtain ⟨c, w, f, e, m, us, di, rfl, rfl, hf, hm⟩ := I
  obtain ⟨r, hX, hY⟩ := vi_dirty c c w e m w e us di f f hm 16 0 rfl 0
  exact ⟨17, hX _ ⟨17, hY _ ⟨rfl, J⟩⟩⟩
theorem vi_copy (x y c c' : Int32) (f e m f' e' us di : Nat → Int32) (hx : vp_in x 8) (hy : vp_in y 8) : ∀ d j : Nat, j + d = 8 → ∀ (s : Int32) (w : Nat → Int32), ∃ (r : Int32) (w' : Nat → Int32),
    (∀ post : Int32 → SX → Prop, post r (c, w', f, e, m) → wX_copyFrame_21 post x y c (d + 1) s (nI j) w f e m) ∧
    (∀ post : Int32 → SY → Prop, post r (c', w', f', e', us, di) → wY_copyFrame_23 post x y c' (d + 1) s (nI j) w f' e' us di) := by
  intro d
  induction d with
  | zero =>
    intro j hj s w
    have h : (8 : Int32) ≤ nI j := nI_le (a := 8) (by omega) (by omega)
    exact ⟨s, w, fun _ a => br_t h a, fun _ a => br_t h a⟩
  | succ d ih =>
    intro j hj s w
    have h : ¬ (8 : Int32) ≤ nI j := nI_ge (b := 8) (by omega) (by decide)
    have hi : vp_in (nI j) 8 := vp_in_nI (by omega) (by decide)
    have hX8 := vi_at hx hi
    have hY8 := vi_at hy hi
    by_cases z : w (8 * x + nI j).toNatClampNeg = w (8 * y + nI j).toNatClampNeg
    · obtain ⟨r, w', hX, hY⟩ := ih (j + 1) (by omega) s w
      refine ⟨r, w', fun post a => ?_, fun post a => br_f h ⟨hX8, hY8, br_t z (nm_r (nI_1 j) (hY post a))⟩⟩
      unfold wX_copyFrame_21 wpX_place; dsimp only; rw [vi_pl, vi_pl]
      exact br_f h ⟨hX8, hY8, br_t z (nm_r (nI_1 j) (hX post a))⟩
    · obtain ⟨r, w', hX, hY⟩ := ih (j + 1) (by omega) (s + 1) (upd w (8 * x + nI j).toNatClampNeg (w (8 * y + nI j).toNatClampNeg))
      refine ⟨r, w', fun post a => ?_, fun post a => br_f h ⟨hX8, hY8, br_f z ⟨hY8, hX8, nm_e (nm_e (nm_r (nI_1 j) (hY post a)))⟩⟩⟩
      unfold wX_copyFrame_21 wpX_place; dsimp only; rw [vi_pl, vi_pl]
      exact br_f h ⟨hX8, hY8, br_f z ⟨hY8, hX8, nm_e (nm_e (nm_r (nI_1 j) (hX post a)))⟩⟩
theorem i_vc_copyFrame {k : Nat} {u : SX} {v : SY} (I : i_Rel k u v) (hk : k + 4 ≤ 2048) (v1 : Int32) (v2 : Int32) : wpX_copyFrame (fun r u' => wpY_copyFrame (fun r' v' => r' = r ∧ i_Rel (k + 4) u' v') v v1 v2) u v1 v2 := by
  have J := i_up I
  obtain ⟨c, w, f, e, m, us, di, rfl, rfl, hf, hm⟩ := I
  unfold wpX_copyFrame wpY_copyFrame; dsimp only
  by_cases hp : vp_in v1 8
  · by_cases hq : vp_in v2 8
    · obtain ⟨r, w', hX, hY⟩ := vi_copy v1 v2 c c f e m f e us di hp hq 8 0 rfl 0 w
      exact vi_fX1 hp (br_f vi_ne (vi_fX1 hq (br_f vi_ne ⟨9, hX _ (vi_nY1 hp (br_f vi_ne (vi_nY1 hq (br_f vi_ne ⟨9, hY _ ⟨rfl, vi_mk _ _ _ _ _ _ _ _ hf hm⟩⟩))))⟩)))
    · exact vi_fX1 hp (br_f vi_ne (vi_fX0 hq (br_t rfl (vi_nY1 hp (br_f vi_ne (vi_nY0 hq (br_t rfl ⟨rfl, J⟩)))))))
  · exact vi_fX0 hp (br_t rfl (vi_nY0 hp (br_t rfl ⟨rfl, J⟩)))
end

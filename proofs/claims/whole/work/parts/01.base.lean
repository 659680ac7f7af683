/-- the marks of one page: the component's number against the reference's two flags -/
def vi_M (m us di : Int32) : Prop := m = (if us = 0 then 0 else 1) + (if di = 0 then 0 else 2)
/-- what a page holds of a frame: nothing, or one of the eight -/
def vi_F (f : Int32) : Prop := f = -2 ∨ vp_in f 8
/-- both keep words, frames, rights and the last fault alike; the marks by vi_M -/
def i_Rel (_ : Nat) (u : SX) (v : SY) : Prop :=
  ∃ (c : Int32) (w f e m us di : Nat → Int32), u = (c, w, f, e, m) ∧ v = (c, w, f, e, us, di) ∧
    (∀ j, vi_F (f j)) ∧ (∀ j, vi_M (m j) (us j) (di j))
theorem i_up {k : Nat} {u : SX} {v : SY} (h : i_Rel k u v) : i_Rel (k + 4) u v := h
theorem vi_mk (k : Nat) (c : Int32) (w f e m us di : Nat → Int32) (hf : ∀ j, vi_F (f j)) (hm : ∀ j, vi_M (m j) (us j) (di j)) :
    i_Rel k (c, w, f, e, m) (c, w, f, e, us, di) := ⟨c, w, f, e, m, us, di, rfl, rfl, hf, hm⟩
theorem vi_ne : ¬ (1 : Int32) = 0 := by decide
theorem vi_n0 : vp_nar .boolean 0 = 0 := by decide
theorem vi_n1 : vp_nar .boolean 1 = 1 := by decide
theorem vi_M0 : vi_M 0 (vp_nar .boolean 0) (vp_nar .boolean 0) := by
  rw [vi_n0]; unfold vi_M; decide
theorem vi_M1 {m us di : Int32} (h : vi_M m us di) : vi_M (m ||| 1) (vp_nar .boolean 1) di := by
  rw [vi_n1]; unfold vi_M at h ⊢; rw [h, if_neg vi_ne]
  by_cases a : us = 0
  · rw [if_pos a]
    by_cases b : di = 0
    · rw [if_pos b]; decide
    · rw [if_neg b]; decide
  · rw [if_neg a]
    by_cases b : di = 0
    · rw [if_pos b]; decide
    · rw [if_neg b]; decide
theorem vi_M3 {m us di : Int32} (h : vi_M m us di) : vi_M (m ||| 3) (vp_nar .boolean 1) (vp_nar .boolean 1) := by
  rw [vi_n1]; unfold vi_M at h ⊢; rw [h, if_neg vi_ne, if_neg vi_ne]
  by_cases a : us = 0
  · rw [if_pos a]
    by_cases b : di = 0
    · rw [if_pos b]; decide
    · rw [if_neg b]; decide
  · rw [if_neg a]
    by_cases b : di = 0
    · rw [if_pos b]; decide
    · rw [if_neg b]; decide
theorem vi_Md {m us di : Int32} (h : vi_M m us di) : (m &&& 2) = 0 ↔ di = 0 := by
  unfold vi_M at h; rw [h]
  by_cases a : us = 0
  · rw [if_pos a]
    by_cases b : di = 0
    · rw [if_pos b]; exact ⟨fun _ => b, fun _ => by decide⟩
    · rw [if_neg b]; exact ⟨fun z => absurd z (by decide), fun z => absurd z b⟩
  · rw [if_neg a]
    by_cases b : di = 0
    · rw [if_pos b]; exact ⟨fun _ => b, fun _ => by decide⟩
    · rw [if_neg b]; exact ⟨fun z => absurd z (by decide), fun z => absurd z b⟩
/-- a point's write keeps a fact of every place -/
theorem vi_u1 {P : Int32 → Prop} {f : Nat → Int32} {k : Nat} {x : Int32} (h : ∀ j, P (f j)) (hx : P x) : ∀ j, P (upd f k x j) := by
  intro j; unfold upd
  by_cases e : j = k
  · rw [if_pos e]; exact hx
  · rw [if_neg e]; exact h j
theorem vi_u3 {m us di : Nat → Int32} {k : Nat} {a b c : Int32} (h : ∀ j, vi_M (m j) (us j) (di j)) (hx : vi_M a b c) :
    ∀ j, vi_M (upd m k a j) (upd us k b j) (upd di k c j) := by
  intro j; unfold upd
  by_cases e : j = k
  · rw [if_pos e, if_pos e, if_pos e]; exact hx
  · rw [if_neg e, if_neg e, if_neg e]; exact h j
theorem vi_u2 {m us di : Nat → Int32} {k : Nat} {a b : Int32} (h : ∀ j, vi_M (m j) (us j) (di j)) (hx : vi_M a b (di k)) :
    ∀ j, vi_M (upd m k a j) (upd us k b j) (di j) := by
  intro j; unfold upd
  by_cases e : j = k
  · rw [if_pos e, if_pos e, e]; exact hx
  · rw [if_neg e, if_neg e]; exact h j
theorem vi_in {p : Int32} {n : Nat} (hn : n < 2 ^ 31) : vp_in p n ↔ ¬ p < 0 ∧ ¬ nI n ≤ p := by
  constructor
  · intro h
    obtain ⟨j, hj, rfl⟩ := vp_in_of h hn
    exact ⟨nI_pos (by omega), nI_ge hj hn⟩
  · rintro ⟨h0, h1⟩
    obtain ⟨j, hj, rfl⟩ := nI_of h0
    rw [nI_leI hn hj] at h1
    exact vp_in_nI (by omega) hn
theorem vi_in' {p : Int32} {n : Nat} (hn : n + 1 < 2 ^ 31) : vp_in p (n + 1) ↔ ¬ p < 0 ∧ ¬ nI n < p := by
  constructor
  · intro h
    obtain ⟨j, hj, rfl⟩ := vp_in_of h hn
    exact ⟨nI_pos (by omega), nI_nlt (by omega) (by omega)⟩
  · rintro ⟨h0, h1⟩
    obtain ⟨j, hj, rfl⟩ := nI_of h0
    rw [nI_ltI (by omega) hj] at h1
    exact vp_in_nI (by omega) hn
theorem vi_br {c d A : Prop} {P Q R : Prop} (e : A ↔ ¬ c ∧ ¬ d) (h1 : A → R) (h0 : ¬ A → P) (hPQ : P → Q) :
    (c → P) ∧ (¬ c → ((d → Q) ∧ (¬ d → R))) := by
  by_cases hc : c
  · exact br_t hc (h0 (fun a => (e.mp a).1 hc))
  · refine br_f hc ?_
    by_cases hd : d
    · exact br_t hd (hPQ (h0 (fun a => (e.mp a).2 hd)))
    · exact br_f hd (h1 (e.mpr ⟨hc, hd⟩))
theorem vi_pX1 {post : Int32 → Prop} {p : Int32} (h : vp_in p 16) (a : post 1) : wpX_isPage post p :=
  vi_br (vi_in (by decide)) (fun _ => a) (fun z => absurd h z) id
theorem vi_pX0 {post : Int32 → Prop} {p : Int32} (h : ¬ vp_in p 16) (a : post 0) : wpX_isPage post p :=
  vi_br (vi_in (n := 16) (by decide)) (fun z => absurd z h) (fun _ => a) id
theorem vi_fX1 {post : Int32 → Prop} {p : Int32} (h : vp_in p 8) (a : post 1) : wpX_isFrame post p :=
  vi_br (vi_in (by decide)) (fun _ => a) (fun z => absurd h z) id
theorem vi_fX0 {post : Int32 → Prop} {p : Int32} (h : ¬ vp_in p 8) (a : post 0) : wpX_isFrame post p :=
  vi_br (vi_in (n := 8) (by decide)) (fun z => absurd z h) (fun _ => a) id
theorem vi_wX1 {post : Int32 → Prop} {p : Int32} (h : vp_in p 8) (a : post 1) : wpX_isWord post p :=
  vi_br (vi_in (by decide)) (fun _ => a) (fun z => absurd h z) id
theorem vi_wX0 {post : Int32 → Prop} {p : Int32} (h : ¬ vp_in p 8) (a : post 0) : wpX_isWord post p :=
  vi_br (vi_in (n := 8) (by decide)) (fun z => absurd z h) (fun _ => a) id
theorem vi_pY1 {post : Int32 → Prop} {u : SY} {p : Int32} (h : vp_in p 16) (a : post 1) : wpY_isPage post u p :=
  vi_br (vi_in' (n := 15) (by decide)) (fun _ => a) (fun z => absurd h z) id
theorem vi_pY0 {post : Int32 → Prop} {u : SY} {p : Int32} (h : ¬ vp_in p 16) (a : post 0) : wpY_isPage post u p :=
  vi_br (vi_in' (n := 15) (by decide)) (fun z => absurd z h) (fun _ => a) id
theorem vi_nY1 {post : Int32 → Prop} {u : SY} {p : Int32} (h : vp_in p 8) (a : post 1) : wpY_isNumber post u p :=
  vi_br (vi_in' (n := 7) (by decide)) (fun _ => a) (fun z => absurd h z) id
theorem vi_nY0 {post : Int32 → Prop} {u : SY} {p : Int32} (h : ¬ vp_in p 8) (a : post 0) : wpY_isNumber post u p :=
  vi_br (vi_in' (n := 7) (by decide)) (fun z => absurd z h) (fun _ => a) id
theorem vi_un : ¬ vp_in (-2) 8 := fun h => absurd (vp_in_iff.mp h).1 (by decide)
theorem vi_Fn {x : Int32} (h : vi_F x) (hn : ¬ x = -2) : vp_in x 8 := h.resolve_left hn
theorem vi_Fu {x : Int32} (h : x = -2) : ¬ vp_in x 8 := h ▸ vi_un
theorem vi_pl (a b : Int32) : a * 8 + b = 8 * a + b := by rw [Int32.mul_comm]
theorem vi_at {a b : Int32} (ha : vp_in a 8) (hb : vp_in b 8) : vp_in (8 * a + b) 64 := by
  obtain ⟨i, hi, rfl⟩ := vp_in_of ha (by decide)
  obtain ⟨j, hj, rfl⟩ := vp_in_of hb (by decide)
  have e : (8 : Int32) * nI i + nI j = nI (8 * i + j) := by
    rw [← nI_add]; exact congrArg (· + nI j) (Int32.ofNat_mul 8 i).symm
  rw [e]; exact vp_in_nI (by omega) (by decide)

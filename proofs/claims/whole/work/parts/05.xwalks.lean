/-! the component's walks: tests, bits, loops over numbers -/
theorem tr_v {α : Sort _} {P : α → Prop} {a b : α} (e : a = b) (h : P b) : P a := by rw [e]; exact h
theorem tr_n10 : ¬ (1 : Int32) = 0 := by decide
def tr_F (n : Nat) (x : Int32) : Prop := ∃ j, j < n ∧ x = nI j
theorem tr_ge {n : Nat} {x : Int32} (h : ¬ tr_F n x) (h0 : ¬ x < 0) (hn : n < 2 ^ 31) : nI n ≤ x := by
  rcases pk_ix x hn with a | a | a
  · exact absurd a h0
  · exact a
  · exact absurd a h
theorem tr_gt {n : Nat} {x : Int32} (h : ¬ tr_F (n + 1) x) (h0 : ¬ x < 0) : nI n < x := by
  obtain ⟨j, hj, rfl⟩ := nI_of h0
  refine nI_lt ?_ hj
  by_cases z : j < n + 1
  · exact absurd ⟨j, z, rfl⟩ h
  · omega
theorem tr_xth_t {post : Int32 → Prop} {j : Nat} (h : j < 5) (hp : post 1) : wpX_isThing post (nI j) := br_f (nI_pos (by omega)) (br_f (nI_ge (b := 5) h (by decide)) hp)
theorem tr_xth_f {post : Int32 → Prop} {x : Int32} (h : ¬ tr_F 5 x) (hp : post 0) : wpX_isThing post x := by
  by_cases h0 : x < 0
  · exact br_t h0 hp
  · exact br_f h0 (br_t (tr_ge h h0 (by decide)) hp)
theorem tr_xre_t {post : Int32 → Prop} {j : Nat} (h : j < 5) (hp : post 1) : wpX_isRelation post (nI j) := br_f (nI_pos (by omega)) (br_f (nI_ge (b := 5) h (by decide)) hp)
theorem tr_xre_f {post : Int32 → Prop} {x : Int32} (h : ¬ tr_F 5 x) (hp : post 0) : wpX_isRelation post x := by
  by_cases h0 : x < 0
  · exact br_t h0 hp
  · exact br_f h0 (br_t (tr_ge h h0 (by decide)) hp)
theorem tr_xgi_t {post : Int32 → Prop} {j : Nat} (h : j < 2) (hp : post 1) : wpX_isGiven post (nI j) := br_f (nI_pos (by omega)) (br_f (nI_ge (b := 2) h (by decide)) hp)
theorem tr_xgi_f {post : Int32 → Prop} {x : Int32} (h : ¬ tr_F 2 x) (hp : post 0) : wpX_isGiven post x := by
  by_cases h0 : x < 0
  · exact br_t h0 hp
  · exact br_f h0 (br_t (tr_ge h h0 (by decide)) hp)
theorem tr_xpb {post : Int32 → Prop} {x y : Nat} (hp : post ((1 : Int32) <<< (nI (5 * x + y) &&& 31))) : wpX_pairBit post (nI x) (nI y) := by
  unfold wpX_pairBit
  rw [tr_5]
  exact hp
theorem tr_xrow {post : Int32 → Prop} {r : Int32} {x : Nat} (hp : post ((r >>> (nI (5 * x) &&& 31)) &&& 31)) : wpX_row post r (nI x) := by
  unfold wpX_row
  rw [tr_5s]
  exact hp
/-! turn -/
theorem tr_xt11 {post : Int32 → Prop} {J4 : Int32 → Int32 → Prop} {q : Int32} {x : Nat} (hx : x < 5) (hJ : ∀ t, tr_T q x 5 t → J4 t (nI (x + 1))) : ∀ d y t, y + d = 5 → tr_T q x y t → wX_turn_11 post J4 q (nI x) (d + 1) t (nI y) := by
  intro d
  induction d with
  | zero =>
    intro y t hy hT
    have e : y = 5 := by omega
    subst e
    exact br_t (by decide) (nm_r (nI_1 x) (hJ t hT))
  | succ d ih =>
    intro y t hy hT
    have hy5 : y < 5 := by omega
    refine br_f (nI_ge (b := 5) hy5 (by decide)) (tr_xpb ?_)
    by_cases hq : bt q (5 * x + y) = true
    · exact br_f (fun z => (tr_tst (by omega)).mp z hq) (tr_xpb (nm_e (nm_r (nI_1 y) (ih (y + 1) _ (by omega) (tr_Tt hx hy5 hq hT)))))
    · exact br_t ((tr_tst (by omega)).mpr hq) (nm_r (nI_1 y) (ih (y + 1) _ (by omega) (tr_Tf hq hT)))
theorem tr_xt4 {post : Int32 → Prop} {q : Int32} (hp : ∀ t, tr_T q 5 0 t → post t) : ∀ d x t, x + d = 5 → tr_T q x 0 t → wX_turn_4 post q (d + 1) t (nI x) := by
  intro d
  induction d with
  | zero =>
    intro x t hx hT
    have e : x = 5 := by omega
    subst e
    exact br_t (by decide) (hp t hT)
  | succ d ih =>
    intro x t hx hT
    have hx5 : x < 5 := by omega
    exact br_f (nI_ge (b := 5) hx5 (by decide)) ⟨6, tr_xt11 hx5 (fun t' h => ih (x + 1) t' (by omega) (tr_T5 h)) 5 0 t rfl hT⟩
theorem tr_xturn {post : Int32 → Prop} {q : Int32} (hp : ∀ t, tr_T q 5 0 t → post t) : wpX_turn post q := ⟨6, tr_xt4 hp 5 0 0 rfl (tr_T0 q)⟩
/-! join -/
theorem tr_xj12 {post : Int32 → Prop} {J4 : Int32 → Int32 → Prop} {q r : Int32} {x : Nat} (hx : x < 5) (hJ : ∀ t, tr_J q r x 5 t → J4 t (nI (x + 1))) : ∀ d z t, z + d = 5 → tr_J q r x z t → wX_join_12 post J4 q r (nI x) (d + 1) t (nI z) := by
  intro d
  induction d with
  | zero =>
    intro z t hz hT
    have e : z = 5 := by omega
    subst e
    exact br_t (by decide) (nm_r (nI_1 x) (hJ t hT))
  | succ d ih =>
    intro z t hz hT
    have hz5 : z < 5 := by omega
    refine br_f (nI_ge (b := 5) hz5 (by decide)) (tr_xpb ?_)
    by_cases hq : bt q (5 * x + z) = true
    · exact br_f (fun w => (tr_tst (by omega)).mp w hq) (tr_xrow (nm_r (e' := t ||| (((r >>> (nI (5 * z) &&& 31)) &&& 31) <<< (nI (5 * x) &&& 31))) (by rw [tr_5s]) (nm_r (nI_1 z) (ih (z + 1) _ (by omega) (tr_Jt hx hz5 hq hT)))))
    · exact br_t ((tr_tst (by omega)).mpr hq) (nm_r (nI_1 z) (ih (z + 1) _ (by omega) (tr_Jf hq hT)))
theorem tr_xj4 {post : Int32 → Prop} {q r : Int32} (hp : ∀ t, tr_J q r 5 0 t → post t) : ∀ d x t, x + d = 5 → tr_J q r x 0 t → wX_join_4 post q r (d + 1) t (nI x) := by
  intro d
  induction d with
  | zero =>
    intro x t hx hT
    have e : x = 5 := by omega
    subst e
    exact br_t (by decide) (hp t hT)
  | succ d ih =>
    intro x t hx hT
    have hx5 : x < 5 := by omega
    exact br_f (nI_ge (b := 5) hx5 (by decide)) ⟨6, tr_xj12 hx5 (fun t' h => ih (x + 1) t' (by omega) (tr_J5 h)) 5 0 t rfl hT⟩
theorem tr_xjoin {post : Int32 → Prop} {q r : Int32} (hp : ∀ t, tr_J q r 5 0 t → post t) : wpX_join post q r := ⟨6, tr_xj4 hp 5 0 0 rfl (tr_J0 q r)⟩
/-! keepStarts -/
theorem tr_xk4 {post : Int32 → Prop} {q r : Int32} (hp : ∀ t, tr_K q r 5 t → post t) : ∀ d x t, x + d = 5 → tr_K q r x t → wX_keepStarts_4 post q r (d + 1) t (nI x) := by
  intro d
  induction d with
  | zero =>
    intro x t hx hT
    have e : x = 5 := by omega
    subst e
    exact br_t (by decide) (hp t hT)
  | succ d ih =>
    intro x t hx hT
    have hx5 : x < 5 := by omega
    refine br_f (nI_ge (b := 5) hx5 (by decide)) (tr_xrow ?_)
    by_cases hr : ((r >>> (nI (5 * x) &&& 31)) &&& 31) = 0
    · exact br_t hr (nm_r (nI_1 x) (ih (x + 1) t (by omega) (tr_Kf hx5 hr hT)))
    · exact br_f hr (nm_r (e' := t ||| (q &&& ((31 : Int32) <<< (nI (5 * x) &&& 31)))) (by rw [tr_5s]) (nm_r (nI_1 x) (ih (x + 1) _ (by omega) (tr_Kt hx5 hr hT))))
theorem tr_xkeep {post : Int32 → Prop} {q r : Int32} (hp : ∀ t, tr_K q r 5 t → post t) : wpX_keepStarts post q r := ⟨6, tr_xk4 hp 5 0 0 rfl (tr_K0 q r)⟩
/-! consequence -/
theorem tr_xcq {post : Int32 → Prop} {f q r : Int32} (w : tr_W q) (hp : post (tr_cq f q r)) : wpX_consequence post f q r := by
  by_cases h0 : f < 0
  · refine br_t h0 (tr_xkeep fun t ht => ?_)
    refine tr_v (P := post) (tr_Ke ?_ ?_ ?_ ?_ ht) hp
    all_goals (intro e; rw [e] at h0; exact absurd h0 (by decide))
  · refine br_f h0 ?_
    by_cases h3 : 3 < f
    · refine br_t h3 (tr_xkeep fun t ht => ?_)
      refine tr_v (P := post) (tr_Ke ?_ ?_ ?_ ?_ ht) hp
      all_goals (intro e; rw [e] at h3; exact absurd h3 (by decide))
    · refine br_f h3 (br_c (fun e0 => tr_v (P := post) (tr_ce0 r w e0) hp) (fun n0 => br_c (fun e1 => tr_xturn fun t ht => tr_v (P := post) (tr_Te r n0 e1 ht) hp) (fun n1 => br_c (fun e2 => tr_xjoin fun t ht => tr_v (P := post) (tr_Je n0 n1 ?_ e2 ht) hp) (fun n2 => br_c (fun e3 => tr_v (P := post) (tr_ce3 w n0 n1 e3) hp) (fun _ => trivial)))))
      rw [e2]
      decide
/-! size -/
theorem tr_xs4 {post : Int32 → Prop} {v : Int32} (hp : post (nI (tr_sz v 25))) : ∀ d c, c + d = 25 → wX_size_4 post v (d + 1) (nI (tr_sz v c)) (nI c) := by
  intro d
  induction d with
  | zero =>
    intro c hc
    have e : c = 25 := by omega
    subst e
    exact br_t (by decide) hp
  | succ d ih =>
    intro c hc
    exact br_f (nI_ge (b := 25) (by omega) (by decide)) (nm_r (tr_szI v (by omega)) (nm_r (nI_1 c) (ih (c + 1) (by omega))))
theorem tr_xsize {post : Int32 → Prop} {v : Int32} (hp : post (nI (tr_sz v 25))) : wpX_size post v := ⟨26, tr_xs4 hp 25 0 rfl⟩
/-! isPart -/
theorem tr_xpart {post : Int32 → Prop} {p q : Int32} (h1 : tr_le p q → post 1) (h0 : ¬ tr_le p q → post 0) : wpX_isPart post p q := br_c (fun z => h1 (tr_part.mp z)) (fun z => h0 (fun y => z (tr_part.mpr y)))

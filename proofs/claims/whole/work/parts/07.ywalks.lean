/-! the reference's walks -/
theorem tr_n4 {j : Nat} (h : j < 5) : ¬ (4 : Int32) < nI j := nI_nlt (a := 4) (b := j) (by omega) (by decide)
theorem tr_y5t {post : Int32 → Prop} {th fm hd lf rt pr : Nat → Int32} {j : Nat} (h : j < 5) (hp : post 1) : wpY_five post (th, fm, hd, lf, rt, pr) (nI j) := br_f (nI_pos (by omega)) (br_f (tr_n4 h) hp)
theorem tr_y5f {post : Int32 → Prop} {th fm hd lf rt pr : Nat → Int32} {x : Int32} (h : ¬ tr_F 5 x) (hp : post 0) : wpY_five post (th, fm, hd, lf, rt, pr) x := by
  by_cases h0 : x < 0
  · exact br_t h0 hp
  · exact br_f h0 (br_t (tr_gt (n := 4) h h0) hp)
theorem tr_yin {post : Int32 → Prop} {th fm hd lf rt pr : Nat → Int32} {p x y : Nat} (hp : p < 5) (hx : x < 5) (hy : y < 5) (h1 : bt (pr p) (5 * x + y) = true → post 1) (h0 : ¬ bt (pr p) (5 * x + y) = true → post 0) : wpY_in post (th, fm, hd, lf, rt, pr) (nI p) (nI x) (nI y) := by
  have e : ((pr (nI p).toNatClampNeg) >>> (((5 * nI x) + nI y) &&& 31)) &&& 1 = if bt (pr p) (5 * x + y) = true then 1 else 0 := by rw [nI_clamp (by omega), tr_5, tr_bit _ (by omega)]
  refine ⟨vp_in_nI hp (by decide), ?_⟩
  by_cases h : bt (pr p) (5 * x + y) = true
  · rw [if_pos h] at e
    exact br_t e (h1 h)
  · rw [if_neg h] at e
    exact br_f (fun z => absurd (e.symm.trans z) (by decide)) (h0 h)
/-! says -/
theorem tr_ysl {post : Int32 → Prop} {th fm hd lf rt pr : Nat → Int32} {k x y q r : Nat} (hk : k < 8) (hq : q < 5) (hr : r < 5) (hx : x < 5) (hy : y < 5) {P : Nat → Bool}
    (hP2 : fm k = 2 → ∀ z, P z = (bt (pr q) (5 * x + z) && bt (pr r) (5 * z + y))) (hP4 : ¬ fm k = 2 → ∀ z, P z = (bt (pr q) (5 * x + y) && bt (pr r) (5 * x + z)))
    (h1 : tr_any P 5 = true → post 1) (h0 : ¬ tr_any P 5 = true → post 0) :
    ∀ d z, z + d = 5 → wY_says_108 post (nI k) (nI x) (nI y) (nI q) (nI r) th fm hd lf rt pr (d + 1) (if tr_any P z = true then 1 else 0) (nI z) := by
  intro d
  induction d with
  | zero =>
    intro z hz
    have e : z = 5 := by omega
    subst e
    by_cases ha : tr_any P 5 = true
    · rw [if_pos ha]; exact br_t (by decide) ⟨rfl, h1 ha⟩
    · rw [if_neg ha]; exact br_t (by decide) ⟨rfl, h0 ha⟩
  | succ d ih =>
    intro z hz
    have hz5 : z < 5 := by omega
    have ck : (nI k).toNatClampNeg = k := nI_clamp (by omega)
    have k8 : vp_in (nI k) 8 := vp_in_nI hk (by decide)
    have ih' := ih (z + 1) (by omega)
    rw [tr_anyS] at ih'
    have h5 : ¬ (5 : Int32) ≤ nI z := nI_ge (b := 5) hz5 (by decide)
    by_cases ha : tr_any P z = true
    · rw [if_pos ha]
      rw [if_pos (by rw [ha]; rfl)] at ih'
      exact br_f h5 (br_f tr_n10 (nm_r (nI_1 z) ih'))
    · rw [if_neg ha]
      have k1 : P z = true → wY_says_108 post (nI k) (nI x) (nI y) (nI q) (nI r) th fm hd lf rt pr (d + 1) 1 (nI (z + 1)) := fun b => by
        rw [if_pos (by rw [b, Bool.or_true])] at ih'
        exact ih'
      have k0 : ¬ P z = true → wY_says_108 post (nI k) (nI x) (nI y) (nI q) (nI r) th fm hd lf rt pr (d + 1) 0 (nI (z + 1)) := fun b => by
        rw [if_neg (fun w => ((Bool.or_eq_true _ _).mp w).elim ha b)] at ih'
        exact ih'
      refine br_f h5 (br_t rfl ⟨k8, br_c (fun c => ?_) (fun c => ?_)⟩)
      · rw [ck] at c
        have hP := hP2 c z
        exact tr_yin hq hx hz5 (fun b => br_f tr_n10 (tr_yin hr hz5 hy (fun b2 => br_f tr_n10 (nm_r (nI_1 z) (k1 (by rw [hP, b, b2]; rfl)))) (fun b2 => br_t rfl (nm_r (nI_1 z) (k0 (by rw [hP, Bool.and_eq_true]; exact fun w => b2 w.2)))))) (fun b => br_t rfl (nm_r (nI_1 z) (k0 (by rw [hP, Bool.and_eq_true]; exact fun w => b w.1))))
      · rw [ck] at c
        have hP := hP4 c z
        exact tr_yin hq hx hy (fun b => br_f tr_n10 (tr_yin hr hx hz5 (fun b2 => br_f tr_n10 (nm_r (nI_1 z) (k1 (by rw [hP, b, b2]; rfl)))) (fun b2 => br_t rfl (nm_r (nI_1 z) (k0 (by rw [hP, Bool.and_eq_true]; exact fun w => b2 w.2)))))) (fun b => br_t rfl (nm_r (nI_1 z) (k0 (by rw [hP, Bool.and_eq_true]; exact fun w => b w.1))))
theorem tr_ysays {post : Int32 → Prop} {th fm hd lf rt pr : Nat → Int32} {k x y q r : Nat} (hk : k < 8) (hq : q < 5) (hr : r < 5) (hx : x < 5) (hy : y < 5) (el : lf k = nI q) (er : rt k = nI r)
    (h1 : tr_sy (fm k) (pr q) (pr r) x y = true → post 1) (h0 : ¬ tr_sy (fm k) (pr q) (pr r) x y = true → post 0) : wpY_says post (th, fm, hd, lf, rt, pr) (nI k) (nI x) (nI y) := by
  have ck : (nI k).toNatClampNeg = k := nI_clamp (by omega)
  have k8 : vp_in (nI k) 8 := vp_in_nI hk (by decide)
  refine ⟨k8, nm_r (e' := nI q) (by rw [ck]; exact el) ⟨k8, nm_r (e' := nI r) (by rw [ck]; exact er) ⟨k8, br_c (fun c => ?_) (fun c => ⟨k8, br_c (fun c1 => ?_) (fun c1 => ⟨k8, br_c (fun c3 => ?_) (fun c3 => ?_)⟩)⟩)⟩⟩⟩
  · have c' := c
    rw [ck] at c'
    rw [tr_sy0 _ _ _ _ c'] at h1 h0
    exact ⟨k8, br_t c (tr_yin hq hx hy (fun b => ⟨rfl, h1 b⟩) (fun b => ⟨rfl, h0 b⟩))⟩
  · have c' := c
    rw [ck] at c' c1
    rw [tr_sy1 _ _ _ _ c' c1] at h1 h0
    exact ⟨k8, br_f c (tr_yin hq hy hx (fun b => ⟨rfl, h1 b⟩) (fun b => ⟨rfl, h0 b⟩))⟩
  · rw [ck] at c c1 c3
    rw [tr_sy3 _ _ _ _ c c1 c3, Bool.and_eq_true] at h1 h0
    exact tr_yin hq hx hy (fun b => br_f tr_n10 (tr_yin hr hx hy (fun b2 => br_f tr_n10 (h1 ⟨b, b2⟩)) (fun b2 => br_t rfl (h0 (fun w => b2 w.2))))) (fun b => br_t rfl (h0 (fun w => b w.1)))
  · rw [ck] at c c1 c3
    by_cases c2 : fm k = 2
    · rw [tr_sy2 _ _ _ _ c c1 c3 c2] at h1 h0
      exact ⟨6, tr_ysl hk hq hr hx hy (fun _ z => rfl) (fun n => absurd c2 n) h1 h0 5 0 rfl⟩
    · rw [tr_sy4 _ _ _ _ c c1 c3 c2] at h1 h0
      exact ⟨6, tr_ysl hk hq hr hx hy (fun n => absurd n c2) (fun _ z => rfl) h1 h0 5 0 rfl⟩
/-! use -/
theorem tr_yu17 {post : Int32 → SY → Prop} {th fm hd lf rt pr : Nat → Int32} {k q r h : Nat} (hk : k < 8) (hq : q < 5) (hr : r < 5) (hh : h < 5) (el : lf k = nI q) (er : rt k = nI r) (eh : hd k = nI h)
    (hp : ∀ g, (g = 0 ∨ g = 1) → (g = 0 → tr_st fm hd lf rt k pr = pr) → post g (th, fm, hd, lf, rt, tr_st fm hd lf rt k pr)) :
    ∀ d c, c + d = 25 → wY_use_17 post (nI k) (pr h) th fm hd lf rt pr (d + 1) (pr h ||| tr_mk (fun c => tr_sy (fm k) (pr q) (pr r) (c / 5) (c % 5)) c) (nI c) := by
  have ck : (nI k).toNatClampNeg = k := nI_clamp (by omega)
  have k8 : vp_in (nI k) 8 := vp_in_nI hk (by decide)
  have h5 : vp_in (hd (nI k).toNatClampNeg) 5 := by rw [ck, eh]; exact vp_in_nI hh (by decide)
  have es : upd pr (hd (nI k).toNatClampNeg).toNatClampNeg (pr h ||| tr_cq (fm k) (pr q) (pr r)) = tr_st fm hd lf rt k pr := by
    unfold tr_st
    rw [ck, eh, el, er, nI_clamp (by omega), nI_clamp (by omega), nI_clamp (by omega)]
  intro d
  induction d with
  | zero =>
    intro c hc
    have e : c = 25 := by omega
    subst e
    refine br_t (by decide) ⟨k8, h5, nm_r es (br_c (fun e => hp 0 (Or.inl rfl) (fun _ => ?_)) (fun e => hp 1 (Or.inr rfl) (fun z => absurd z (by decide))))⟩
    rw [← es]
    refine tr_upd ?_
    rw [ck, eh, nI_clamp (by omega)]
    exact e
  | succ d ih =>
    intro c hc
    have e5 : nI c / 5 = nI (c / 5) := pk_div (d := 5) (by omega) (by decide) (by decide)
    have em : nI c - nI c / 5 * 5 = nI (c % 5) := pk_rem (d := 5) (by omega) (by decide) (by decide)
    have ih' := ih (c + 1) (by omega)
    rw [tr_mkS] at ih'
    refine br_f (nI_ge (b := 25) (by omega) (by decide)) ⟨by decide, by decide, ?_⟩
    rw [em, e5]
    refine tr_ysays hk hq hr (by omega) (by omega) el er (fun b => ?_) (fun b => ?_)
    · rw [if_pos b] at ih'
      exact br_f tr_n10 (nm_r (Int32.or_assoc _ _ _) (nm_r (nI_1 c) ih'))
    · rw [if_neg b] at ih'
      exact br_t rfl (nm_r (nI_1 c) ih')
theorem tr_yuse {post : Int32 → SY → Prop} {th fm hd lf rt pr : Nat → Int32} {k q r h : Nat} (hk : k < 8) (hq : q < 5) (hr : r < 5) (hh : h < 5) (el : lf k = nI q) (er : rt k = nI r) (eh : hd k = nI h)
    (hp : ∀ g, (g = 0 ∨ g = 1) → (g = 0 → tr_st fm hd lf rt k pr = pr) → post g (th, fm, hd, lf, rt, tr_st fm hd lf rt k pr)) : wpY_use post (th, fm, hd, lf, rt, pr) (nI k) := by
  have ck : (nI k).toNatClampNeg = k := nI_clamp (by omega)
  have k8 : vp_in (nI k) 8 := vp_in_nI hk (by decide)
  have h5 : vp_in (hd (nI k).toNatClampNeg) 5 := by rw [ck, eh]; exact vp_in_nI hh (by decide)
  have hl := tr_yu17 hk hq hr hh el er eh hp 25 0 rfl
  have e0 : (pr h ||| tr_mk (fun c => tr_sy (fm k) (pr q) (pr r) (c / 5) (c % 5)) 0) = pr h := Int32.or_zero
  rw [e0] at hl
  exact ⟨k8, h5, nm_r (e' := pr h) (by rw [ck, eh, nI_clamp (by omega)]) ⟨26, hl⟩⟩
/-! work -/
theorem tr_yw62 {post : SY → Prop} {J25 J39 : Int32 → Int32 → (Nat → Int32) → (Nat → Int32) → (Nat → Int32) → (Nat → Int32) → (Nat → Int32) → (Nat → Int32) → Prop} {g c : Int32} {k : Nat} {th fm hd lf rt pr : Nat → Int32} (hg : g = 0 ∨ g = 1) (h : J39 g (nI (k + 1)) th fm hd lf rt pr) : wY_work_62 post J25 J39 g c (nI k) th fm hd lf rt pr := by
  rcases hg with e | e
  · subst e; exact br_t rfl (nm_r (nI_1 k) h)
  · subst e; exact br_f tr_n10 (nm_r (nI_1 k) h)
theorem tr_yw39 {post : SY → Prop} {J25 : Int32 → Int32 → (Nat → Int32) → (Nat → Int32) → (Nat → Int32) → (Nat → Int32) → (Nat → Int32) → (Nat → Int32) → Prop} {m : Int32} {c : Nat} {th fm hd lf rt R : Nat → Int32} (H : tr_H m hd) (Vl : tr_V lf) (Vr : tr_V rt) (ht : ∀ k, k < 8 → th k = if bt m k = true then 1 else 0)
    (hJ : ∀ g, (g = 0 ∨ g = 1) → (g = 0 → tr_rd m fm hd lf rt 8 R = R) → J25 g (nI (c + 1)) th fm hd lf rt (tr_rd m fm hd lf rt 8 R)) :
    ∀ d k g, k + d = 8 → (g = 0 ∨ g = 1) → (g = 0 → tr_rd m fm hd lf rt k R = R) → wY_work_39 post J25 (nI c) (d + 1) g (nI k) th fm hd lf rt (tr_rd m fm hd lf rt k R) := by
  intro d
  induction d with
  | zero =>
    intro k g hk hg hz
    have e : k = 8 := by omega
    subst e
    exact br_t (by decide) (nm_r (nI_1 c) (hJ g hg hz))
  | succ d ih =>
    intro k g hk hg hz
    have hk8 : k < 8 := by omega
    have ck : (nI k).toNatClampNeg = k := nI_clamp (by omega)
    have k8 : vp_in (nI k) 8 := vp_in_nI hk8 (by decide)
    have t := ht k hk8
    have ih' := ih (k + 1)
    rw [tr_rdS] at ih'
    refine br_f (nI_ge (b := 8) hk8 (by decide)) ⟨k8, ?_⟩
    by_cases hm : bt m k = true
    · rw [if_pos hm] at t ih'
      obtain ⟨h, h2, h4, eh⟩ := H k hk8 hm
      obtain ⟨l, hl, el⟩ := Vl k hk8
      obtain ⟨r, hr, er⟩ := Vr k hk8
      refine br_f (by rw [ck, t]; exact tr_n10) (tr_yuse hk8 hl hr (by omega) el er eh (fun g' hg' hz' => br_c (fun e => ?_) (fun e => ?_)))
      · exact tr_yw62 hg (ih' g (by omega) hg (fun z => (hz' e).trans (hz z)))
      · exact nm_r (nI_1 k) (ih' 1 (by omega) (Or.inr rfl) (fun z => absurd z (by decide)))
    · rw [if_neg hm] at t ih'
      exact br_t (by rw [ck, t]) (tr_yw62 hg (ih' g (by omega) hg hz))
theorem tr_yw25 {post : SY → Prop} {m : Int32} {th fm hd lf rt Q : Nat → Int32} (H : tr_H m hd) (Vl : tr_V lf) (Vr : tr_V rt) (ht : ∀ k, k < 8 → th k = if bt m k = true then 1 else 0) (hp : post (th, fm, hd, lf, rt, Q)) :
    ∀ d c g R, c + d = 76 → (g = 0 ∨ g = 1) → (g = 0 → tr_rd m fm hd lf rt 8 R = R) → tr_it (tr_rd m fm hd lf rt 8) d R = Q → wY_work_25 post (d + 1) g (nI c) th fm hd lf rt R := by
  intro d
  induction d with
  | zero =>
    intro c g R hc hg hz hQ
    have e : c = 76 := by omega
    subst e
    have e2 : R = Q := hQ
    subst e2
    exact br_t (by decide) hp
  | succ d ih =>
    intro c g R hc hg hz hQ
    refine br_f (nI_ge (b := 76) (by omega) (by decide)) ?_
    by_cases g0 : g = 0
    · have e2 : R = Q := (tr_itf (hz g0) (d + 1)).symm.trans hQ
      subst e2
      exact br_t g0 hp
    · exact br_f g0 ⟨9, tr_yw39 (R := R) H Vl Vr ht (fun g' hg' hz' => ih (c + 1) g' _ (by omega) hg' (fun z => congrArg (tr_rd m fm hd lf rt 8) (hz' z)) hQ) 8 0 0 rfl (Or.inl rfl) (fun _ => rfl)⟩
theorem tr_ywork {post : SY → Prop} {m : Int32} {th fm hd lf rt pr : Nat → Int32} (H : tr_H m hd) (Vl : tr_V lf) (Vr : tr_V rt) (ht : ∀ k, k < 8 → th k = if bt m k = true then 1 else 0) (hp : post (th, fm, hd, lf, rt, tr_D m fm hd lf rt pr)) : wpY_work post (th, fm, hd, lf, rt, pr) :=
  nm_e (nm_e (nm_e ⟨77, tr_yw25 H Vl Vr ht hp 76 0 1 (tr_z pr) rfl (Or.inr rfl) (fun z => absurd z (by decide)) rfl⟩))
/-! ones, is, to, transitive, give -/
theorem tr_yo4 {post : Int32 → Prop} {v : Int32} {th fm hd lf rt pr : Nat → Int32} (hp : post (nI (tr_sz v 25))) : ∀ d c, c + d = 25 → wY_ones_4 post v th fm hd lf rt pr (d + 1) (nI (tr_sz v c)) (nI c) := by
  intro d
  induction d with
  | zero =>
    intro c hc
    have e : c = 25 := by omega
    subst e
    exact br_t (by decide) hp
  | succ d ih =>
    intro c hc
    exact br_f (nI_ge (b := 25) (by omega) (by decide)) (nm_r (tr_szI v (by omega)) (nm_r (nI_1 c) (ih (c + 1) (by omega))))
theorem tr_yones {post : Int32 → Prop} {v : Int32} {th fm hd lf rt pr : Nat → Int32} (hp : post (nI (tr_sz v 25))) : wpY_ones post (th, fm, hd, lf, rt, pr) v := ⟨26, tr_yo4 hp 25 0 rfl⟩
theorem tr_yis {post : Int32 → Prop} {m x : Int32} {th fm hd lf rt pr : Nat → Int32} (ht : ∀ k, k < 8 → th k = if bt m k = true then 1 else 0) (h1 : tr_I m x → post 1) (h0 : ¬ tr_I m x → post 0) : wpY_is post (th, fm, hd, lf, rt, pr) x := by
  by_cases hF : tr_F 8 x
  · obtain ⟨k, hk, rfl⟩ := hF
    have ck : (nI k).toNatClampNeg = k := nI_clamp (by omega)
    have t := ht k hk
    refine br_f (nI_pos (by omega)) (br_f (nI_nlt (a := 7) (b := k) (by omega) (by decide)) ⟨vp_in_nI hk (by decide), ?_⟩)
    by_cases hm : bt m k = true
    · rw [if_pos hm] at t
      exact br_f (by rw [ck, t]; exact tr_n10) (h1 ⟨k, hk, rfl, hm⟩)
    · rw [if_neg hm] at t
      refine br_t (by rw [ck, t]) (h0 ?_)
      rintro ⟨j, hj, e, b⟩
      rw [nI_eq (by omega) (by omega)] at e
      subst e
      exact hm b
  · have n : ¬ tr_I m x := fun ⟨k, hk, e, _⟩ => hF ⟨k, hk, e⟩
    by_cases h : x < 0
    · exact br_t h (h0 n)
    · exact br_f h (br_t (tr_gt (n := 7) hF h) (h0 n))
theorem tr_yto {post : Int32 → SY → Prop} {th fm hd lf rt pr : Nat → Int32} {p y : Nat} (hp : p < 5) (hy : y < 5) (h : post (tr_mk (fun x => bt (pr p) (5 * x + y)) 5) (th, fm, hd, lf, rt, pr)) : ∀ d x, x + d = 5 → wY_to_9 post (nI p) (nI y) th fm hd lf rt pr (d + 1) (tr_mk (fun x => bt (pr p) (5 * x + y)) x) (nI x) := by
  intro d
  induction d with
  | zero =>
    intro x hx
    have e : x = 5 := by omega
    subst e
    exact br_t (by decide) h
  | succ d ih =>
    intro x hx
    have ih' := ih (x + 1) (by omega)
    rw [tr_mkS] at ih'
    refine br_f (nI_ge (b := 5) (by omega) (by decide)) (tr_y5t hp (br_f tr_n10 (tr_y5t hy (br_f tr_n10 (tr_yin hp (by omega) hy (fun b => ?_) (fun b => ?_))))))
    · rw [if_pos b] at ih'
      exact br_f tr_n10 (nm_e (nm_r (nI_1 x) ih'))
    · rw [if_neg b] at ih'
      exact br_t rfl (nm_r (nI_1 x) ih')
theorem tr_ytr0 {post : Int32 → SY → Prop} {th fm hd lf rt pr : Nat → Int32} {p : Int32} (n : Nat) {c : Int32} (h0 : post 0 (th, fm, hd, lf, rt, pr)) : wY_transitive_12 post p th fm hd lf rt pr (n + 1) 0 c := br_c (fun _ => ⟨rfl, h0⟩) (fun _ => br_t rfl ⟨rfl, h0⟩)
theorem tr_ytr {post : Int32 → SY → Prop} {th fm hd lf rt pr : Nat → Int32} {p : Nat} (hp : p < 5) (h1 : (∀ c, c < 125 → tr_tp (pr p) c) → post 1 (th, fm, hd, lf, rt, pr)) (h0 : ¬ (∀ c, c < 125 → tr_tp (pr p) c) → post 0 (th, fm, hd, lf, rt, pr)) :
    ∀ d c, c + d = 125 → (∀ i, i < c → tr_tp (pr p) i) → wY_transitive_12 post (nI p) th fm hd lf rt pr (d + 1) 1 (nI c) := by
  intro d
  induction d with
  | zero =>
    intro c hc hi
    have e : c = 125 := by omega
    subst e
    exact br_t (by decide) ⟨rfl, h1 hi⟩
  | succ d ih =>
    intro c hc hi
    have e25 : nI c / 25 = nI (c / 25) := pk_div (d := 25) (by omega) (by decide) (by decide)
    have e5 : nI c / 5 = nI (c / 5) := pk_div (d := 5) (by omega) (by decide) (by decide)
    have e55 : nI (c / 5) - nI (c / 5) / 5 * 5 = nI (c / 5 % 5) := pk_rem (d := 5) (by omega) (by decide) (by decide)
    have em : nI c - nI c / 5 * 5 = nI (c % 5) := pk_rem (d := 5) (by omega) (by decide) (by decide)
    have hx : c / 25 < 5 := by omega
    have hy : c / 5 % 5 < 5 := by omega
    have hz : c % 5 < 5 := by omega
    have go : tr_tp (pr p) c → wY_transitive_12 post (nI p) th fm hd lf rt pr (d + 1) 1 (nI (c + 1)) := fun t => ih (c + 1) (by omega) (lt_s hi t)
    refine br_f (nI_ge (b := 125) (by omega) (by decide)) (br_f tr_n10 ⟨by decide, nm_r e25 ⟨by decide, by decide, nm_r (e' := nI (c / 5 % 5)) (by rw [e5]; exact e55) ⟨by decide, nm_r em (tr_yin hp hx hy (fun a => ?_) (fun a => ?_))⟩⟩⟩)
    · refine br_f tr_n10 (tr_yin hp hy hz (fun b => ?_) (fun b => ?_))
      · refine br_f tr_n10 (tr_yin hp hx hz (fun w => ?_) (fun w => ?_))
        · exact br_f tr_n10 (nm_r (nI_1 c) (go (fun _ _ => w)))
        · exact br_t rfl (nm_r (nI_1 c) (tr_ytr0 d (h0 (fun z => w (z c (by omega) a b)))))
      · exact br_t rfl (nm_r (nI_1 c) (go (fun _ z => absurd z b)))
    · exact br_t rfl (nm_r (nI_1 c) (go (fun z _ => absurd z a)))
def tr_gv (b w : Int32) (l : Nat) : Int32 := if b = 0 then w &&& (((1 : Int32) <<< (nI l &&& 31)) ^^^ (-1)) else w ||| ((1 : Int32) <<< (nI l &&& 31))
theorem tr_yg9 {post : Int32 → SY → Prop} {th fm hd lf rt pr : Nat → Int32} {g x y : Nat} {b : Int32} (hg : g < 5) (hx : x < 5) (hy : y < 5) (hp : post 1 (th, fm, hd, lf, rt, upd pr g (tr_gv b (pr g) (5 * x + y)))) : wY_give_9 post (nI g) (nI x) (nI y) b th fm hd lf rt pr := by
  have cg : (nI g).toNatClampNeg = g := nI_clamp (by omega)
  have g5 : vp_in (nI g) 5 := vp_in_nI hg (by decide)
  unfold tr_gv at hp
  refine tr_y5t hx (br_f tr_n10 (tr_y5t hy (br_f tr_n10 (nm_r (e' := (1 : Int32) <<< (nI (5 * x + y) &&& 31)) (by rw [tr_5]) (br_c (fun c => ?_) (fun c => ?_))))))
  · rw [if_pos c] at hp
    exact ⟨g5, g5, nm_r (by rw [cg]) hp⟩
  · rw [if_neg c] at hp
    exact ⟨g5, g5, nm_r (by rw [cg]) hp⟩
theorem tr_ygive {post : Int32 → SY → Prop} {th fm hd lf rt pr : Nat → Int32} {g x y : Nat} {b : Int32} (hg : g < 2) (hx : x < 5) (hy : y < 5) (hp : post 1 (th, fm, hd, lf, rt, upd pr g (tr_gv b (pr g) (5 * x + y)))) : wpY_give post (th, fm, hd, lf, rt, pr) (nI g) (nI x) (nI y) b := by
  have h := tr_yg9 (by omega) hx hy hp
  rcases (by omega : g = 0 ∨ g = 1) with e | e
  · subst e; exact br_t rfl h
  · subst e; exact br_f (by decide) (br_t rfl h)

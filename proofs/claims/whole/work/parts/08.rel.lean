/-! the relation, and what the changes keep of it -/
def tr_R (m : Int32) (tl fm hd lf rt th pr : Nat → Int32) : Prop := tr_H m hd ∧ tr_V lf ∧ tr_V rt ∧ tr_G pr ∧ (∀ k, k < 8 → th k = if bt m k = true then 1 else 0) ∧ (∀ i, bt m i = true → i < 8) ∧ (∀ j, 4 < j → tl j = pr j)
def i_Rel (_ : Nat) (u : SX) (v : SY) : Prop := ∃ m tl fm hd lf rt th pr, u = (m, tr_D m fm hd lf rt pr, tl, fm, hd, lf, rt) ∧ v = (th, fm, hd, lf, rt, pr) ∧ tr_R m tl fm hd lf rt th pr
theorem tr_mkR {k : Nat} {m : Int32} {tb tl fm hd lf rt th pr : Nat → Int32} (h : tr_R m tl fm hd lf rt th pr) (e : tb = tr_D m fm hd lf rt pr) : i_Rel k (m, tb, tl, fm, hd, lf, rt) (th, fm, hd, lf, rt, pr) := ⟨m, tl, fm, hd, lf, rt, th, pr, by rw [e], rfl, h⟩
theorem tr_RD {k : Nat} {m : Int32} {tl fm hd lf rt th pr : Nat → Int32} (h : tr_R m tl fm hd lf rt th pr) : i_Rel k (m, tr_D m fm hd lf rt pr, tl, fm, hd, lf, rt) (th, fm, hd, lf, rt, tr_D m fm hd lf rt pr) :=
  tr_mkR ⟨h.1, h.2.1, h.2.2.1, tr_DG h.1 h.2.2.2.1, h.2.2.2.2.1, h.2.2.2.2.2.1, fun j hj => (h.2.2.2.2.2.2 j hj).trans (tr_Do h.1 j (Or.inr hj)).symm⟩ (tr_DD h.1).symm
theorem tr_wk {post : SY → Prop} {m : Int32} {tl fm hd lf rt th pr : Nat → Int32} (h : tr_R m tl fm hd lf rt th pr) (hp : post (th, fm, hd, lf, rt, tr_D m fm hd lf rt pr)) : wpY_work post (th, fm, hd, lf, rt, pr) := tr_ywork h.1 h.2.1 h.2.2.1 h.2.2.2.2.1 hp
/-! an empty object -/
theorem tr_rd0 (fm hd lf rt R : Nat → Int32) : ∀ k, tr_rd 0 fm hd lf rt k R = R := by
  intro k
  induction k with
  | zero => rfl
  | succ k ih => rw [tr_rdS, if_neg (tr_0 k), ih]
theorem tr_D0 (fm hd lf rt : Nat → Int32) : tr_D 0 fm hd lf rt (fun _ => 0) = (fun _ => 0) := by
  unfold tr_D
  rw [tr_itf (tr_rd0 fm hd lf rt _ 8)]
  funext j
  by_cases e : j < 2 ∨ 4 < j
  · rw [tr_zo e]
  · rw [tr_zi (by omega) (by omega)]
/-! one given pair -/
theorem tr_gvW {b w : Int32} {l : Nat} (hw : tr_W w) (hl : l < 25) : tr_W (tr_gv b w l) := by
  unfold tr_gv
  by_cases c : b = 0
  · rw [if_pos c]; exact tr_Wand hw
  · rw [if_neg c]
    refine tr_Wor hw (fun i z => ?_)
    rw [tr_one (by omega)] at z
    omega
theorem tr_Gu {pr : Nat → Int32} {g : Nat} {w : Int32} (hG : tr_G pr) (hw : tr_W w) : tr_G (upd pr g w) := by
  intro j hj
  by_cases e : j = g
  · rw [e, pk_us]; exact hw
  · rw [pk_un e]; exact hG j hj
theorem tr_Rg {m : Int32} {tl fm hd lf rt th pr : Nat → Int32} (h : tr_R m tl fm hd lf rt th pr) {g : Nat} {w : Int32} (hg : g < 2) (hw : tr_W w) : tr_R m tl fm hd lf rt th (upd pr g w) :=
  ⟨h.1, h.2.1, h.2.2.1, tr_Gu h.2.2.2.1 hw, h.2.2.2.2.1, h.2.2.2.2.2.1, fun j hj => by rw [pk_un (by omega)]; exact h.2.2.2.2.2.2 j hj⟩
theorem tr_uD {m : Int32} {fm hd lf rt pr : Nat → Int32} (H : tr_H m hd) (g : Nat) (w : Int32) : ∀ j, j < 2 ∨ 4 < j → upd (tr_D m fm hd lf rt pr) g w j = upd pr g w j := by
  intro j hj
  by_cases e : j = g
  · rw [e, pk_us, pk_us]
  · rw [pk_un e, pk_un e]; exact tr_Do H j hj
theorem tr_ygf {post : Int32 → SY → Prop} {th fm hd lf rt pr : Nat → Int32} {g : Nat} {x y b : Int32} (hg : g < 2) (h : ¬ tr_F 5 x ∨ ¬ tr_F 5 y) (hp : post 0 (th, fm, hd, lf, rt, pr)) : wpY_give post (th, fm, hd, lf, rt, pr) (nI g) x y b := by
  have h9 : wY_give_9 post (nI g) x y b th fm hd lf rt pr := by
    by_cases hx : tr_F 5 x
    · have hy : ¬ tr_F 5 y := h.elim (fun z => absurd hx z) id
      obtain ⟨x', hx', rfl⟩ := hx
      exact tr_y5t hx' (br_f tr_n10 (tr_y5f hy (br_t rfl hp)))
    · exact tr_y5f hx (br_t rfl hp)
  rcases (by omega : g = 0 ∨ g = 1) with e | e
  · subst e; exact br_t rfl h9
  · subst e; exact br_f (by decide) (br_t rfl h9)
theorem tr_ygn {post : Int32 → SY → Prop} {th fm hd lf rt pr : Nat → Int32} {g x y b : Int32} (hg : ¬ tr_F 2 g) (hp : post 0 (th, fm, hd, lf, rt, pr)) : wpY_give post (th, fm, hd, lf, rt, pr) g x y b :=
  br_f (fun e => hg ⟨0, by decide, e⟩) (br_f (fun e => hg ⟨1, by decide, e⟩) hp)
/-! rules: a mask with one more, one less -/
theorem tr_mi {m : Int32} {k : Nat} (hk : k < 8) (j : Nat) : bt (m ||| ((1 : Int32) <<< (nI k &&& 31))) j = true ↔ bt m j = true ∨ j = k := by rw [tr_or, tr_one (by omega)]
theorem tr_mo {m : Int32} {k : Nat} (hk : k < 8) (j : Nat) : bt (m &&& (((1 : Int32) <<< (nI k &&& 31)) ^^^ (-1))) j = true ↔ bt m j = true ∧ j ≠ k := by
  rw [tr_and]
  constructor
  · rintro ⟨a, b⟩
    refine ⟨a, fun e => ?_⟩
    exact (tr_not _ (tr_lt32 a)).mp b ((tr_one (by omega) j).mpr e)
  · rintro ⟨a, b⟩
    exact ⟨a, (tr_not _ (tr_lt32 a)).mpr (fun z => b ((tr_one (by omega) j).mp z))⟩
theorem tr_nb0 : vp_nar .boolean 0 = 0 := rfl
theorem tr_nb1 : vp_nar .boolean 1 = 1 := rfl
theorem tr_Ho {m : Int32} {hd : Nat → Int32} {k : Nat} (hk : k < 8) (H : tr_H m hd) : tr_H (m &&& (((1 : Int32) <<< (nI k &&& 31)) ^^^ (-1))) hd := fun j hj b => H j hj ((tr_mo hk j).mp b).1
theorem tr_to0 {m : Int32} {th : Nat → Int32} {k : Nat} (hk : k < 8) (ht : ∀ j, j < 8 → th j = if bt m j = true then 1 else 0) : ∀ j, j < 8 → upd th k 0 j = if bt (m &&& (((1 : Int32) <<< (nI k &&& 31)) ^^^ (-1))) j = true then 1 else 0 := by
  intro j hj
  by_cases e : j = k
  · rw [e, pk_us, if_neg (fun z => ((tr_mo hk k).mp z).2 rfl)]
  · rw [pk_un e, ht j hj]
    by_cases b : bt m j = true
    · rw [if_pos b, if_pos ((tr_mo hk j).mpr ⟨b, e⟩)]
    · rw [if_neg b, if_neg (fun z => b ((tr_mo hk j).mp z).1)]
theorem tr_Ro {m : Int32} {tl fm hd lf rt th pr : Nat → Int32} (h : tr_R m tl fm hd lf rt th pr) {k : Nat} (hk : k < 8) : tr_R (m &&& (((1 : Int32) <<< (nI k &&& 31)) ^^^ (-1))) tl fm hd lf rt (upd th k 0) pr :=
  ⟨tr_Ho hk h.1, h.2.1, h.2.2.1, h.2.2.2.1, tr_to0 hk h.2.2.2.2.1, fun i z => h.2.2.2.2.2.1 i ((tr_mo hk i).mp z).1, h.2.2.2.2.2.2⟩
theorem tr_Vu {lf : Nat → Int32} {k q : Nat} (V : tr_V lf) (hq : q < 5) : tr_V (upd lf k (nI q)) := by
  intro j hj
  by_cases e : j = k
  · exact ⟨q, hq, by rw [e, pk_us]⟩
  · rw [pk_un e]; exact V j hj
theorem tr_Ri {m : Int32} {tl fm hd lf rt th pr : Nat → Int32} (h : tr_R m tl fm hd lf rt th pr) {k c q r : Nat} (f : Int32) (hk : k < 8) (h2 : 2 ≤ c) (h4 : c ≤ 4) (hq : q < 5) (hr : r < 5) :
    tr_R (m ||| ((1 : Int32) <<< (nI k &&& 31))) tl (upd fm k f) (upd hd k (nI c)) (upd lf k (nI q)) (upd rt k (nI r)) (upd th k 1) pr := by
  refine ⟨?_, tr_Vu h.2.1 hq, tr_Vu h.2.2.1 hr, h.2.2.2.1, ?_, ?_, h.2.2.2.2.2.2⟩
  · intro j hj b
    by_cases e : j = k
    · exact ⟨c, h2, h4, by rw [e, pk_us]⟩
    · rw [pk_un e]
      exact h.1 j hj (((tr_mi hk j).mp b).elim id (fun z => absurd z e))
  · intro j hj
    by_cases e : j = k
    · rw [e, pk_us, if_pos ((tr_mi hk k).mpr (Or.inr rfl))]
    · rw [pk_un e, h.2.2.2.2.1 j hj]
      by_cases b : bt m j = true
      · rw [if_pos b, if_pos ((tr_mi hk j).mpr (Or.inl b))]
      · rw [if_neg b, if_neg (fun z => ((tr_mi hk j).mp z).elim b e)]
  · intro i z
    exact ((tr_mi hk i).mp z).elim (h.2.2.2.2.2.1 i) (fun e => by omega)
theorem tr_yrl {post : Int32 → SY → Prop} {m v1 v2 v3 : Int32} {th fm hd lf rt pr : Nat → Int32} {k : Nat} (hk : k ≤ 8) (ht : ∀ j, j < 8 → th j = if bt m j = true then 1 else 0) (hj : ∀ j, j < k → bt m j = true) (hn : k < 8 → ¬ bt m k = true)
    (h8 : k = 8 → post (-2) (th, fm, hd, lf, rt, pr)) (hs : k < 8 → post (nI k) (upd th k 1, upd fm k v1, upd hd k v2, upd lf k (v3 &&& 7), upd rt k (v3 >>> ((3 : Int32) &&& 31)), pr)) :
    ∀ d j, j + d = k → wY_rule_45 post v1 v2 v3 th fm hd lf rt pr (d + 1) (nI j) := by
  intro d
  induction d with
  | zero =>
    intro j e
    have e' : j = k := by omega
    subst e'
    by_cases c : j = 8
    · subst c
      exact br_t (by decide) (h8 rfl)
    · have j8 : j < 8 := by omega
      have cj : (nI j).toNatClampNeg = j := nI_clamp (by omega)
      have i8 : vp_in (nI j) 8 := vp_in_nI j8 (by decide)
      have t := ht j j8
      rw [if_neg (hn j8)] at t
      exact br_f (nI_ge (b := 8) j8 (by decide)) ⟨i8, br_t (by rw [cj, t]) ⟨i8, nm_r (e' := upd th j 1) (by rw [cj, tr_nb1]) ⟨i8, nm_r (e' := upd fm j v1) (by rw [cj]) ⟨i8, nm_r (e' := upd hd j v2) (by rw [cj]) ⟨i8, nm_r (e' := upd lf j (v3 &&& 7)) (by rw [cj]) ⟨i8, nm_r (e' := upd rt j (v3 >>> ((3 : Int32) &&& 31))) (by rw [cj]) (hs j8)⟩⟩⟩⟩⟩⟩
  | succ d ih =>
    intro j e
    have j8 : j < 8 := by omega
    have cj : (nI j).toNatClampNeg = j := nI_clamp (by omega)
    have t := ht j j8
    rw [if_pos (hj j (by omega))] at t
    exact br_f (nI_ge (b := 8) j8 (by decide)) ⟨vp_in_nI j8 (by decide), br_f (by rw [cj, t]; exact tr_n10) (nm_r (nI_1 j) (ih (j + 1) (by omega)))⟩
/-! rules as one number -/
theorem tr_yrs {post : Int32 → Prop} {m : Int32} {th fm hd lf rt pr : Nat → Int32} (ht : ∀ j, j < 8 → th j = if bt m j = true then 1 else 0) (hp : post (tr_mk (bt m) 8)) : ∀ d j, j + d = 8 → wY_rules_4 post th fm hd lf rt pr (d + 1) (tr_mk (bt m) j) (nI j) := by
  intro d
  induction d with
  | zero =>
    intro j e
    have e' : j = 8 := by omega
    subst e'
    exact br_t (by decide) hp
  | succ d ih =>
    intro j e
    have j8 : j < 8 := by omega
    have cj : (nI j).toNatClampNeg = j := nI_clamp (by omega)
    have t := ht j j8
    have ih' := ih (j + 1) (by omega)
    rw [tr_mkS] at ih'
    refine br_f (nI_ge (b := 8) j8 (by decide)) ⟨vp_in_nI j8 (by decide), ?_⟩
    by_cases b : bt m j = true
    · rw [if_pos b] at t ih'
      exact br_f (by rw [cj, t]; exact tr_n10) (nm_e (nm_r (nI_1 j) ih'))
    · rw [if_neg b] at t ih'
      exact br_t (by rw [cj, t]) (nm_r (nI_1 j) ih')
theorem tr_mk8 {m : Int32} (h : ∀ i, bt m i = true → i < 8) : tr_mk (bt m) 8 = m := tr_ext fun i hi => by
  rw [tr_mkb _ _ (by decide)]
  exact ⟨fun z => z.2, fun z => ⟨h i z, z⟩⟩
/-! trial: the given relations copied -/
theorem tr_cp {m : Int32} {tl fm hd lf rt th pr : Nat → Int32} (h : tr_R m tl fm hd lf rt th pr) : ∀ j, j < 2 ∨ 4 < j → upd (upd tl 0 (tr_D m fm hd lf rt pr 0)) 1 (tr_D m fm hd lf rt pr 1) j = pr j := by
  intro j hj
  by_cases e1 : j = 1
  · rw [e1, pk_us]; exact tr_Do h.1 1 (Or.inl (by decide))
  · rw [pk_un e1]
    by_cases e0 : j = 0
    · rw [e0, pk_us]; exact tr_Do h.1 0 (Or.inl (by decide))
    · rw [pk_un e0]; exact h.2.2.2.2.2.2 j (by omega)

/-! redundant and loss -/
theorem i_vc_redundant {k : Nat} {u : SX} {v : SY} (I : i_Rel k u v) (hk : k + 5 ≤ 2560) (v1 : Int32) : wpX_redundant (fun r u' => wpY_redundant (fun r' v' => r' = r ∧ i_Rel (k + 5) u' v') v v1) u v1 := by
  obtain ⟨m, tl, fm, hd, lf, rt, th, pr, rfl, rfl, h⟩ := I
  have hR : i_Rel (k + 5) (m, tr_D m fm hd lf rt pr, tl, fm, hd, lf, rt) (th, fm, hd, lf, rt, pr) := tr_mkR h rfl
  unfold wpX_redundant
  dsimp only
  refine tr_xis (fun i => br_f tr_n10 ?_) (fun i => br_t rfl ?_)
  · obtain ⟨j, hj, rfl, b⟩ := id i
    have cj : (nI j).toNatClampNeg = j := nI_clamp (by omega)
    have i8 : vp_in (nI j) 8 := vp_in_nI hj (by decide)
    have H' := tr_Ho hj h.1
    have hN : i_Rel (k + 5) (m, tr_D m fm hd lf rt pr, tr_D (m &&& (((1 : Int32) <<< (nI j &&& 31)) ^^^ (-1))) fm hd lf rt pr, fm, hd, lf, rt) (upd (upd th j 0) j 1, fm, hd, lf, rt, tr_D (m &&& (((1 : Int32) <<< (nI j &&& 31)) ^^^ (-1))) fm hd lf rt pr) := by
      refine tr_mkR ⟨h.1, h.2.1, h.2.2.1, tr_DG H' h.2.2.2.1, fun a ha => ?_, h.2.2.2.2.2.1, fun _ _ => rfl⟩ (tr_Dx (fun a ha => (tr_Do H' a ha).symm))
      by_cases e : a = j
      · rw [e, pk_us, if_pos b]
      · rw [pk_un e, pk_un e]; exact h.2.2.2.2.1 a ha
    have yp : ∀ (post : Int32 → SY → Prop),
        ((∀ a, a < 5 → tr_D (m &&& (((1 : Int32) <<< (nI j &&& 31)) ^^^ (-1))) fm hd lf rt pr a = tr_D m fm hd lf rt pr a) → post 1 (upd (upd th j 0) j 1, fm, hd, lf, rt, tr_D (m &&& (((1 : Int32) <<< (nI j &&& 31)) ^^^ (-1))) fm hd lf rt pr)) →
        (¬ (∀ a, a < 5 → tr_D (m &&& (((1 : Int32) <<< (nI j &&& 31)) ^^^ (-1))) fm hd lf rt pr a = tr_D m fm hd lf rt pr a) → post 0 (upd (upd th j 0) j 1, fm, hd, lf, rt, tr_D (m &&& (((1 : Int32) <<< (nI j &&& 31)) ^^^ (-1))) fm hd lf rt pr)) →
        wpY_redundant post (th, fm, hd, lf, rt, pr) (nI j) := by
      intro post p1 p0
      unfold wpY_redundant
      dsimp only
      refine tr_yis h.2.2.2.2.1 (fun _ => br_f tr_n10 (tr_wk h (nm_e (nm_e (nm_e ⟨i8, nm_r (e' := upd th j 0) (by rw [cj, tr_nb0]) (tr_ywork H' h.2.1 h.2.2.1 (tr_to0 hj h.2.2.2.2.1) ⟨i8, nm_r (e' := upd (upd th j 0) j 1) (by rw [cj, tr_nb1]) ?_⟩)⟩))))) (fun n => absurd i n)
      rw [tr_Dx (tr_Do h.1)]
      refine br_c (fun x => br_c (fun y => br_c (fun z => p1 ?_) (fun z => p0 (fun w => z (w 4 (by decide)).symm))) (fun y => p0 (fun w => y (w 3 (by decide)).symm))) (fun x => p0 (fun w => x (w 2 (by decide)).symm))
      intro a ha
      rcases (by omega : a < 2 ∨ a = 2 ∨ a = 3 ∨ a = 4) with e | e | e | e
      · rw [tr_Do H' a (Or.inl e), tr_Do h.1 a (Or.inl e)]
      · rw [e]; exact x.symm
      · rw [e]; exact y.symm
      · rw [e]; exact z.symm
    refine tr_xcopy (tr_xder_trial H' h.2.1 h.2.2.1 ?_ ?_)
    · rw [tr_zx (tr_cp h)]; exact tr_zG h.2.2.2.1
    · dsimp only
      rw [tr_Dx (tr_cp h)]
      exact tr_xtit (fun a => ⟨rfl, yp _ (fun _ => ⟨rfl, hN⟩) (fun n => absurd a n)⟩) (fun a => ⟨rfl, yp _ (fun n => absurd n a) (fun _ => ⟨rfl, hN⟩)⟩)
  · unfold wpY_redundant
    dsimp only
    exact tr_yis h.2.2.2.2.1 (fun y => absurd y i) (fun _ => br_t rfl ⟨rfl, hR⟩)
/-! loss -/
theorem tr_yln {post : Int32 → SY → Prop} {th fm hd lf rt pr : Nat → Int32} {p g x y : Int32} (h : ¬ (tr_F 5 p ∧ tr_F 2 g ∧ tr_F 5 x ∧ tr_F 5 y)) (hp : post (-1) (th, fm, hd, lf, rt, pr)) : wpY_loss post (th, fm, hd, lf, rt, pr) p g x y := by
  have h9 : tr_F 2 g → wY_loss_9 post p g x y th fm hd lf rt pr := by
    intro hg
    unfold wY_loss_9
    by_cases hp5 : tr_F 5 p
    · by_cases hx : tr_F 5 x
      · by_cases hy : tr_F 5 y
        · exact absurd ⟨hp5, hg, hx, hy⟩ h
        · obtain ⟨p', hp', rfl⟩ := hp5
          obtain ⟨x', hx', rfl⟩ := hx
          exact tr_y5t hp' (br_f tr_n10 (tr_y5t hx' (br_f tr_n10 (tr_y5f hy (br_t rfl hp)))))
      · obtain ⟨p', hp', rfl⟩ := hp5
        exact tr_y5t hp' (br_f tr_n10 (tr_y5f hx (br_t rfl hp)))
    · exact tr_y5f hp5 (br_t rfl hp)
  exact br_c (fun e => h9 ⟨0, by decide, e⟩) (fun n0 => br_c (fun e => h9 ⟨1, by decide, e⟩) (fun _ => hp))
theorem tr_ycount {post : Int32 → SY → Prop} {m : Int32} {th fm hd lf rt pr : Nat → Int32} {p : Nat} (H : tr_H m hd) (Vl : tr_V lf) (Vr : tr_V rt) (ht : ∀ k, k < 8 → th k = if bt m k = true then 1 else 0) (hp : p < 5) (hq : post (nI (tr_sz (tr_D m fm hd lf rt pr p) 25)) (th, fm, hd, lf, rt, tr_D m fm hd lf rt pr)) : wpY_count post (th, fm, hd, lf, rt, pr) (nI p) := by
  have cp : (nI p).toNatClampNeg = p := nI_clamp (by omega)
  unfold wpY_count
  dsimp only
  rw [cp]
  exact tr_ywork H Vl Vr ht (tr_y5t hp (br_f tr_n10 ⟨vp_in_nI hp (by decide), tr_yones hq⟩))
theorem tr_yl {post : Int32 → SY → Prop} {m : Int32} {tl th fm hd lf rt pr : Nat → Int32} (h : tr_R m tl fm hd lf rt th pr) {p g x y : Nat} (hp : p < 5) (hg : g < 2) (hx : x < 5) (hy : y < 5)
    (h0 : ¬ bt (pr g) (5 * x + y) = true → post 0 (th, fm, hd, lf, rt, pr))
    (h1 : bt (pr g) (5 * x + y) = true → post (nI (tr_sz (tr_D m fm hd lf rt pr p) 25) - nI (tr_sz (tr_D m fm hd lf rt (upd pr g (tr_gv 0 (pr g) (5 * x + y))) p) 25)) (th, fm, hd, lf, rt, upd (tr_D m fm hd lf rt (upd pr g (tr_gv 0 (pr g) (5 * x + y)))) g (tr_gv 1 (tr_D m fm hd lf rt (upd pr g (tr_gv 0 (pr g) (5 * x + y))) g) (5 * x + y)))) :
    wpY_loss post (th, fm, hd, lf, rt, pr) (nI p) (nI g) (nI x) (nI y) := by
  have h9 : wY_loss_9 post (nI p) (nI g) (nI x) (nI y) th fm hd lf rt pr := by
    unfold wY_loss_9
    refine tr_y5t hp (br_f tr_n10 (tr_y5t hx (br_f tr_n10 (tr_y5t hy (br_f tr_n10 (tr_yin (by omega) hx hy (fun b => br_f tr_n10 ?_) (fun b => br_t rfl (h0 b))))))))
    refine tr_ycount h.1 h.2.1 h.2.2.1 h.2.2.2.2.1 hp (tr_ygive hg hx hy (tr_ycount h.1 h.2.1 h.2.2.1 h.2.2.2.2.1 hp (tr_ygive hg hx hy ?_)))
    dsimp only
    rw [tr_Do (fm := fm) (lf := lf) (rt := rt) (R := pr) h.1 g (Or.inl hg), tr_Dx (tr_uD h.1 g _)]
    exact h1 b
  rcases (by omega : g = 0 ∨ g = 1) with e | e
  · subst e; exact br_t rfl h9
  · subst e; exact br_f (by decide) (br_t rfl h9)
theorem tr_gv0 {w : Int32} {l : Nat} (hl : l < 32) (hb : ¬ bt w l = true) : tr_gv 0 w l = w := tr_ext fun i hi => by
  unfold tr_gv
  rw [if_pos rfl, tr_and, tr_not _ hi, tr_one hl]
  exact ⟨fun z => z.1, fun z => ⟨z, fun e => hb (e ▸ z)⟩⟩
theorem tr_gv1 {w : Int32} {l : Nat} (hl : l < 32) (hb : bt w l = true) : tr_gv 1 (tr_gv 0 w l) l = w := tr_ext fun i hi => by
  unfold tr_gv
  rw [if_neg tr_n10, if_pos rfl, tr_or, tr_and, tr_not _ hi, tr_one hl]
  constructor
  · rintro (z | e)
    · exact z.1
    · rw [e]; exact hb
  · intro z
    by_cases e : i = l
    · exact Or.inr e
    · exact Or.inl ⟨z, e⟩
theorem tr_gvle (w : Int32) (l : Nat) : tr_le (tr_gv 0 w l) w := fun i z => by
  unfold tr_gv at z
  rw [if_pos rfl, tr_and] at z
  exact z.1
theorem i_vc_loss {k : Nat} {u : SX} {v : SY} (I : i_Rel k u v) (hk : k + 5 ≤ 2560) (v1 : Int32) (v2 : Int32) (v3 : Int32) (v4 : Int32) : wpX_loss (fun r u' => wpY_loss (fun r' v' => r' = r ∧ i_Rel (k + 5) u' v') v v1 v2 v3 v4) u v1 v2 v3 v4 := by
  obtain ⟨m, tl, fm, hd, lf, rt, th, pr, rfl, rfl, h⟩ := I
  have hR : i_Rel (k + 5) (m, tr_D m fm hd lf rt pr, tl, fm, hd, lf, rt) (th, fm, hd, lf, rt, pr) := tr_mkR h rfl
  unfold wpX_loss
  dsimp only
  by_cases hp : tr_F 5 v1
  · obtain ⟨p, hp, rfl⟩ := hp
    refine tr_xre_t hp (br_f tr_n10 ?_)
    by_cases hg : tr_F 2 v2
    · obtain ⟨g, hg, rfl⟩ := hg
      refine tr_xgi_t hg (br_f tr_n10 ?_)
      by_cases hx : tr_F 5 v3
      · obtain ⟨x, hx, rfl⟩ := hx
        refine tr_xth_t hx (br_f tr_n10 ?_)
        by_cases hy : tr_F 5 v4
        · obtain ⟨y, hy, rfl⟩ := hy
          have cg : (nI g).toNatClampNeg = g := nI_clamp (by omega)
          have cp : (nI p).toNatClampNeg = p := nI_clamp (by omega)
          have g5 : vp_in (nI g) 5 := vp_in_nI (by omega) (by decide)
          have p5 : vp_in (nI p) 5 := vp_in_nI hp (by decide)
          have hw : tr_W (tr_gv 0 (pr g) (5 * x + y)) := tr_gvW (h.2.2.2.1 g (by omega)) (by omega)
          have eT : ∀ j, j < 2 ∨ 4 < j → upd (upd (upd tl 0 (tr_D m fm hd lf rt pr 0)) 1 (tr_D m fm hd lf rt pr 1)) g (tr_gv 0 (pr g) (5 * x + y)) j = upd pr g (tr_gv 0 (pr g) (5 * x + y)) j := by
            intro j hj
            by_cases e : j = g
            · rw [e, pk_us, pk_us]
            · rw [pk_un e, pk_un e]; exact tr_cp h j hj
          refine tr_xth_t hy (br_f tr_n10 (tr_xcopy ⟨g5, tr_xpb ⟨g5, nm_r (e' := upd (upd (upd tl 0 (tr_D m fm hd lf rt pr 0)) 1 (tr_D m fm hd lf rt pr 1)) g (tr_gv 0 (pr g) (5 * x + y))) ?_ (tr_xder_trial h.1 h.2.1 h.2.2.1 ?_ ⟨p5, p5, tr_xsize ?_⟩)⟩⟩))
          · dsimp only
            rw [cg, tr_cp h g (Or.inl hg)]
            unfold tr_gv
            rw [if_pos rfl]
          · rw [tr_zx eT]; exact tr_zG (tr_Gu h.2.2.2.1 hw)
          · dsimp only
            rw [tr_Dx eT, cp]
            refine tr_yl h hp hg hx hy (fun b => ?_) (fun b => ?_)
            · rw [tr_gv0 (by omega) b, tr_upd rfl]
              refine ⟨?_, tr_mkR ⟨h.1, h.2.1, h.2.2.1, h.2.2.2.1, h.2.2.2.2.1, h.2.2.2.2.2.1, fun j hj => tr_Do h.1 j (Or.inr hj)⟩ rfl⟩
              rw [tr_part.mpr (fun i z => z), tr_sz0]
              exact nI_0.symm
            · have hle : ∀ j, tr_le (tr_D m fm hd lf rt (upd pr g (tr_gv 0 (pr g) (5 * x + y))) j) (tr_D m fm hd lf rt pr j) := by
                refine tr_DM (fun j => ?_)
                by_cases e : j = g
                · rw [e, pk_us]; exact tr_gvle _ _
                · rw [pk_un e]; exact fun i z => z
              have hs := tr_szd (hle p) 25 (by decide)
              have e1 : tr_D m fm hd lf rt (upd pr g (tr_gv 0 (pr g) (5 * x + y))) g = tr_gv 0 (pr g) (5 * x + y) := (tr_Do h.1 g (Or.inl hg)).trans pk_us
              rw [e1, tr_gv1 (by omega) b]
              refine ⟨?_, tr_mkR ⟨h.1, h.2.1, h.2.2.1, tr_Gu (tr_DG h.1 (tr_Gu h.2.2.2.1 hw)) (h.2.2.2.1 g (by omega)), h.2.2.2.2.1, h.2.2.2.2.2.1, fun j hj => (pk_un (by omega)).symm⟩ (tr_Dx (fun j hj => ?_))⟩
              · rw [pk_sub (by omega)]
                exact congrArg nI (by omega)
              · by_cases e : j = g
                · rw [e, pk_us]
                · rw [pk_un e, tr_Do h.1 j hj, pk_un e]
        · exact tr_xth_f hy (br_t rfl (tr_yln (fun z => hy z.2.2.2) ⟨rfl, hR⟩))
      · exact tr_xth_f hx (br_t rfl (tr_yln (fun z => hx z.2.2.1) ⟨rfl, hR⟩))
    · exact tr_xgi_f hg (br_t rfl (tr_yln (fun z => hg z.2.1) ⟨rfl, hR⟩))
  · exact tr_xre_f hp (br_t rfl (tr_yln (fun z => hp z.1) ⟨rfl, hR⟩))

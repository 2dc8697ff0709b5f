/-! the owed statements -/
theorem i_up {k : Nat} {u : SX} {v : SY} (h : i_Rel k u v) : i_Rel (k + 5) u v := h
theorem i_vc0 : wpX_init (fun u => wpY_init (fun v => i_Rel 0 u v)) :=
  tr_mkR (k := 0) ⟨fun k _ z => absurd z (tr_0 k), fun _ _ => ⟨0, by decide, nI_0.symm⟩, fun _ _ => ⟨0, by decide, nI_0.symm⟩, fun _ _ => tr_W0, fun k _ => (if_neg (tr_0 k)).symm, fun i z => absurd z (tr_0 i), fun _ _ => rfl⟩ (tr_D0 _ _ _ _).symm
theorem i_vc_give {k : Nat} {u : SX} {v : SY} (I : i_Rel k u v) (hk : k + 5 ≤ 2560) (v1 : Int32) (v2 : Int32) (v3 : Int32) (v4 : Int32) : wpX_give (fun r u' => wpY_give (fun r' v' => r' = r ∧ i_Rel (k + 5) u' v') v v1 v2 v3 (lw_bz v4)) u v1 v2 v3 (lw_bz v4) := by
  obtain ⟨m, tl, fm, hd, lf, rt, th, pr, rfl, rfl, h⟩ := I
  unfold wpX_give
  dsimp only
  have hR : i_Rel (k + 5) (m, tr_D m fm hd lf rt pr, tl, fm, hd, lf, rt) (th, fm, hd, lf, rt, pr) := tr_mkR h rfl
  generalize lw_bz v4 = b
  by_cases hg : tr_F 2 v1
  · obtain ⟨g, hg, rfl⟩ := hg
    by_cases hx : tr_F 5 v2
    · obtain ⟨x, hx, rfl⟩ := hx
      by_cases hy : tr_F 5 v3
      · obtain ⟨y, hy, rfl⟩ := hy
        have cg : (nI g).toNatClampNeg = g := nI_clamp (by omega)
        have g5 : vp_in (nI g) 5 := vp_in_nI (by omega) (by decide)
        have hw : tr_W (tr_gv b (pr g) (5 * x + y)) := tr_gvW (h.2.2.2.1 g (by omega)) (by omega)
        have hn : i_Rel (k + 5) (m, tr_D m fm hd lf rt (upd (tr_D m fm hd lf rt pr) g (tr_gv b (pr g) (5 * x + y))), tl, fm, hd, lf, rt) (th, fm, hd, lf, rt, upd pr g (tr_gv b (pr g) (5 * x + y))) := tr_mkR (tr_Rg h hg hw) (tr_Dx (tr_uD h.1 g _))
        have hd5 : wpX_derive__table (fun u' => wpY_give (fun r' v' => r' = 1 ∧ i_Rel (k + 5) u' v') (th, fm, hd, lf, rt, pr) (nI g) (nI x) (nI y) b) (m, upd (tr_D m fm hd lf rt pr) g (tr_gv b (pr g) (5 * x + y)), tl, fm, hd, lf, rt) m :=
          tr_xder_table h.1 h.2.1 h.2.2.1 (tr_zG (tr_Gu (tr_DG h.1 h.2.2.2.1) hw)) (tr_ygive hg hx hy ⟨rfl, hn⟩)
        have eg := tr_Do (fm := fm) (lf := lf) (rt := rt) (R := pr) h.1 g (Or.inl hg)
        refine tr_xgi_t hg (br_f tr_n10 (tr_xth_t hx (br_f tr_n10 (tr_xth_t hy (br_f tr_n10 (tr_xpb (br_c (fun c => ⟨g5, g5, nm_r (e' := upd (tr_D m fm hd lf rt pr) g (tr_gv b (pr g) (5 * x + y))) ?_ hd5⟩) (fun c => ⟨g5, g5, nm_r (e' := upd (tr_D m fm hd lf rt pr) g (tr_gv b (pr g) (5 * x + y))) ?_ hd5⟩))))))))
        · rw [cg, eg]; unfold tr_gv; rw [if_pos c]
        · rw [cg, eg]; unfold tr_gv; rw [if_neg c]
      · exact tr_xgi_t hg (br_f tr_n10 (tr_xth_t hx (br_f tr_n10 (tr_xth_f hy (br_t rfl (tr_ygf hg (Or.inr hy) ⟨rfl, hR⟩))))))
    · exact tr_xgi_t hg (br_f tr_n10 (tr_xth_f hx (br_t rfl (tr_ygf hg (Or.inl hx) ⟨rfl, hR⟩))))
  · exact tr_xgi_f hg (br_t rfl (tr_ygn hg ⟨rfl, hR⟩))
theorem i_vc_rule {k : Nat} {u : SX} {v : SY} (I : i_Rel k u v) (hk : k + 5 ≤ 2560) (v1 : Int32) (v2 : Int32) (v3 : Int32) : wpX_rule (fun r u' => wpY_rule (fun r' v' => r' = r ∧ i_Rel (k + 5) u' v') v v1 v2 v3) u v1 v2 v3 := by
  obtain ⟨m, tl, fm, hd, lf, rt, th, pr, rfl, rfl, h⟩ := I
  have hR : i_Rel (k + 5) (m, tr_D m fm hd lf rt pr, tl, fm, hd, lf, rt) (th, fm, hd, lf, rt, pr) := tr_mkR h rfl
  by_cases f0 : v1 < 0
  · exact br_t f0 (br_t f0 ⟨rfl, hR⟩)
  · refine br_f f0 ?_
    by_cases hf : tr_F 5 v1
    · obtain ⟨f, hf, rfl⟩ := hf
      refine br_f (nI_ge (b := 5) hf (by decide)) ?_
      by_cases h2 : v2 < 2
      · exact br_t h2 (br_t rfl (br_f f0 (br_f (tr_n4 hf) (br_t h2 ⟨rfl, hR⟩))))
      · by_cases hc : tr_F 5 v2
        · obtain ⟨c, hc, rfl⟩ := hc
          have c2 : 2 ≤ c := by
            by_cases z : 2 ≤ c
            · exact z
            · exact absurd (nI_lt (b := 2) (by omega) (by decide)) h2
          refine br_f h2 (br_f (nI_ge (b := 5) hc (by decide)) (br_f tr_n10 ?_))
          by_cases hq : tr_F 5 (v3 &&& 7)
          · by_cases hr : tr_F 5 (v3 >>> ((3 : Int32) &&& 31))
            · obtain ⟨q, hq, eq⟩ := hq
              obtain ⟨r, hr, er⟩ := hr
              unfold wpX_isRelationPair
              rw [eq, er]
              refine tr_xre_t hq (br_f tr_n10 (tr_xre_t hr (br_f tr_n10 (br_f tr_n10 (tr_xlf fun j hj8 hj hn => ?_)))))
              have yp : ∀ (post : Int32 → SY → Prop), (j = 8 → post (-2) (th, fm, hd, lf, rt, pr)) → (j < 8 → post (nI j) (upd th j 1, upd fm j (nI f), upd hd j (nI c), upd lf j (v3 &&& 7), upd rt j (v3 >>> ((3 : Int32) &&& 31)), pr)) → wpY_rule post (th, fm, hd, lf, rt, pr) (nI f) (nI c) v3 := by
                intro post a b
                unfold wpY_rule
                dsimp only
                refine br_f f0 (br_f (tr_n4 hf) (br_f h2 (br_f (tr_n4 hc) ?_)))
                have l := tr_yrl (v1 := nI f) (v2 := nI c) (v3 := v3) hj8 h.2.2.2.2.1 hj hn a b j 0 (by omega)
                rw [eq, er]
                exact tr_y5t hq (br_f tr_n10 (tr_y5t hr (br_f tr_n10 ⟨j + 1, l⟩)))
              by_cases e8 : j = 8
              · subst e8
                exact br_t rfl (yp _ (fun _ => ⟨rfl, hR⟩) (fun z => absurd z (by decide)))
              · have j8 : j < 8 := by omega
                have cj : (nI j).toNatClampNeg = j := nI_clamp (by omega)
                have i8 : vp_in (nI j) 8 := vp_in_nI j8 (by decide)
                have hr' := tr_Ri h (nI f) j8 c2 (by omega) hq hr
                have hn' : i_Rel (k + 5) (m ||| ((1 : Int32) <<< (nI j &&& 31)), tr_D (m ||| ((1 : Int32) <<< (nI j &&& 31))) (upd fm j (nI f)) (upd hd j (nI c)) (upd lf j (nI q)) (upd rt j (nI r)) (tr_D m fm hd lf rt pr), tl, upd fm j (nI f), upd hd j (nI c), upd lf j (nI q), upd rt j (nI r)) (upd th j 1, upd fm j (nI f), upd hd j (nI c), upd lf j (nI q), upd rt j (nI r), pr) := tr_mkR hr' (tr_Dx (tr_Do h.1))
                rw [eq, er] at yp
                refine br_f (fun z => e8 ((nI_eq (by omega) (by decide)).mp z)) ⟨i8, nm_r (e' := upd fm j (nI f)) (by rw [cj]) ⟨i8, nm_r (e' := upd hd j (nI c)) (by rw [cj]) ⟨i8, nm_r (e' := upd lf j (nI q)) (by rw [cj]) ⟨i8, nm_r (e' := upd rt j (nI r)) (by rw [cj]) (nm_e ?_)⟩⟩⟩⟩
                exact tr_xder_table hr'.1 hr'.2.1 hr'.2.2.1 (tr_zG (tr_DG h.1 h.2.2.2.1)) (yp _ (fun z => absurd z e8) (fun _ => ⟨rfl, hn'⟩))
            · obtain ⟨q, hq, eq⟩ := hq
              have y : wpY_rule (fun r' v' => r' = -1 ∧ i_Rel (k + 5) (m, tr_D m fm hd lf rt pr, tl, fm, hd, lf, rt) v') (th, fm, hd, lf, rt, pr) (nI f) (nI c) v3 := by
                unfold wpY_rule
                dsimp only
                rw [eq]
                exact br_f f0 (br_f (tr_n4 hf) (br_f h2 (br_f (tr_n4 hc) (tr_y5t hq (br_f tr_n10 (tr_y5f hr (br_t rfl ⟨rfl, hR⟩)))))))
              unfold wpX_isRelationPair
              rw [eq]
              exact tr_xre_t hq (br_f tr_n10 (tr_xre_f hr (br_t rfl (br_t rfl y))))
          · unfold wpX_isRelationPair
            exact tr_xre_f hq (br_t rfl (br_t rfl (br_f f0 (br_f (tr_n4 hf) (br_f h2 (br_f (tr_n4 hc) (tr_y5f hq (br_t rfl ⟨rfl, hR⟩))))))))
        · have c0 : ¬ v2 < 0 := fun z => h2 (Int32.lt_trans z (by decide))
          exact br_f h2 (br_t (tr_ge hc c0 (by decide)) (br_t rfl (br_f f0 (br_f (tr_n4 hf) (br_f h2 (br_t (tr_gt (n := 4) hc c0) ⟨rfl, hR⟩))))))
    · exact br_t (tr_ge hf f0 (by decide)) (br_f f0 (br_t (tr_gt (n := 4) hf f0) ⟨rfl, hR⟩))
theorem i_vc_drop {k : Nat} {u : SX} {v : SY} (I : i_Rel k u v) (hk : k + 5 ≤ 2560) (v1 : Int32) : wpX_drop (fun r u' => wpY_drop (fun r' v' => r' = r ∧ i_Rel (k + 5) u' v') v v1) u v1 := by
  obtain ⟨m, tl, fm, hd, lf, rt, th, pr, rfl, rfl, h⟩ := I
  unfold wpX_drop wpY_drop
  dsimp only
  have hR : i_Rel (k + 5) (m, tr_D m fm hd lf rt pr, tl, fm, hd, lf, rt) (th, fm, hd, lf, rt, pr) := tr_mkR h rfl
  refine tr_xis (fun i => br_f tr_n10 ?_) (fun i => br_t rfl ?_)
  · obtain ⟨j, hj, rfl, b⟩ := id i
    have cj : (nI j).toNatClampNeg = j := nI_clamp (by omega)
    have hr' := tr_Ro h hj
    refine nm_e (tr_xder_table hr'.1 h.2.1 h.2.2.1 (tr_zG (tr_DG h.1 h.2.2.2.1)) ?_)
    refine tr_yis h.2.2.2.2.1 (fun _ => br_f tr_n10 ⟨vp_in_nI hj (by decide), nm_r (e' := upd th j 0) (by rw [cj, tr_nb0]) ⟨rfl, tr_mkR hr' (tr_Dx (tr_Do h.1))⟩⟩) (fun n => absurd i n)
  · exact tr_yis h.2.2.2.2.1 (fun y => absurd y i) (fun _ => br_t rfl ⟨rfl, hR⟩)
theorem i_vc_rules {k : Nat} {u : SX} {v : SY} (I : i_Rel k u v) (hk : k + 5 ≤ 2560) : wpX_rules (fun r => wpY_rules (fun r' => r' = r ∧ i_Rel (k + 5) u v) v) u := by
  obtain ⟨m, tl, fm, hd, lf, rt, th, pr, rfl, rfl, h⟩ := I
  exact ⟨9, tr_yrs h.2.2.2.2.1 ⟨tr_mk8 h.2.2.2.2.2.1, tr_mkR h rfl⟩ 8 0 rfl⟩
theorem i_vc_holds {k : Nat} {u : SX} {v : SY} (I : i_Rel k u v) (hk : k + 5 ≤ 2560) (v1 : Int32) (v2 : Int32) (v3 : Int32) : wpX_holds (fun r => wpY_holds (fun r' v' => r' = r ∧ i_Rel (k + 5) u v') v v1 v2 v3) u v1 v2 v3 := by
  obtain ⟨m, tl, fm, hd, lf, rt, th, pr, rfl, rfl, h⟩ := I
  unfold wpX_holds wpY_holds
  dsimp only
  have hR := tr_RD (k := k + 5) h
  by_cases hp : tr_F 5 v1
  · obtain ⟨p, hp, rfl⟩ := hp
    refine tr_xre_t hp (br_f tr_n10 ?_)
    by_cases hx : tr_F 5 v2
    · obtain ⟨x, hx, rfl⟩ := hx
      refine tr_xth_t hx (br_f tr_n10 ?_)
      by_cases hy : tr_F 5 v3
      · obtain ⟨y, hy, rfl⟩ := hy
        have cp : (nI p).toNatClampNeg = p := nI_clamp (by omega)
        refine tr_xth_t hy (br_f tr_n10 ⟨vp_in_nI hp (by decide), tr_xpb (br_c (fun c => tr_wk h ?_) (fun c => tr_wk h ?_))⟩)
        · rw [cp, tr_tst (by omega)] at c
          exact tr_y5t hp (br_f tr_n10 (tr_y5t hx (br_f tr_n10 (tr_y5t hy (br_f tr_n10 (tr_yin hp hx hy (fun b => absurd b c) (fun _ => br_t rfl ⟨rfl, hR⟩)))))))
        · rw [cp, tr_tst (by omega)] at c
          exact tr_y5t hp (br_f tr_n10 (tr_y5t hx (br_f tr_n10 (tr_y5t hy (br_f tr_n10 (tr_yin hp hx hy (fun _ => br_f tr_n10 ⟨rfl, hR⟩) (fun b => absurd b c)))))))
      · exact tr_xth_f hy (br_t rfl (tr_wk h (tr_y5t hp (br_f tr_n10 (tr_y5t hx (br_f tr_n10 (tr_y5f hy (br_t rfl ⟨rfl, hR⟩))))))))
    · exact tr_xth_f hx (br_t rfl (tr_wk h (tr_y5t hp (br_f tr_n10 (tr_y5f hx (br_t rfl ⟨rfl, hR⟩))))))
  · exact tr_xre_f hp (br_t rfl (tr_wk h (tr_y5f hp (br_t rfl ⟨rfl, hR⟩))))
theorem i_vc_from {k : Nat} {u : SX} {v : SY} (I : i_Rel k u v) (hk : k + 5 ≤ 2560) (v1 : Int32) (v2 : Int32) : wpX_from (fun r => wpY_from (fun r' v' => r' = r ∧ i_Rel (k + 5) u v') v v1 v2) u v1 v2 := by
  obtain ⟨m, tl, fm, hd, lf, rt, th, pr, rfl, rfl, h⟩ := I
  unfold wpX_from wpY_from
  dsimp only
  have hR := tr_RD (k := k + 5) h
  by_cases hp : tr_F 5 v1
  · obtain ⟨p, hp, rfl⟩ := hp
    have p5 : vp_in (nI p) 5 := vp_in_nI hp (by decide)
    refine tr_xre_t hp (br_f tr_n10 ?_)
    by_cases hx : tr_F 5 v2
    · obtain ⟨x, hx, rfl⟩ := hx
      refine tr_xth_t hx (br_f tr_n10 ⟨p5, tr_wk h ?_⟩)
      exact tr_y5t hp (br_f tr_n10 (tr_y5t hx (br_f tr_n10 ⟨p5, rfl, hR⟩)))
    · exact tr_xth_f hx (br_t rfl (tr_wk h (tr_y5t hp (br_f tr_n10 (tr_y5f hx (br_t rfl ⟨rfl, hR⟩))))))
  · exact tr_xre_f hp (br_t rfl (tr_wk h (tr_y5f hp (br_t rfl ⟨rfl, hR⟩))))
theorem i_vc_to {k : Nat} {u : SX} {v : SY} (I : i_Rel k u v) (hk : k + 5 ≤ 2560) (v1 : Int32) (v2 : Int32) : wpX_to (fun r => wpY_to (fun r' v' => r' = r ∧ i_Rel (k + 5) u v') v v1 v2) u v1 v2 := by
  obtain ⟨m, tl, fm, hd, lf, rt, th, pr, rfl, rfl, h⟩ := I
  unfold wpX_to wpY_to
  dsimp only
  have hR := tr_RD (k := k + 5) h
  by_cases hp : tr_F 5 v1
  · obtain ⟨p, hp, rfl⟩ := hp
    have p5 : vp_in (nI p) 5 := vp_in_nI hp (by decide)
    have cp : (nI p).toNatClampNeg = p := nI_clamp (by omega)
    refine tr_xre_t hp (br_f tr_n10 ?_)
    by_cases hy : tr_F 5 v2
    · obtain ⟨y, hy, rfl⟩ := hy
      refine tr_xth_t hy (br_f tr_n10 ⟨p5, tr_xturn fun t ht => tr_xrow (tr_wk h ?_)⟩)
      rw [cp] at ht
      have e := tr_Te (tr_D m fm hd lf rt pr p) (f := 1) (by decide) rfl ht
      refine ⟨6, tr_yto hp hy ⟨?_, hR⟩ 5 0 rfl⟩
      rw [e, tr_to _ hy]
    · exact tr_xth_f hy (br_t rfl (tr_wk h ⟨1, br_f (by decide) (tr_y5t hp (br_f tr_n10 (tr_y5f hy (br_t rfl ⟨rfl, hR⟩))))⟩))
  · exact tr_xre_f hp (br_t rfl (tr_wk h ⟨1, br_f (by decide) (tr_y5f hp (br_t rfl ⟨rfl, hR⟩))⟩))
theorem i_vc_count {k : Nat} {u : SX} {v : SY} (I : i_Rel k u v) (hk : k + 5 ≤ 2560) (v1 : Int32) : wpX_count (fun r => wpY_count (fun r' v' => r' = r ∧ i_Rel (k + 5) u v') v v1) u v1 := by
  obtain ⟨m, tl, fm, hd, lf, rt, th, pr, rfl, rfl, h⟩ := I
  unfold wpX_count wpY_count
  dsimp only
  have hR := tr_RD (k := k + 5) h
  by_cases hp : tr_F 5 v1
  · obtain ⟨p, hp, rfl⟩ := hp
    have p5 : vp_in (nI p) 5 := vp_in_nI hp (by decide)
    exact tr_xre_t hp (br_f tr_n10 ⟨p5, tr_xsize (tr_wk h (tr_y5t hp (br_f tr_n10 ⟨p5, tr_yones ⟨rfl, hR⟩⟩)))⟩)
  · exact tr_xre_f hp (br_t rfl (tr_wk h (tr_y5f hp (br_t rfl ⟨rfl, hR⟩))))
theorem i_vc_within {k : Nat} {u : SX} {v : SY} (I : i_Rel k u v) (hk : k + 5 ≤ 2560) (v1 : Int32) (v2 : Int32) : wpX_within (fun r => wpY_within (fun r' v' => r' = r ∧ i_Rel (k + 5) u v') v v1 v2) u v1 v2 := by
  obtain ⟨m, tl, fm, hd, lf, rt, th, pr, rfl, rfl, h⟩ := I
  unfold wpX_within wpY_within
  dsimp only
  have hR := tr_RD (k := k + 5) h
  by_cases hp : tr_F 5 v1
  · obtain ⟨p, hp, rfl⟩ := hp
    have p5 : vp_in (nI p) 5 := vp_in_nI hp (by decide)
    refine tr_xre_t hp (br_f tr_n10 ?_)
    by_cases hq : tr_F 5 v2
    · obtain ⟨q, hq, rfl⟩ := hq
      have q5 : vp_in (nI q) 5 := vp_in_nI hq (by decide)
      refine tr_xre_t hq (br_f tr_n10 ⟨p5, q5, br_c (fun c => ⟨rfl, tr_wk h ?_⟩) (fun c => ⟨rfl, tr_wk h ?_⟩)⟩)
      · exact tr_y5t hp (br_f tr_n10 (tr_y5t hq (br_f tr_n10 ⟨p5, q5, br_t c ⟨rfl, hR⟩⟩)))
      · exact tr_y5t hp (br_f tr_n10 (tr_y5t hq (br_f tr_n10 ⟨p5, q5, br_f c ⟨rfl, hR⟩⟩)))
    · exact tr_xre_f hq (br_t rfl (tr_wk h (tr_y5t hp (br_f tr_n10 (tr_y5f hq (br_t rfl ⟨rfl, hR⟩))))))
  · exact tr_xre_f hp (br_t rfl (tr_wk h (tr_y5f hp (br_t rfl ⟨rfl, hR⟩))))
theorem i_vc_transitive {k : Nat} {u : SX} {v : SY} (I : i_Rel k u v) (hk : k + 5 ≤ 2560) (v1 : Int32) : wpX_transitive (fun r => wpY_transitive (fun r' v' => r' = r ∧ i_Rel (k + 5) u v') v v1) u v1 := by
  obtain ⟨m, tl, fm, hd, lf, rt, th, pr, rfl, rfl, h⟩ := I
  unfold wpX_transitive wpY_transitive
  dsimp only
  have hR := tr_RD (k := k + 5) h
  by_cases hp : tr_F 5 v1
  · obtain ⟨p, hp, rfl⟩ := hp
    have p5 : vp_in (nI p) 5 := vp_in_nI hp (by decide)
    have cp : (nI p).toNatClampNeg = p := nI_clamp (by omega)
    refine tr_xre_t hp (br_f tr_n10 ⟨p5, p5, tr_xjoin fun t ht => ⟨p5, ?_⟩⟩)
    rw [cp] at ht ⊢
    have e := tr_Je (f := 2) (by decide) (by decide) (by decide) rfl ht
    subst e
    refine tr_xpart (fun c => ⟨rfl, tr_wk h (tr_y5t hp ⟨126, ?_⟩)⟩) (fun c => ⟨rfl, tr_wk h (tr_y5t hp ⟨126, ?_⟩)⟩)
    · exact tr_ytr hp (fun _ => ⟨rfl, hR⟩) (fun z => absurd ((tr_tr _).mp c) z) 125 0 rfl lt_0
    · exact tr_ytr hp (fun z => absurd ((tr_tr _).mpr z) c) (fun _ => ⟨rfl, hR⟩) 125 0 rfl lt_0
  · exact tr_xre_f hp (br_t rfl (tr_wk h (tr_y5f hp ⟨1, tr_ytr0 0 ⟨rfl, hR⟩⟩)))

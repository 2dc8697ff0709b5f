/-! applyOnce and derive over table -/
theorem tr_xao_table {post : Int32 → SX → Prop} {a m : Int32} {R T fm hd lf rt : Nat → Int32} (H : tr_H a hd) (Vl : tr_V lf) (Vr : tr_V rt)
    (hp : ∀ g, (g = 0 ∨ g = 1) → (g = 0 → tr_rd a fm hd lf rt 8 R = R) → tr_G (tr_rd a fm hd lf rt 8 R) → post g (m, tr_rd a fm hd lf rt 8 R, T, fm, hd, lf, rt)) :
    ∀ d k g, k + d = 8 → tr_G (tr_rd a fm hd lf rt k R) → (g = 0 ∨ g = 1) → (g = 0 → tr_rd a fm hd lf rt k R = R) → wX_applyOnce__table_5 post a m (d + 1) g (nI k) (tr_rd a fm hd lf rt k R) T fm hd lf rt := by
  intro d
  induction d with
  | zero =>
    intro k g hk hG hg hz
    have e : k = 8 := by omega
    subst e
    refine br_t (by decide) ⟨?_, hp g hg hz hG⟩
    rcases hg with e | e <;> rw [e] <;> rfl
  | succ d ih =>
    intro k g hk hG hg hz
    have hk8 : k < 8 := by omega
    have ck : (nI k).toNatClampNeg = k := nI_clamp (by omega)
    refine br_f (nI_ge (b := 8) hk8 (by decide)) ?_
    by_cases hm : bt a k = true
    · have e : tr_rd a fm hd lf rt (k + 1) R = tr_st fm hd lf rt k (tr_rd a fm hd lf rt k R) := if_pos hm
      have ih' := ih (k + 1)
      rw [e] at ih'
      obtain ⟨h, h2, h4, eh⟩ := H k hk8 hm
      obtain ⟨l, hl, el⟩ := Vl k hk8
      obtain ⟨r, hr, er⟩ := Vr k hk8
      have hG' : tr_G (tr_st fm hd lf rt k (tr_rd a fm hd lf rt k R)) := tr_stG hG (tr_Hc H hk8 hm)
      generalize tr_rd a fm hd lf rt k R = S at ih' hG hG' hz ⊢
      have ch : (nI h).toNatClampNeg = h := nI_clamp (by omega)
      have k8 : vp_in (nI k) 8 := vp_in_nI hk8 (by decide)
      have h5 : vp_in (nI h) 5 := vp_in_nI (by omega) (by decide)
      have l5 : vp_in (lf (nI k).toNatClampNeg) 5 := by rw [ck, el]; exact vp_in_nI hl (by decide)
      have r5 : vp_in (rt (nI k).toNatClampNeg) 5 := by rw [ck, er]; exact vp_in_nI hr (by decide)
      have w : tr_W (S (lf (nI k).toNatClampNeg).toNatClampNeg) := by
        rw [ck, el, nI_clamp (by omega)]
        exact hG l hl
      have es : upd S (nI h).toNatClampNeg (S (nI h).toNatClampNeg ||| tr_cq (fm (nI k).toNatClampNeg) (S (lf (nI k).toNatClampNeg).toNatClampNeg) (S (rt (nI k).toNatClampNeg).toNatClampNeg)) = tr_st fm hd lf rt k S := by
        rw [ck]
        unfold tr_st
        rw [eh]
      have eu : ∀ v, S (nI h).toNatClampNeg = v → tr_st fm hd lf rt k S (nI h).toNatClampNeg = v → tr_st fm hd lf rt k S = S := by
        intro v e1 e2
        rw [← es] at e2 ⊢
        rw [pk_us] at e2
        exact tr_upd (e2.trans e1.symm)
      refine br_f (fun z => (tr_tst (by omega)).mp z hm) ⟨k8, nm_r (e' := nI h) (by rw [ck]; exact eh) ⟨h5, nm_e ⟨h5, k8, k8, l5, k8, r5, tr_xcq w ⟨h5, nm_r es ⟨h5, br_c (fun c => ?_) (fun c => ?_)⟩⟩⟩⟩⟩
      · exact nm_r Int32.or_zero (nm_r (nI_1 k) (ih' g (by omega) hG' hg (fun z => (eu _ rfl c).trans (hz z))))
      · exact nm_r (e' := 1) (by rcases hg with e | e <;> rw [e] <;> rfl) (nm_r (nI_1 k) (ih' 1 (by omega) hG' (Or.inr rfl) (fun z => absurd z (by decide))))
    · have e : tr_rd a fm hd lf rt (k + 1) R = tr_rd a fm hd lf rt k R := if_neg hm
      have ih' := ih (k + 1) g (by omega)
      rw [e] at ih'
      exact br_t ((tr_tst (by omega)).mpr hm) (nm_r (nI_1 k) (ih' hG hg hz))
theorem tr_xd22_table {post : SX → Prop} {a m : Int32} {T fm hd lf rt Q : Nat → Int32} (H : tr_H a hd) (Vl : tr_V lf) (Vr : tr_V rt) (hp : post (m, Q, T, fm, hd, lf, rt)) :
    ∀ d c g R, c + d = 76 → tr_G R → (g = 0 ∨ g = 1) → (g = 0 → tr_rd a fm hd lf rt 8 R = R) → tr_it (tr_rd a fm hd lf rt 8) d R = Q → wX_derive__table_22 post a (d + 1) g (nI c) m R T fm hd lf rt := by
  intro d
  induction d with
  | zero =>
    intro c g R hc hG hg hz hQ
    have e : c = 76 := by omega
    subst e
    have e2 : R = Q := hQ
    subst e2
    exact br_t (by decide) hp
  | succ d ih =>
    intro c g R hc hG hg hz hQ
    refine br_f (nI_ge (b := 76) (by omega) (by decide)) ?_
    by_cases g0 : g = 0
    · have e2 : R = Q := (tr_itf (hz g0) (d + 1)).symm.trans hQ
      subst e2
      exact br_t g0 hp
    · refine br_f g0 ⟨9, tr_xao_table (R := R) H Vl Vr (fun g' hg' hz' hG' => ?_) 8 0 0 rfl hG (Or.inl rfl) (fun _ => rfl)⟩
      exact nm_r (nI_1 c) (ih (c + 1) g' _ (by omega) hG' hg' (fun z => congrArg (tr_rd a fm hd lf rt 8) (hz' z)) hQ)
theorem tr_xder_table {post : SX → Prop} {a m : Int32} {R T fm hd lf rt : Nat → Int32} (H : tr_H a hd) (Vl : tr_V lf) (Vr : tr_V rt) (hG : tr_G (tr_z R)) (hp : post (m, tr_D a fm hd lf rt R, T, fm, hd, lf, rt)) : wpX_derive__table post (m, R, T, fm, hd, lf, rt) a := by
  have e2 : (2 : Int32).toNatClampNeg = 2 := by decide
  have e3 : (3 : Int32).toNatClampNeg = 3 := by decide
  have e4 : (4 : Int32).toNatClampNeg = 4 := by decide
  have h := tr_xd22_table (T := T) H Vl Vr hp 76 0 1 (tr_z R) rfl hG (Or.inr rfl) (fun z => absurd z (by decide)) rfl
  refine ⟨4, br_f (by decide) ⟨vp_in_iff.mpr (by decide), nm_r (e' := upd R 2 0) (by rw [e2]) (nm_r (e' := 3) (by decide) (br_f (by decide) ⟨vp_in_iff.mpr (by decide), nm_r (e' := upd (upd R 2 0) 3 0) (by rw [e3]) (nm_r (e' := 4) (by decide) (br_f (by decide) ⟨vp_in_iff.mpr (by decide), nm_r (e' := tr_z R) (by rw [e4]; rfl) (nm_r (e' := 5) (by decide) (br_t (by decide) ⟨77, h⟩))⟩))⟩))⟩⟩
/-! applyOnce and derive over trial -/
theorem tr_xao_trial {post : Int32 → SX → Prop} {a m : Int32} {R T fm hd lf rt : Nat → Int32} (H : tr_H a hd) (Vl : tr_V lf) (Vr : tr_V rt)
    (hp : ∀ g, (g = 0 ∨ g = 1) → (g = 0 → tr_rd a fm hd lf rt 8 R = R) → tr_G (tr_rd a fm hd lf rt 8 R) → post g (m, T, tr_rd a fm hd lf rt 8 R, fm, hd, lf, rt)) :
    ∀ d k g, k + d = 8 → tr_G (tr_rd a fm hd lf rt k R) → (g = 0 ∨ g = 1) → (g = 0 → tr_rd a fm hd lf rt k R = R) → wX_applyOnce__trial_5 post a m (d + 1) g (nI k) T (tr_rd a fm hd lf rt k R) fm hd lf rt := by
  intro d
  induction d with
  | zero =>
    intro k g hk hG hg hz
    have e : k = 8 := by omega
    subst e
    refine br_t (by decide) ⟨?_, hp g hg hz hG⟩
    rcases hg with e | e <;> rw [e] <;> rfl
  | succ d ih =>
    intro k g hk hG hg hz
    have hk8 : k < 8 := by omega
    have ck : (nI k).toNatClampNeg = k := nI_clamp (by omega)
    refine br_f (nI_ge (b := 8) hk8 (by decide)) ?_
    by_cases hm : bt a k = true
    · have e : tr_rd a fm hd lf rt (k + 1) R = tr_st fm hd lf rt k (tr_rd a fm hd lf rt k R) := if_pos hm
      have ih' := ih (k + 1)
      rw [e] at ih'
      obtain ⟨h, h2, h4, eh⟩ := H k hk8 hm
      obtain ⟨l, hl, el⟩ := Vl k hk8
      obtain ⟨r, hr, er⟩ := Vr k hk8
      have hG' : tr_G (tr_st fm hd lf rt k (tr_rd a fm hd lf rt k R)) := tr_stG hG (tr_Hc H hk8 hm)
      generalize tr_rd a fm hd lf rt k R = S at ih' hG hG' hz ⊢
      have ch : (nI h).toNatClampNeg = h := nI_clamp (by omega)
      have k8 : vp_in (nI k) 8 := vp_in_nI hk8 (by decide)
      have h5 : vp_in (nI h) 5 := vp_in_nI (by omega) (by decide)
      have l5 : vp_in (lf (nI k).toNatClampNeg) 5 := by rw [ck, el]; exact vp_in_nI hl (by decide)
      have r5 : vp_in (rt (nI k).toNatClampNeg) 5 := by rw [ck, er]; exact vp_in_nI hr (by decide)
      have w : tr_W (S (lf (nI k).toNatClampNeg).toNatClampNeg) := by
        rw [ck, el, nI_clamp (by omega)]
        exact hG l hl
      have es : upd S (nI h).toNatClampNeg (S (nI h).toNatClampNeg ||| tr_cq (fm (nI k).toNatClampNeg) (S (lf (nI k).toNatClampNeg).toNatClampNeg) (S (rt (nI k).toNatClampNeg).toNatClampNeg)) = tr_st fm hd lf rt k S := by
        rw [ck]
        unfold tr_st
        rw [eh]
      have eu : ∀ v, S (nI h).toNatClampNeg = v → tr_st fm hd lf rt k S (nI h).toNatClampNeg = v → tr_st fm hd lf rt k S = S := by
        intro v e1 e2
        rw [← es] at e2 ⊢
        rw [pk_us] at e2
        exact tr_upd (e2.trans e1.symm)
      refine br_f (fun z => (tr_tst (by omega)).mp z hm) ⟨k8, nm_r (e' := nI h) (by rw [ck]; exact eh) ⟨h5, nm_e ⟨h5, k8, k8, l5, k8, r5, tr_xcq w ⟨h5, nm_r es ⟨h5, br_c (fun c => ?_) (fun c => ?_)⟩⟩⟩⟩⟩
      · exact nm_r Int32.or_zero (nm_r (nI_1 k) (ih' g (by omega) hG' hg (fun z => (eu _ rfl c).trans (hz z))))
      · exact nm_r (e' := 1) (by rcases hg with e | e <;> rw [e] <;> rfl) (nm_r (nI_1 k) (ih' 1 (by omega) hG' (Or.inr rfl) (fun z => absurd z (by decide))))
    · have e : tr_rd a fm hd lf rt (k + 1) R = tr_rd a fm hd lf rt k R := if_neg hm
      have ih' := ih (k + 1) g (by omega)
      rw [e] at ih'
      exact br_t ((tr_tst (by omega)).mpr hm) (nm_r (nI_1 k) (ih' hG hg hz))
theorem tr_xd22_trial {post : SX → Prop} {a m : Int32} {T fm hd lf rt Q : Nat → Int32} (H : tr_H a hd) (Vl : tr_V lf) (Vr : tr_V rt) (hp : post (m, T, Q, fm, hd, lf, rt)) :
    ∀ d c g R, c + d = 76 → tr_G R → (g = 0 ∨ g = 1) → (g = 0 → tr_rd a fm hd lf rt 8 R = R) → tr_it (tr_rd a fm hd lf rt 8) d R = Q → wX_derive__trial_22 post a (d + 1) g (nI c) m T R fm hd lf rt := by
  intro d
  induction d with
  | zero =>
    intro c g R hc hG hg hz hQ
    have e : c = 76 := by omega
    subst e
    have e2 : R = Q := hQ
    subst e2
    exact br_t (by decide) hp
  | succ d ih =>
    intro c g R hc hG hg hz hQ
    refine br_f (nI_ge (b := 76) (by omega) (by decide)) ?_
    by_cases g0 : g = 0
    · have e2 : R = Q := (tr_itf (hz g0) (d + 1)).symm.trans hQ
      subst e2
      exact br_t g0 hp
    · refine br_f g0 ⟨9, tr_xao_trial (R := R) H Vl Vr (fun g' hg' hz' hG' => ?_) 8 0 0 rfl hG (Or.inl rfl) (fun _ => rfl)⟩
      exact nm_r (nI_1 c) (ih (c + 1) g' _ (by omega) hG' hg' (fun z => congrArg (tr_rd a fm hd lf rt 8) (hz' z)) hQ)
theorem tr_xder_trial {post : SX → Prop} {a m : Int32} {R T fm hd lf rt : Nat → Int32} (H : tr_H a hd) (Vl : tr_V lf) (Vr : tr_V rt) (hG : tr_G (tr_z R)) (hp : post (m, T, tr_D a fm hd lf rt R, fm, hd, lf, rt)) : wpX_derive__trial post (m, T, R, fm, hd, lf, rt) a := by
  have e2 : (2 : Int32).toNatClampNeg = 2 := by decide
  have e3 : (3 : Int32).toNatClampNeg = 3 := by decide
  have e4 : (4 : Int32).toNatClampNeg = 4 := by decide
  have h := tr_xd22_trial (T := T) H Vl Vr hp 76 0 1 (tr_z R) rfl hG (Or.inr rfl) (fun z => absurd z (by decide)) rfl
  refine ⟨4, br_f (by decide) ⟨vp_in_iff.mpr (by decide), nm_r (e' := upd R 2 0) (by rw [e2]) (nm_r (e' := 3) (by decide) (br_f (by decide) ⟨vp_in_iff.mpr (by decide), nm_r (e' := upd (upd R 2 0) 3 0) (by rw [e3]) (nm_r (e' := 4) (by decide) (br_f (by decide) ⟨vp_in_iff.mpr (by decide), nm_r (e' := tr_z R) (by rw [e4]; rfl) (nm_r (e' := 5) (by decide) (br_t (by decide) ⟨77, h⟩))⟩))⟩))⟩⟩
/-! copyGivenToTrial, trialIsTable, leastFreeRule, isRule -/
theorem tr_xcopy {post : SX → Prop} {m : Int32} {B T fm hd lf rt : Nat → Int32} (hp : post (m, B, upd (upd T 0 (B 0)) 1 (B 1), fm, hd, lf, rt)) : wpX_copyGivenToTrial post (m, B, T, fm, hd, lf, rt) := by
  have e0 : (0 : Int32).toNatClampNeg = 0 := by decide
  have e1 : (1 : Int32).toNatClampNeg = 1 := by decide
  exact ⟨3, br_f (by decide) ⟨vp_in_iff.mpr (by decide), vp_in_iff.mpr (by decide), nm_r (e' := upd T 0 (B 0)) (by rw [e0]) (nm_r (e' := 1) (by decide) (br_f (by decide) ⟨vp_in_iff.mpr (by decide), vp_in_iff.mpr (by decide), nm_r (e' := upd (upd T 0 (B 0)) 1 (B 1)) (by rw [e1]) (nm_r (e' := 2) (by decide) (br_t (by decide) hp))⟩))⟩⟩
theorem tr_xtit2 {post : Int32 → Prop} {m : Int32} {B T fm hd lf rt : Nat → Int32} (h1 : (∀ j, j < 5 → T j = B j) → post 1) (h0 : ¬ (∀ j, j < 5 → T j = B j) → post 0) : ∀ d k, k + d = 5 → (∀ j, j < k → T j = B j) → wX_trialIsTable_2 post m B T fm hd lf rt (d + 1) (nI k) := by
  intro d
  induction d with
  | zero =>
    intro k hk hj
    have e : k = 5 := by omega
    subst e
    exact br_t (by decide) (h1 hj)
  | succ d ih =>
    intro k hk hj
    have hk5 : k < 5 := by omega
    have ck : (nI k).toNatClampNeg = k := nI_clamp (by omega)
    have k5 : vp_in (nI k) 5 := vp_in_nI hk5 (by decide)
    refine br_f (nI_ge (b := 5) hk5 (by decide)) ⟨k5, k5, br_c (fun c => ?_) (fun c => ?_)⟩
    · rw [ck] at c
      exact nm_r (nI_1 k) (ih (k + 1) (by omega) (lt_s hj c))
    · rw [ck] at c
      exact h0 (fun z => c (z k hk5))
theorem tr_xtit {post : Int32 → Prop} {m : Int32} {B T fm hd lf rt : Nat → Int32} (h1 : (∀ j, j < 5 → T j = B j) → post 1) (h0 : ¬ (∀ j, j < 5 → T j = B j) → post 0) : wpX_trialIsTable post (m, B, T, fm, hd, lf, rt) := ⟨6, tr_xtit2 h1 h0 5 0 rfl lt_0⟩
theorem tr_xlf2 {post : Int32 → Prop} {m : Int32} {B T fm hd lf rt : Nat → Int32} (hp : ∀ k, k ≤ 8 → (∀ j, j < k → bt m j = true) → (k < 8 → ¬ bt m k = true) → post (nI k)) : ∀ d k, k + d = 8 → (∀ j, j < k → bt m j = true) → wX_leastFreeRule_2 post m B T fm hd lf rt (d + 1) (nI k) := by
  intro d
  induction d with
  | zero =>
    intro k hk hj
    have e : k = 8 := by omega
    subst e
    exact br_t (by decide) (hp 8 (Nat.le_refl 8) hj (fun z => absurd z (by decide)))
  | succ d ih =>
    intro k hk hj
    have hk8 : k < 8 := by omega
    refine br_f (nI_ge (b := 8) hk8 (by decide)) (br_c (fun c => ?_) (fun c => ?_))
    · exact hp k (by omega) hj (fun _ => (tr_tst (by omega)).mp c)
    · have hm : bt m k = true := Classical.not_not.mp (fun z => c ((tr_tst (by omega)).mpr z))
      exact nm_r (nI_1 k) (ih (k + 1) (by omega) (lt_s hj hm))
theorem tr_xlf {post : Int32 → Prop} {m : Int32} {B T fm hd lf rt : Nat → Int32} (hp : ∀ k, k ≤ 8 → (∀ j, j < k → bt m j = true) → (k < 8 → ¬ bt m k = true) → post (nI k)) : wpX_leastFreeRule post (m, B, T, fm, hd, lf, rt) := ⟨9, tr_xlf2 hp 8 0 rfl lt_0⟩
def tr_I (m x : Int32) : Prop := ∃ k, k < 8 ∧ x = nI k ∧ bt m k = true
theorem tr_xis {post : Int32 → Prop} {m x : Int32} {B T fm hd lf rt : Nat → Int32} (h1 : tr_I m x → post 1) (h0 : ¬ tr_I m x → post 0) : wpX_isRule post (m, B, T, fm, hd, lf, rt) x := by
  by_cases hF : tr_F 8 x
  · obtain ⟨k, hk, rfl⟩ := hF
    refine br_f (nI_pos (by omega)) (br_f (nI_ge (b := 8) hk (by decide)) (br_c (fun c => h0 ?_) (fun c => h1 ?_)))
    · rintro ⟨j, hj, e, b⟩
      rw [nI_eq (by omega) (by omega)] at e
      subst e
      exact (tr_tst (by omega)).mp c b
    · exact ⟨k, hk, rfl, Classical.not_not.mp (fun z => c ((tr_tst (by omega)).mpr z))⟩
  · have n : ¬ tr_I m x := fun ⟨k, hk, e, _⟩ => hF ⟨k, hk, e⟩
    by_cases h : x < 0
    · exact br_t h (h0 n)
    · exact br_f h (br_t (tr_ge hF h (by decide)) (h0 n))

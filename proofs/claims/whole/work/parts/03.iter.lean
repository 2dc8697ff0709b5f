/-! one rule, one round, 76 rounds -/
def tr_st (fm hd lf rt : Nat → Int32) (k : Nat) (R : Nat → Int32) : Nat → Int32 :=
  upd R (hd k).toNatClampNeg (R (hd k).toNatClampNeg ||| tr_cq (fm k) (R (lf k).toNatClampNeg) (R (rt k).toNatClampNeg))
def tr_rd (m : Int32) (fm hd lf rt : Nat → Int32) : Nat → (Nat → Int32) → (Nat → Int32)
  | 0, R => R
  | k + 1, R => if bt m k = true then tr_st fm hd lf rt k (tr_rd m fm hd lf rt k R) else tr_rd m fm hd lf rt k R
theorem tr_rdS (m : Int32) (fm hd lf rt : Nat → Int32) (k : Nat) (R : Nat → Int32) : tr_rd m fm hd lf rt (k + 1) R = if bt m k = true then tr_st fm hd lf rt k (tr_rd m fm hd lf rt k R) else tr_rd m fm hd lf rt k R := rfl
def tr_it (F : (Nat → Int32) → (Nat → Int32)) : Nat → (Nat → Int32) → (Nat → Int32)
  | 0, R => R
  | n + 1, R => tr_it F n (F R)
theorem tr_itS (F : (Nat → Int32) → (Nat → Int32)) (n : Nat) (R : Nat → Int32) : tr_it F (n + 1) R = tr_it F n (F R) := rfl
theorem tr_itf {F : (Nat → Int32) → (Nat → Int32)} {R : Nat → Int32} (h : F R = R) : ∀ n, tr_it F n R = R := by
  intro n
  induction n with
  | zero => rfl
  | succ n ih => rw [tr_itS, h, ih]
def tr_z (R : Nat → Int32) : Nat → Int32 := upd (upd (upd R 2 0) 3 0) 4 0
def tr_D (m : Int32) (fm hd lf rt R : Nat → Int32) : Nat → Int32 := tr_it (tr_rd m fm hd lf rt 8) 76 (tr_z R)
theorem tr_rdR {m : Int32} {fm hd lf rt : Nat → Int32} {P : (Nat → Int32) → (Nat → Int32) → Prop}
    (h : ∀ k R S, k < 8 → bt m k = true → P R S → P (tr_st fm hd lf rt k R) (tr_st fm hd lf rt k S)) :
    ∀ k, k ≤ 8 → ∀ R S, P R S → P (tr_rd m fm hd lf rt k R) (tr_rd m fm hd lf rt k S) := by
  intro k
  induction k with
  | zero => exact fun _ R S p => p
  | succ k ih =>
    intro hk R S p
    have q := ih (by omega) R S p
    rw [tr_rdS, tr_rdS]
    by_cases e : bt m k = true
    · rw [if_pos e, if_pos e]; exact h k _ _ (by omega) e q
    · rw [if_neg e, if_neg e]; exact q
theorem tr_itR {F : (Nat → Int32) → (Nat → Int32)} {P : (Nat → Int32) → (Nat → Int32) → Prop} (h : ∀ R S, P R S → P (F R) (F S)) : ∀ n R S, P R S → P (tr_it F n R) (tr_it F n S) := by
  intro n
  induction n with
  | zero => exact fun R S p => p
  | succ n ih => exact fun R S p => ih _ _ (h R S p)
theorem tr_DR {m : Int32} {fm hd lf rt : Nat → Int32} (P : (Nat → Int32) → (Nat → Int32) → Prop)
    (h : ∀ k R S, k < 8 → bt m k = true → P R S → P (tr_st fm hd lf rt k R) (tr_st fm hd lf rt k S)) {R S : Nat → Int32} (p : P (tr_z R) (tr_z S)) :
    P (tr_D m fm hd lf rt R) (tr_D m fm hd lf rt S) := tr_itR (fun R S q => tr_rdR h 8 (Nat.le_refl 8) R S q) 76 _ _ p
/-! which heads, lefts, rights may stand there -/
def tr_H (m : Int32) (hd : Nat → Int32) : Prop := ∀ k, k < 8 → bt m k = true → ∃ h, 2 ≤ h ∧ h ≤ 4 ∧ hd k = nI h
def tr_V (lf : Nat → Int32) : Prop := ∀ k, k < 8 → ∃ h, h < 5 ∧ lf k = nI h
def tr_G (R : Nat → Int32) : Prop := ∀ j, j < 5 → tr_W (R j)
theorem tr_zo {R : Nat → Int32} {j : Nat} (h : j < 2 ∨ 4 < j) : tr_z R j = R j := by
  unfold tr_z
  rw [pk_un (by omega), pk_un (by omega), pk_un (by omega)]
theorem tr_zi {R : Nat → Int32} {j : Nat} (h : 2 ≤ j) (h4 : j ≤ 4) : tr_z R j = 0 := by
  rcases (by omega : j = 2 ∨ j = 3 ∨ j = 4) with e | e | e <;> subst e <;> rfl
theorem tr_zx {R S : Nat → Int32} (h : ∀ j, j < 2 ∨ 4 < j → R j = S j) : tr_z R = tr_z S := by
  funext j
  by_cases e : j < 2 ∨ 4 < j
  · rw [tr_zo e, tr_zo e, h j e]
  · rw [tr_zi (by omega) (by omega), tr_zi (by omega) (by omega)]
theorem tr_Dx {m : Int32} {fm hd lf rt R S : Nat → Int32} (h : ∀ j, j < 2 ∨ 4 < j → R j = S j) : tr_D m fm hd lf rt R = tr_D m fm hd lf rt S := by
  unfold tr_D
  rw [tr_zx h]
theorem tr_sto {fm hd lf rt R : Nat → Int32} {k j : Nat} (h : j ≠ (hd k).toNatClampNeg) : tr_st fm hd lf rt k R j = R j := pk_un h
theorem tr_sti (fm hd lf rt R : Nat → Int32) (k : Nat) : tr_st fm hd lf rt k R (hd k).toNatClampNeg = (R (hd k).toNatClampNeg ||| tr_cq (fm k) (R (lf k).toNatClampNeg) (R (rt k).toNatClampNeg)) := pk_us
theorem tr_Do {m : Int32} {fm hd lf rt R : Nat → Int32} (H : tr_H m hd) : ∀ j, j < 2 ∨ 4 < j → tr_D m fm hd lf rt R j = R j := by
  refine tr_DR (fun S _ => ∀ j, j < 2 ∨ 4 < j → S j = R j) (fun k S _ hk hm p j hj => ?_) (R := R) (S := R) (fun j hj => tr_zo hj)
  obtain ⟨h, a, b, e⟩ := H k hk hm
  rw [tr_sto (by rw [e, nI_clamp (by omega)]; omega)]
  exact p j hj
theorem tr_DD {m : Int32} {fm hd lf rt R : Nat → Int32} (H : tr_H m hd) : tr_D m fm hd lf rt (tr_D m fm hd lf rt R) = tr_D m fm hd lf rt R := tr_Dx (tr_Do H)
theorem tr_stG {fm hd lf rt R : Nat → Int32} {k : Nat} (g : tr_G R) (hh : (hd k).toNatClampNeg < 5) : tr_G (tr_st fm hd lf rt k R) := by
  intro j hj
  by_cases e : j = (hd k).toNatClampNeg
  · rw [e, tr_sti]
    exact tr_Wor (g _ hh) (tr_Wcq _ _ _)
  · rw [tr_sto e]
    exact g j hj
theorem tr_Hc {m : Int32} {hd : Nat → Int32} (H : tr_H m hd) {k : Nat} (hk : k < 8) (hm : bt m k = true) : (hd k).toNatClampNeg < 5 := by
  obtain ⟨h, a, b, e⟩ := H k hk hm
  rw [e, nI_clamp (by omega)]
  omega
theorem tr_zG {R : Nat → Int32} (g : tr_G R) : tr_G (tr_z R) := by
  intro j hj
  by_cases e : j < 2 ∨ 4 < j
  · rw [tr_zo e]; exact g j hj
  · rw [tr_zi (by omega) (by omega)]; exact tr_W0
theorem tr_DG {m : Int32} {fm hd lf rt R : Nat → Int32} (H : tr_H m hd) (g : tr_G R) : tr_G (tr_D m fm hd lf rt R) :=
  tr_DR (fun S _ => tr_G S) (fun k S _ hk hm p => tr_stG p (tr_Hc H hk hm)) (R := R) (S := R) (tr_zG g)
theorem tr_DM {m : Int32} {fm hd lf rt R S : Nat → Int32} (h : ∀ j, tr_le (R j) (S j)) : ∀ j, tr_le (tr_D m fm hd lf rt R j) (tr_D m fm hd lf rt S j) := by
  refine tr_DR (fun R S => ∀ j, tr_le (R j) (S j)) (fun k R S hk hm p j => ?_) (fun j => ?_)
  · by_cases e : j = (hd k).toNatClampNeg
    · rw [e, tr_sti, tr_sti]
      intro i z
      rw [tr_or] at z ⊢
      exact z.elim (fun y => Or.inl (p _ i y)) (fun y => Or.inr (tr_cqM (p _) (p _) i y))
    · rw [tr_sto e, tr_sto e]
      exact p j
  · by_cases e : j < 2 ∨ 4 < j
    · rw [tr_zo e, tr_zo e]; exact h j
    · rw [tr_zi (by omega) (by omega), tr_zi (by omega) (by omega)]; exact fun i z => z
/-! a round that changes nothing -/
theorem tr_upd {f : Nat → Int32} {k : Nat} {x : Int32} (h : x = f k) : upd f k x = f := by
  funext j
  unfold upd
  by_cases e : j = k
  · rw [if_pos e, h, e]
  · rw [if_neg e]

/-! the pure picture: a relation is an Int32, bit 5x+y the pair (x, y) -/
theorem tr_ext {x y : Int32} (h : ∀ i, i < 32 → (bt x i = true ↔ bt y i = true)) : x = y := b_ext fun i hi => Bool.eq_iff_iff.mpr (h i hi)
theorem tr_one {l : Nat} (hl : l < 32) (i : Nat) : bt ((1 : Int32) <<< (nI l &&& 31)) i = true ↔ i = l := by
  unfold bt
  rw [nf_sh l hl, BitVec.getLsbD_twoPow, decide_eq_true hl, Bool.true_and, decide_eq_true_iff]
  exact eq_comm
theorem tr_31 (i : Nat) : bt 31 i = true ↔ i < 5 := by
  rcases Nat.lt_or_ge i 32 with h | h
  · exact (by decide +kernel : ∀ i, i < 32 → (bt 31 i = true ↔ i < 5)) i h
  · rw [b_big h]; exact ⟨(fun z => nomatch z), fun z => absurd z (by omega)⟩
theorem tr_c1 (i : Nat) : bt 1 i = true ↔ i = 0 := by
  rcases Nat.lt_or_ge i 32 with h | h
  · exact (by decide +kernel : ∀ i, i < 32 → (bt 1 i = true ↔ i = 0)) i h
  · rw [b_big h]; exact ⟨(fun z => nomatch z), fun z => absurd z (by omega)⟩
theorem tr_0 (i : Nat) : ¬ bt 0 i = true := by rw [b_0]; exact Bool.false_ne_true
theorem tr_not (x : Int32) {i : Nat} (hi : i < 32) : bt (x ^^^ (-1)) i = true ↔ ¬ bt x i = true := by
  rw [b_xor, b_m1 i hi]
  cases bt x i <;> decide
theorem tr_or (x y : Int32) (i : Nat) : bt (x ||| y) i = true ↔ bt x i = true ∨ bt y i = true := by rw [b_or, Bool.or_eq_true]
theorem tr_and (x y : Int32) (i : Nat) : bt (x &&& y) i = true ↔ bt x i = true ∧ bt y i = true := by rw [b_and, Bool.and_eq_true]
theorem tr_lt32 {x : Int32} {i : Nat} (h : bt x i = true) : i < 32 := by
  rcases Nat.lt_or_ge i 32 with z | z
  · exact z
  · rw [b_big z] at h; exact nomatch h
theorem tr_zero {x : Int32} : x = 0 ↔ ∀ i, i < 32 → ¬ bt x i = true := by
  constructor
  · intro h i _ z
    rw [h] at z
    exact tr_0 i z
  · intro h
    exact tr_ext fun i hi => ⟨fun z => absurd z (h i hi), fun z => absurd z (tr_0 i)⟩
theorem tr_tst {q : Int32} {l : Nat} (hl : l < 32) : (q &&& ((1 : Int32) <<< (nI l &&& 31))) = 0 ↔ ¬ bt q l = true := by
  rw [tr_zero]
  constructor
  · intro h z
    exact h l hl ((tr_and _ _ _).mpr ⟨z, (tr_one hl l).mpr rfl⟩)
  · intro h i hi z
    have z2 := (tr_and _ _ _).mp z
    have e := (tr_one hl i).mp z2.2
    rw [e] at z2
    exact h z2.1
theorem tr_bit (q : Int32) {l : Nat} (hl : l < 32) : (q >>> (nI l &&& 31)) &&& 1 = if bt q l = true then 1 else 0 := by
  apply tr_ext
  intro i hi
  rw [tr_and, tr_c1, b_sshr l hl q hi]
  by_cases h : bt q l = true
  · rw [if_pos h, tr_c1]
    constructor
    · exact fun z => z.2
    · intro z
      subst z
      exact ⟨by rw [Nat.add_zero, if_pos hl]; exact h, rfl⟩
  · rw [if_neg h]
    constructor
    · rintro ⟨z, e⟩
      subst e
      rw [Nat.add_zero, if_pos hl] at z
      exact absurd z h
    · exact fun z => absurd z (tr_0 i)
theorem tr_5 (x y : Nat) : (5 : Int32) * nI x + nI y = nI (5 * x + y) := by
  show nI 5 * nI x + nI y = _
  rw [pk_mul, nI_add]
theorem tr_5s (x : Nat) : (5 : Int32) * nI x = nI (5 * x) := pk_mul 5 x
/-! a value made of bits -/
def tr_mk (f : Nat → Bool) : Nat → Int32
  | 0 => 0
  | n + 1 => if f n = true then tr_mk f n ||| ((1 : Int32) <<< (nI n &&& 31)) else tr_mk f n
theorem tr_mkS (f : Nat → Bool) (n : Nat) : tr_mk f (n + 1) = if f n = true then tr_mk f n ||| ((1 : Int32) <<< (nI n &&& 31)) else tr_mk f n := rfl
theorem tr_mkb (f : Nat → Bool) : ∀ n, n ≤ 32 → ∀ i, (bt (tr_mk f n) i = true ↔ i < n ∧ f i = true) := by
  intro n
  induction n with
  | zero => exact fun _ i => ⟨fun z => absurd z (tr_0 i), fun z => absurd z.1 (by omega)⟩
  | succ n ih =>
    intro hn i
    have ih' := ih (by omega) i
    rw [tr_mkS]
    by_cases h : f n = true
    · rw [if_pos h, tr_or, ih', tr_one (by omega)]
      constructor
      · rintro (z | z)
        · exact ⟨Nat.lt_succ_of_lt z.1, z.2⟩
        · rw [z]; exact ⟨Nat.lt_succ_self n, h⟩
      · rintro ⟨a, b⟩
        by_cases e : i = n
        · exact Or.inr e
        · exact Or.inl ⟨by omega, b⟩
    · rw [if_neg h, ih']
      constructor
      · exact fun z => ⟨Nat.lt_succ_of_lt z.1, z.2⟩
      · rintro ⟨a, b⟩
        refine ⟨?_, b⟩
        by_cases e : i = n
        · rw [e] at b; exact absurd b h
        · omega
def tr_any (p : Nat → Bool) : Nat → Bool
  | 0 => false
  | n + 1 => tr_any p n || p n
theorem tr_anyS (p : Nat → Bool) (n : Nat) : tr_any p (n + 1) = (tr_any p n || p n) := rfl
theorem tr_anyb (p : Nat → Bool) : ∀ n, (tr_any p n = true ↔ ∃ z, z < n ∧ p z = true) := by
  intro n
  induction n with
  | zero => exact ⟨(fun z => nomatch z), fun ⟨z, a, _⟩ => absurd a (by omega)⟩
  | succ n ih =>
    rw [tr_anyS, Bool.or_eq_true, ih]
    constructor
    · rintro (⟨z, a, b⟩ | h)
      · exact ⟨z, by omega, b⟩
      · exact ⟨n, by omega, h⟩
    · rintro ⟨z, a, b⟩
      by_cases e : z = n
      · exact Or.inr (e ▸ b)
      · exact Or.inl ⟨z, by omega, b⟩
/-! what a rule says of the pair (x, y) -/
def tr_sy (f q r : Int32) (x y : Nat) : Bool :=
  if f = 0 then bt q (5 * x + y)
  else if f = 1 then bt q (5 * y + x)
  else if f = 3 then bt q (5 * x + y) && bt r (5 * x + y)
  else if f = 2 then tr_any (fun z => bt q (5 * x + z) && bt r (5 * z + y)) 5
  else tr_any (fun z => bt q (5 * x + y) && bt r (5 * x + z)) 5
theorem tr_sy0 {f : Int32} (q r : Int32) (x y : Nat) (h0 : f = 0) : tr_sy f q r x y = bt q (5 * x + y) := if_pos h0
theorem tr_sy1 {f : Int32} (q r : Int32) (x y : Nat) (h0 : ¬ f = 0) (h1 : f = 1) : tr_sy f q r x y = bt q (5 * y + x) := (if_neg h0).trans (if_pos h1)
theorem tr_sy3 {f : Int32} (q r : Int32) (x y : Nat) (h0 : ¬ f = 0) (h1 : ¬ f = 1) (h3 : f = 3) : tr_sy f q r x y = (bt q (5 * x + y) && bt r (5 * x + y)) := (if_neg h0).trans ((if_neg h1).trans (if_pos h3))
theorem tr_sy2 {f : Int32} (q r : Int32) (x y : Nat) (h0 : ¬ f = 0) (h1 : ¬ f = 1) (h3 : ¬ f = 3) (h2 : f = 2) : tr_sy f q r x y = tr_any (fun z => bt q (5 * x + z) && bt r (5 * z + y)) 5 := (if_neg h0).trans ((if_neg h1).trans ((if_neg h3).trans (if_pos h2)))
theorem tr_sy4 {f : Int32} (q r : Int32) (x y : Nat) (h0 : ¬ f = 0) (h1 : ¬ f = 1) (h3 : ¬ f = 3) (h2 : ¬ f = 2) : tr_sy f q r x y = tr_any (fun z => bt q (5 * x + y) && bt r (5 * x + z)) 5 := (if_neg h0).trans ((if_neg h1).trans ((if_neg h3).trans (if_neg h2)))
def tr_cq (f q r : Int32) : Int32 := tr_mk (fun c => tr_sy f q r (c / 5) (c % 5)) 25
theorem tr_cqb (f q r : Int32) (i : Nat) : bt (tr_cq f q r) i = true ↔ i < 25 ∧ tr_sy f q r (i / 5) (i % 5) = true := tr_mkb _ 25 (by decide) i
def tr_W (q : Int32) : Prop := ∀ i, bt q i = true → i < 25
def tr_le (q s : Int32) : Prop := ∀ i, bt q i = true → bt s i = true
theorem tr_W0 : tr_W 0 := fun i h => absurd h (tr_0 i)
theorem tr_Wcq (f q r : Int32) : tr_W (tr_cq f q r) := fun i h => ((tr_cqb f q r i).mp h).1
theorem tr_Wor {q r : Int32} (hq : tr_W q) (hr : tr_W r) : tr_W (q ||| r) := fun i h => ((tr_or _ _ i).mp h).elim (hq i) (hr i)
theorem tr_Wand {q r : Int32} (hq : tr_W q) : tr_W (q &&& r) := fun i h => hq i ((tr_and _ _ i).mp h).1
theorem tr_syM {f q r q' r' : Int32} (hq : tr_le q q') (hr : tr_le r r') {x y : Nat} (h : tr_sy f q r x y = true) : tr_sy f q' r' x y = true := by
  by_cases h0 : f = 0
  · rw [tr_sy0 _ _ _ _ h0] at h ⊢; exact hq _ h
  · by_cases h1 : f = 1
    · rw [tr_sy1 _ _ _ _ h0 h1] at h ⊢; exact hq _ h
    · by_cases h3 : f = 3
      · rw [tr_sy3 _ _ _ _ h0 h1 h3, Bool.and_eq_true] at h ⊢
        exact ⟨hq _ h.1, hr _ h.2⟩
      · by_cases h2 : f = 2
        · rw [tr_sy2 _ _ _ _ h0 h1 h3 h2, tr_anyb] at h ⊢
          obtain ⟨z, a, b⟩ := h
          simp only [Bool.and_eq_true] at b ⊢
          exact ⟨z, a, hq _ b.1, hr _ b.2⟩
        · rw [tr_sy4 _ _ _ _ h0 h1 h3 h2, tr_anyb] at h ⊢
          obtain ⟨z, a, b⟩ := h
          simp only [Bool.and_eq_true] at b ⊢
          exact ⟨z, a, hq _ b.1, hr _ b.2⟩
theorem tr_cqM {f q r q' r' : Int32} (hq : tr_le q q') (hr : tr_le r r') : tr_le (tr_cq f q r) (tr_cq f q' r') := fun i h => by
  rw [tr_cqb] at h ⊢
  exact ⟨h.1, tr_syM hq hr h.2⟩

section
def bt (x : Int32) (i : Nat) : Bool := x.toBitVec.getLsbD i
theorem b_ext {x y : Int32} (h : ∀ i, i < 32 → bt x i = bt y i) : x = y := Int32.toBitVec_inj.mp (BitVec.eq_of_getLsbD_eq (fun i hi => h i hi))
theorem b_or (x y : Int32) (i : Nat) : bt (x ||| y) i = (bt x i || bt y i) := by unfold bt; rw [Int32.toBitVec_or, BitVec.getLsbD_or]
theorem b_and (x y : Int32) (i : Nat) : bt (x &&& y) i = (bt x i && bt y i) := by unfold bt; rw [Int32.toBitVec_and, BitVec.getLsbD_and]
theorem b_xor (x y : Int32) (i : Nat) : bt (x ^^^ y) i = (bt x i ^^ bt y i) := by unfold bt; rw [Int32.toBitVec_xor, BitVec.getLsbD_xor]
theorem b_big {x : Int32} {i : Nat} (h : 32 ≤ i) : bt x i = false := BitVec.getLsbD_of_ge _ _ h
theorem b_m1 : ∀ i, i < 32 → bt (-1) i = true := by decide +kernel
theorem b_0 (i : Nat) : bt 0 i = false := BitVec.getLsbD_zero
theorem s_l : ∀ n, n < 32 → ((nI n &&& 31).toBitVec.smod 32).toNat = n := by decide +kernel
theorem b_shl (n : Nat) (hn : n < 32) (x : Int32) {i : Nat} (hi : i < 32) : bt (x <<< (nI n &&& 31)) i = (decide (n ≤ i) && bt x (i - n)) := by
  unfold bt
  rw [Int32.toBitVec_shiftLeft]
  show (x.toBitVec <<< ((nI n &&& 31).toBitVec.smod 32).toNat).getLsbD i = _
  rw [s_l n hn, BitVec.getLsbD_shiftLeft]
  rcases Nat.lt_or_ge i n with h | h
  · simp [h, Nat.not_le.mpr h]
  · simp [hi, h, Nat.not_lt.mpr h]
theorem b_sshr (n : Nat) (hn : n < 32) (x : Int32) {i : Nat} (hi : i < 32) : bt (x >>> (nI n &&& 31)) i = if n + i < 32 then bt x (n + i) else bt x 31 := by
  unfold bt
  rw [Int32.toBitVec_shiftRight]
  show (x.toBitVec.sshiftRight ((nI n &&& 31).toBitVec.smod 32).toNat).getLsbD i = _
  rw [s_l n hn, BitVec.getLsbD_sshiftRight, BitVec.msb_eq_getLsbD_last]
  simp [hi]
theorem nf_sh : ∀ l, l < 32 → ((1 : Int32) <<< (nI l &&& 31)).toBitVec = BitVec.twoPow 32 l := by decide +kernel
theorem pk_us {f : Nat → Int32} {k : Nat} {x : Int32} : upd f k x k = x := if_pos rfl
theorem pk_un {f : Nat → Int32} {k j : Nat} {x : Int32} (h : j ≠ k) : upd f k x j = f j := if_neg h
theorem pk_sub {a b : Nat} (h : b ≤ a) : nI a - nI b = nI (a - b) := by
  obtain ⟨c, rfl⟩ : ∃ c, a = c + b := ⟨a - b, by omega⟩
  rw [← nI_add, Int32.add_sub_cancel, Nat.add_sub_cancel]
theorem pk_mul (a b : Nat) : nI a * nI b = nI (a * b) := (Int32.ofNat_mul a b).symm
theorem pk_div {a d : Nat} (ha : a < 2 ^ 31) (h0 : 0 < d) (hd : d < 2 ^ 31) : nI a / nI d = nI (a / d) := by
  apply Int32.toInt_inj.mp
  rw [lg_idiv_nonneg (by rw [nI_toInt ha]; omega) (by rw [nI_toInt hd]; omega), nI_toInt ha, nI_toInt hd, nI_toInt (Nat.lt_of_le_of_lt (Nat.div_le_self a d) ha)]
  first | rfl | exact (Int.natCast_ediv _ _).symm
theorem pk_rem {a d : Nat} (ha : a < 2 ^ 31) (h0 : 0 < d) (hd : d < 2 ^ 31) : nI a - nI a / nI d * nI d = nI (a % d) := by
  rw [pk_div ha h0 hd, pk_mul, pk_sub (Nat.div_mul_le_self a d)]
  exact congrArg nI (by have := Nat.div_add_mod' a d; omega)
theorem pk_ix (x : Int32) {n : Nat} (hn : n < 2 ^ 31) : x < 0 ∨ nI n ≤ x ∨ ∃ j : Nat, j < n ∧ x = nI j := by
  by_cases h : x < 0
  · exact Or.inl h
  · obtain ⟨j, hj, rfl⟩ := nI_of h
    by_cases h2 : j < n
    · exact Or.inr (Or.inr ⟨j, h2, rfl⟩)
    · exact Or.inr (Or.inl (nI_le (by omega) hj))
theorem pk_le {x y : Int32} {A B : Prop} (a b : Nat) (f : a ≤ b → A) (g : b < a → B) (hx : x = nI a := by rfl) (hy : y = nI b := by rfl) (ha : a < 2 ^ 31 := by omega) (hb : b < 2 ^ 31 := by omega) : (x ≤ y → A) ∧ (¬ x ≤ y → B) := by
  subst hx hy
  rw [nI_leI ha hb]
  exact ⟨f, fun z => g (by omega)⟩
theorem pk_lt {x y : Int32} {A B : Prop} (a b : Nat) (f : a < b → A) (g : b ≤ a → B) (hx : x = nI a := by rfl) (hy : y = nI b := by rfl) (ha : a < 2 ^ 31 := by omega) (hb : b < 2 ^ 31 := by omega) : (x < y → A) ∧ (¬ x < y → B) := by
  subst hx hy
  rw [nI_ltI ha hb]
  exact ⟨f, fun z => g (by omega)⟩
theorem pk_eq {x y : Int32} {A B : Prop} (a b : Nat) (f : a = b → A) (g : a ≠ b → B) (hx : x = nI a := by rfl) (hy : y = nI b := by rfl) (ha : a < 2 ^ 31 := by omega) (hb : b < 2 ^ 31 := by omega) : (x = y → A) ∧ (¬ x = y → B) := by
  subst hx hy
  rw [nI_eq ha hb]
  exact ⟨f, g⟩
theorem pk_in {x : Int32} (n N : Nat) (h : n < N) (hx : x = nI n := by rfl) (hN : N < 2 ^ 31 := by omega) : vp_in x N := by
  subst hx
  exact vp_in_nI h hN
theorem pk_cl {x : Int32} (n : Nat) (hx : x = nI n := by rfl) (h : n < 2 ^ 31 := by omega) : x.toNatClampNeg = n := by
  subst hx
  exact nI_clamp h
theorem pk_tn {n : Nat} (h : n < 2 ^ 32) : (nI n).toBitVec.toNat = n := Nat.mod_eq_of_lt h
theorem pk_and (x : Int32) {m : Int32} (k : Nat) (hm : m.toBitVec.toNat = 2 ^ k - 1) : x &&& m = nI (x.toBitVec.toNat % 2 ^ k) := by
  apply Int32.toBitVec_inj.mp
  apply BitVec.eq_of_toNat_eq
  rw [Int32.toBitVec_and, BitVec.toNat_and, hm, Nat.and_two_pow_sub_one_eq_mod]
  show _ = (BitVec.ofNat 32 _).toNat
  rw [BitVec.toNat_ofNat]
  exact (Nat.mod_eq_of_lt (Nat.lt_of_le_of_lt (Nat.mod_le _ _) x.toBitVec.isLt)).symm
theorem pk_shr (a s : Int32) (k : Nat) (hs : (s.toBitVec.smod 32).toNat = k) : (a >>> s).toInt = a.toInt >>> k := by
  show (a.toBitVec.sshiftRight (s.toBitVec.smod 32).toNat).toInt = _
  rw [hs, BitVec.toInt_sshiftRight]
  rfl
theorem pk_shrN {n : Nat} (h : n < 2 ^ 31) (s : Int32) (k : Nat) (hs : (s.toBitVec.smod 32).toNat = k) : nI n >>> s = nI (n / 2 ^ k) := by
  apply Int32.toInt_inj.mp
  have h2 : n / 2 ^ k ≤ n := Nat.div_le_self _ _
  rw [pk_shr _ _ k hs, nI_toInt h, nI_toInt (by omega), Int.shiftRight_eq_div_pow]
  rfl
theorem pk_loop {σ : Type} (W : Nat → Nat → σ → Prop) (I : Nat → σ → Prop) (e i0 : Nat) (s : σ) (hi : i0 ≤ e) (h0 : I i0 s) (hx : ∀ n s, I e s → W (n + 1) e s)
    (hs : ∀ n i s, i < e → I i s → (∀ s', I (i + 1) s' → W n (i + 1) s') → W (n + 1) i s) : ∃ n, W n i0 s :=
  ⟨e + 1, loop_i W I e hx hs (e + 1) i0 s hi (by omega) h0⟩
end
section
/-! the pure picture: a relation is an Int32, bit 5x+y the pair (x, y) -/
theorem tr_ext {x y : Int32} (h : ∀ i, i < 32 → (bt x i = true ↔ bt y i = true)) : x = y := b_ext fun i hi => Bool.eq_iff_iff.mpr (h i hi)
theorem tr_one {l : Nat} (hl : l < 32) (i : Nat) : bt ((1 : Int32) <<< (nI l &&& 31)) i = true ↔ i = l := by
  unfold bt
  rw [nf_sh l hl, BitVec.getLsbD_twoPow, decide_eq_true hl, Bool.true_and, decide_eq_true_iff]
  exact eq_comm
theorem tr_31 (i : Nat) : bt 31 i = true ↔ i < 5 := by
  rcases Nat.lt_or_ge i 32 with h | h
  · exact (by decide +kernel : ∀ i, i < 32 → (bt 31 i = true ↔ i < 5)) i h
  · rw [b_big h]; exact ⟨(fun z => nomatch z), fun z => absurd z (by omega)⟩
theorem tr_c1 (i : Nat) : bt 1 i = true ↔ i = 0 := by
  rcases Nat.lt_or_ge i 32 with h | h
  · exact (by decide +kernel : ∀ i, i < 32 → (bt 1 i = true ↔ i = 0)) i h
  · rw [b_big h]; exact ⟨(fun z => nomatch z), fun z => absurd z (by omega)⟩
theorem tr_0 (i : Nat) : ¬ bt 0 i = true := by rw [b_0]; exact Bool.false_ne_true
theorem tr_not (x : Int32) {i : Nat} (hi : i < 32) : bt (x ^^^ (-1)) i = true ↔ ¬ bt x i = true := by
  rw [b_xor, b_m1 i hi]
  cases bt x i <;> decide
theorem tr_or (x y : Int32) (i : Nat) : bt (x ||| y) i = true ↔ bt x i = true ∨ bt y i = true := by rw [b_or, Bool.or_eq_true]
theorem tr_and (x y : Int32) (i : Nat) : bt (x &&& y) i = true ↔ bt x i = true ∧ bt y i = true := by rw [b_and, Bool.and_eq_true]
theorem tr_lt32 {x : Int32} {i : Nat} (h : bt x i = true) : i < 32 := by
  rcases Nat.lt_or_ge i 32 with z | z
  · exact z
  · rw [b_big z] at h; exact nomatch h
theorem tr_zero {x : Int32} : x = 0 ↔ ∀ i, i < 32 → ¬ bt x i = true := by
  constructor
  · intro h i _ z
    rw [h] at z
    exact tr_0 i z
  · intro h
    exact tr_ext fun i hi => ⟨fun z => absurd z (h i hi), fun z => absurd z (tr_0 i)⟩
theorem tr_tst {q : Int32} {l : Nat} (hl : l < 32) : (q &&& ((1 : Int32) <<< (nI l &&& 31))) = 0 ↔ ¬ bt q l = true := by
  rw [tr_zero]
  constructor
  · intro h z
    exact h l hl ((tr_and _ _ _).mpr ⟨z, (tr_one hl l).mpr rfl⟩)
  · intro h i hi z
    have z2 := (tr_and _ _ _).mp z
    have e := (tr_one hl i).mp z2.2
    rw [e] at z2
    exact h z2.1
theorem tr_bit (q : Int32) {l : Nat} (hl : l < 32) : (q >>> (nI l &&& 31)) &&& 1 = if bt q l = true then 1 else 0 := by
  apply tr_ext
  intro i hi
  rw [tr_and, tr_c1, b_sshr l hl q hi]
  by_cases h : bt q l = true
  · rw [if_pos h, tr_c1]
    constructor
    · exact fun z => z.2
    · intro z
      subst z
      exact ⟨by rw [Nat.add_zero, if_pos hl]; exact h, rfl⟩
  · rw [if_neg h]
    constructor
    · rintro ⟨z, e⟩
      subst e
      rw [Nat.add_zero, if_pos hl] at z
      exact absurd z h
    · exact fun z => absurd z (tr_0 i)
theorem tr_5 (x y : Nat) : (5 : Int32) * nI x + nI y = nI (5 * x + y) := by
  show nI 5 * nI x + nI y = _
  rw [pk_mul, nI_add]
theorem tr_5s (x : Nat) : (5 : Int32) * nI x = nI (5 * x) := pk_mul 5 x
/-! a value made of bits -/
def tr_mk (f : Nat → Bool) : Nat → Int32
  | 0 => 0
  | n + 1 => if f n = true then tr_mk f n ||| ((1 : Int32) <<< (nI n &&& 31)) else tr_mk f n
theorem tr_mkS (f : Nat → Bool) (n : Nat) : tr_mk f (n + 1) = if f n = true then tr_mk f n ||| ((1 : Int32) <<< (nI n &&& 31)) else tr_mk f n := rfl
theorem tr_mkb (f : Nat → Bool) : ∀ n, n ≤ 32 → ∀ i, (bt (tr_mk f n) i = true ↔ i < n ∧ f i = true) := by
  intro n
  induction n with
  | zero => exact fun _ i => ⟨fun z => absurd z (tr_0 i), fun z => absurd z.1 (by omega)⟩
  | succ n ih =>
    intro hn i
    have ih' := ih (by omega) i
    rw [tr_mkS]
    by_cases h : f n = true
    · rw [if_pos h, tr_or, ih', tr_one (by omega)]
      constructor
      · rintro (z | z)
        · exact ⟨Nat.lt_succ_of_lt z.1, z.2⟩
        · rw [z]; exact ⟨Nat.lt_succ_self n, h⟩
      · rintro ⟨a, b⟩
        by_cases e : i = n
        · exact Or.inr e
        · exact Or.inl ⟨by omega, b⟩
    · rw [if_neg h, ih']
      constructor
      · exact fun z => ⟨Nat.lt_succ_of_lt z.1, z.2⟩
      · rintro ⟨a, b⟩
        refine ⟨?_, b⟩
        by_cases e : i = n
        · rw [e] at b; exact absurd b h
        · omega
def tr_any (p : Nat → Bool) : Nat → Bool
  | 0 => false
  | n + 1 => tr_any p n || p n
theorem tr_anyS (p : Nat → Bool) (n : Nat) : tr_any p (n + 1) = (tr_any p n || p n) := rfl
theorem tr_anyb (p : Nat → Bool) : ∀ n, (tr_any p n = true ↔ ∃ z, z < n ∧ p z = true) := by
  intro n
  induction n with
  | zero => exact ⟨(fun z => nomatch z), fun ⟨z, a, _⟩ => absurd a (by omega)⟩
  | succ n ih =>
    rw [tr_anyS, Bool.or_eq_true, ih]
    constructor
    · rintro (⟨z, a, b⟩ | h)
      · exact ⟨z, by omega, b⟩
      · exact ⟨n, by omega, h⟩
    · rintro ⟨z, a, b⟩
      by_cases e : z = n
      · exact Or.inr (e ▸ b)
      · exact Or.inl ⟨z, by omega, b⟩
/-! what a rule says of the pair (x, y) -/
def tr_sy (f q r : Int32) (x y : Nat) : Bool :=
  if f = 0 then bt q (5 * x + y)
  else if f = 1 then bt q (5 * y + x)
  else if f = 3 then bt q (5 * x + y) && bt r (5 * x + y)
  else if f = 2 then tr_any (fun z => bt q (5 * x + z) && bt r (5 * z + y)) 5
  else tr_any (fun z => bt q (5 * x + y) && bt r (5 * x + z)) 5
theorem tr_sy0 {f : Int32} (q r : Int32) (x y : Nat) (h0 : f = 0) : tr_sy f q r x y = bt q (5 * x + y) := if_pos h0
theorem tr_sy1 {f : Int32} (q r : Int32) (x y : Nat) (h0 : ¬ f = 0) (h1 : f = 1) : tr_sy f q r x y = bt q (5 * y + x) := (if_neg h0).trans (if_pos h1)
theorem tr_sy3 {f : Int32} (q r : Int32) (x y : Nat) (h0 : ¬ f = 0) (h1 : ¬ f = 1) (h3 : f = 3) : tr_sy f q r x y = (bt q (5 * x + y) && bt r (5 * x + y)) := (if_neg h0).trans ((if_neg h1).trans (if_pos h3))
theorem tr_sy2 {f : Int32} (q r : Int32) (x y : Nat) (h0 : ¬ f = 0) (h1 : ¬ f = 1) (h3 : ¬ f = 3) (h2 : f = 2) : tr_sy f q r x y = tr_any (fun z => bt q (5 * x + z) && bt r (5 * z + y)) 5 := (if_neg h0).trans ((if_neg h1).trans ((if_neg h3).trans (if_pos h2)))
theorem tr_sy4 {f : Int32} (q r : Int32) (x y : Nat) (h0 : ¬ f = 0) (h1 : ¬ f = 1) (h3 : ¬ f = 3) (h2 : ¬ f = 2) : tr_sy f q r x y = tr_any (fun z => bt q (5 * x + y) && bt r (5 * x + z)) 5 := (if_neg h0).trans ((if_neg h1).trans ((if_neg h3).trans (if_neg h2)))
def tr_cq (f q r : Int32) : Int32 := tr_mk (fun c => tr_sy f q r (c / 5) (c % 5)) 25
theorem tr_cqb (f q r : Int32) (i : Nat) : bt (tr_cq f q r) i = true ↔ i < 25 ∧ tr_sy f q r (i / 5) (i % 5) = true := tr_mkb _ 25 (by decide) i
def tr_W (q : Int32) : Prop := ∀ i, bt q i = true → i < 25
def tr_le (q s : Int32) : Prop := ∀ i, bt q i = true → bt s i = true
theorem tr_W0 : tr_W 0 := fun i h => absurd h (tr_0 i)
theorem tr_Wcq (f q r : Int32) : tr_W (tr_cq f q r) := fun i h => ((tr_cqb f q r i).mp h).1
theorem tr_Wor {q r : Int32} (hq : tr_W q) (hr : tr_W r) : tr_W (q ||| r) := fun i h => ((tr_or _ _ i).mp h).elim (hq i) (hr i)
theorem tr_Wand {q r : Int32} (hq : tr_W q) : tr_W (q &&& r) := fun i h => hq i ((tr_and _ _ i).mp h).1
theorem tr_syM {f q r q' r' : Int32} (hq : tr_le q q') (hr : tr_le r r') {x y : Nat} (h : tr_sy f q r x y = true) : tr_sy f q' r' x y = true := by
  by_cases h0 : f = 0
  · rw [tr_sy0 _ _ _ _ h0] at h ⊢; exact hq _ h
  · by_cases h1 : f = 1
    · rw [tr_sy1 _ _ _ _ h0 h1] at h ⊢; exact hq _ h
    · by_cases h3 : f = 3
      · rw [tr_sy3 _ _ _ _ h0 h1 h3, Bool.and_eq_true] at h ⊢
        exact ⟨hq _ h.1, hr _ h.2⟩
      · by_cases h2 : f = 2
        · rw [tr_sy2 _ _ _ _ h0 h1 h3 h2, tr_anyb] at h ⊢
          obtain ⟨z, a, b⟩ := h
          simp only [Bool.and_eq_true] at b ⊢
          exact ⟨z, a, hq _ b.1, hr _ b.2⟩
        · rw [tr_sy4 _ _ _ _ h0 h1 h3 h2, tr_anyb] at h ⊢
          obtain ⟨z, a, b⟩ := h
          simp only [Bool.and_eq_true] at b ⊢
          exact ⟨z, a, hq _ b.1, hr _ b.2⟩
theorem tr_cqM {f q r q' r' : Int32} (hq : tr_le q q') (hr : tr_le r r') : tr_le (tr_cq f q r) (tr_cq f q' r') := fun i h => by
  rw [tr_cqb] at h ⊢
  exact ⟨h.1, tr_syM hq hr h.2⟩
end
section
/-! one rule, one round, 76 rounds -/
def tr_st (fm hd lf rt : Nat → Int32) (k : Nat) (R : Nat → Int32) : Nat → Int32 :=
  upd R (hd k).toNatClampNeg (R (hd k).toNatClampNeg ||| tr_cq (fm k) (R (lf k).toNatClampNeg) (R (rt k).toNatClampNeg))
def tr_rd (m : Int32) (fm hd lf rt : Nat → Int32) : Nat → (Nat → Int32) → (Nat → Int32)
  | 0, R => R
  | k + 1, R => if bt m k = true then tr_st fm hd lf rt k (tr_rd m fm hd lf rt k R) else tr_rd m fm hd lf rt k R
theorem tr_rdS (m : Int32) (fm hd lf rt : Nat → Int32) (k : Nat) (R : Nat → Int32) : tr_rd m fm hd lf rt (k + 1) R = if bt m k = true then tr_st fm hd lf rt k (tr_rd m fm hd lf rt k R) else tr_rd m fm hd lf rt k R := rfl
def tr_it (F : (Nat → Int32) → (Nat → Int32)) : Nat → (Nat → Int32) → (Nat → Int32)
  | 0, R => R
  | n + 1, R => tr_it F n (F R)
theorem tr_itS (F : (Nat → Int32) → (Nat → Int32)) (n : Nat) (R : Nat → Int32) : tr_it F (n + 1) R = tr_it F n (F R) := rfl
theorem tr_itf {F : (Nat → Int32) → (Nat → Int32)} {R : Nat → Int32} (h : F R = R) : ∀ n, tr_it F n R = R := by
  intro n
  induction n with
  | zero => rfl
  | succ n ih => rw [tr_itS, h, ih]
def tr_z (R : Nat → Int32) : Nat → Int32 := upd (upd (upd R 2 0) 3 0) 4 0
def tr_D (m : Int32) (fm hd lf rt R : Nat → Int32) : Nat → Int32 := tr_it (tr_rd m fm hd lf rt 8) 76 (tr_z R)
theorem tr_rdR {m : Int32} {fm hd lf rt : Nat → Int32} {P : (Nat → Int32) → (Nat → Int32) → Prop}
    (h : ∀ k R S, k < 8 → bt m k = true → P R S → P (tr_st fm hd lf rt k R) (tr_st fm hd lf rt k S)) :
    ∀ k, k ≤ 8 → ∀ R S, P R S → P (tr_rd m fm hd lf rt k R) (tr_rd m fm hd lf rt k S) := by
  intro k
  induction k with
  | zero => exact fun _ R S p => p
  | succ k ih =>
    intro hk R S p
    have q := ih (by omega) R S p
    rw [tr_rdS, tr_rdS]
    by_cases e : bt m k = true
    · rw [if_pos e, if_pos e]; exact h k _ _ (by omega) e q
    · rw [if_neg e, if_neg e]; exact q
theorem tr_itR {F : (Nat → Int32) → (Nat → Int32)} {P : (Nat → Int32) → (Nat → Int32) → Prop} (h : ∀ R S, P R S → P (F R) (F S)) : ∀ n R S, P R S → P (tr_it F n R) (tr_it F n S) := by
  intro n
  induction n with
  | zero => exact fun R S p => p
  | succ n ih => exact fun R S p => ih _ _ (h R S p)
theorem tr_DR {m : Int32} {fm hd lf rt : Nat → Int32} (P : (Nat → Int32) → (Nat → Int32) → Prop)
    (h : ∀ k R S, k < 8 → bt m k = true → P R S → P (tr_st fm hd lf rt k R) (tr_st fm hd lf rt k S)) {R S : Nat → Int32} (p : P (tr_z R) (tr_z S)) :
    P (tr_D m fm hd lf rt R) (tr_D m fm hd lf rt S) := tr_itR (fun R S q => tr_rdR h 8 (Nat.le_refl 8) R S q) 76 _ _ p
/-! which heads, lefts, rights may stand there -/
def tr_H (m : Int32) (hd : Nat → Int32) : Prop := ∀ k, k < 8 → bt m k = true → ∃ h, 2 ≤ h ∧ h ≤ 4 ∧ hd k = nI h
def tr_V (lf : Nat → Int32) : Prop := ∀ k, k < 8 → ∃ h, h < 5 ∧ lf k = nI h
def tr_G (R : Nat → Int32) : Prop := ∀ j, j < 5 → tr_W (R j)
theorem tr_zo {R : Nat → Int32} {j : Nat} (h : j < 2 ∨ 4 < j) : tr_z R j = R j := by
  unfold tr_z
  rw [pk_un (by omega), pk_un (by omega), pk_un (by omega)]
theorem tr_zi {R : Nat → Int32} {j : Nat} (h : 2 ≤ j) (h4 : j ≤ 4) : tr_z R j = 0 := by
  rcases (by omega : j = 2 ∨ j = 3 ∨ j = 4) with e | e | e <;> subst e <;> rfl
theorem tr_zx {R S : Nat → Int32} (h : ∀ j, j < 2 ∨ 4 < j → R j = S j) : tr_z R = tr_z S := by
  funext j
  by_cases e : j < 2 ∨ 4 < j
  · rw [tr_zo e, tr_zo e, h j e]
  · rw [tr_zi (by omega) (by omega), tr_zi (by omega) (by omega)]
theorem tr_Dx {m : Int32} {fm hd lf rt R S : Nat → Int32} (h : ∀ j, j < 2 ∨ 4 < j → R j = S j) : tr_D m fm hd lf rt R = tr_D m fm hd lf rt S := by
  unfold tr_D
  rw [tr_zx h]
theorem tr_sto {fm hd lf rt R : Nat → Int32} {k j : Nat} (h : j ≠ (hd k).toNatClampNeg) : tr_st fm hd lf rt k R j = R j := pk_un h
theorem tr_sti (fm hd lf rt R : Nat → Int32) (k : Nat) : tr_st fm hd lf rt k R (hd k).toNatClampNeg = (R (hd k).toNatClampNeg ||| tr_cq (fm k) (R (lf k).toNatClampNeg) (R (rt k).toNatClampNeg)) := pk_us
theorem tr_Do {m : Int32} {fm hd lf rt R : Nat → Int32} (H : tr_H m hd) : ∀ j, j < 2 ∨ 4 < j → tr_D m fm hd lf rt R j = R j := by
  refine tr_DR (fun S _ => ∀ j, j < 2 ∨ 4 < j → S j = R j) (fun k S _ hk hm p j hj => ?_) (R := R) (S := R) (fun j hj => tr_zo hj)
  obtain ⟨h, a, b, e⟩ := H k hk hm
  rw [tr_sto (by rw [e, nI_clamp (by omega)]; omega)]
  exact p j hj
theorem tr_DD {m : Int32} {fm hd lf rt R : Nat → Int32} (H : tr_H m hd) : tr_D m fm hd lf rt (tr_D m fm hd lf rt R) = tr_D m fm hd lf rt R := tr_Dx (tr_Do H)
theorem tr_stG {fm hd lf rt R : Nat → Int32} {k : Nat} (g : tr_G R) (hh : (hd k).toNatClampNeg < 5) : tr_G (tr_st fm hd lf rt k R) := by
  intro j hj
  by_cases e : j = (hd k).toNatClampNeg
  · rw [e, tr_sti]
    exact tr_Wor (g _ hh) (tr_Wcq _ _ _)
  · rw [tr_sto e]
    exact g j hj
theorem tr_Hc {m : Int32} {hd : Nat → Int32} (H : tr_H m hd) {k : Nat} (hk : k < 8) (hm : bt m k = true) : (hd k).toNatClampNeg < 5 := by
  obtain ⟨h, a, b, e⟩ := H k hk hm
  rw [e, nI_clamp (by omega)]
  omega
theorem tr_zG {R : Nat → Int32} (g : tr_G R) : tr_G (tr_z R) := by
  intro j hj
  by_cases e : j < 2 ∨ 4 < j
  · rw [tr_zo e]; exact g j hj
  · rw [tr_zi (by omega) (by omega)]; exact tr_W0
theorem tr_DG {m : Int32} {fm hd lf rt R : Nat → Int32} (H : tr_H m hd) (g : tr_G R) : tr_G (tr_D m fm hd lf rt R) :=
  tr_DR (fun S _ => tr_G S) (fun k S _ hk hm p => tr_stG p (tr_Hc H hk hm)) (R := R) (S := R) (tr_zG g)
theorem tr_DM {m : Int32} {fm hd lf rt R S : Nat → Int32} (h : ∀ j, tr_le (R j) (S j)) : ∀ j, tr_le (tr_D m fm hd lf rt R j) (tr_D m fm hd lf rt S j) := by
  refine tr_DR (fun R S => ∀ j, tr_le (R j) (S j)) (fun k R S hk hm p j => ?_) (fun j => ?_)
  · by_cases e : j = (hd k).toNatClampNeg
    · rw [e, tr_sti, tr_sti]
      intro i z
      rw [tr_or] at z ⊢
      exact z.elim (fun y => Or.inl (p _ i y)) (fun y => Or.inr (tr_cqM (p _) (p _) i y))
    · rw [tr_sto e, tr_sto e]
      exact p j
  · by_cases e : j < 2 ∨ 4 < j
    · rw [tr_zo e, tr_zo e]; exact h j
    · rw [tr_zi (by omega) (by omega), tr_zi (by omega) (by omega)]; exact fun i z => z
/-! a round that changes nothing -/
theorem tr_upd {f : Nat → Int32} {k : Nat} {x : Int32} (h : x = f k) : upd f k x = f := by
  funext j
  unfold upd
  by_cases e : j = k
  · rw [if_pos e, h, e]
  · rw [if_neg e]
end
section
/-! what the loops of the component hold, by bits -/
theorem tr_row (r : Int32) {z i : Nat} (hz : z < 5) (hi : i < 32) : bt ((r >>> (nI (5 * z) &&& 31)) &&& 31) i = true ↔ i < 5 ∧ bt r (5 * z + i) = true := by
  rw [tr_and, tr_31, b_sshr (5 * z) (by omega) r hi]
  constructor
  · rintro ⟨a, b⟩
    rw [if_pos (by omega)] at a
    exact ⟨b, a⟩
  · rintro ⟨a, b⟩
    rw [if_pos (by omega)]
    exact ⟨b, a⟩
theorem tr_rowB (r : Int32) {z i : Nat} (hz : z < 5) : bt ((r >>> (nI (5 * z) &&& 31)) &&& 31) i = true ↔ i < 5 ∧ bt r (5 * z + i) = true := by
  rcases Nat.lt_or_ge i 32 with h | h
  · exact tr_row r hz h
  · rw [b_big h]
    exact ⟨(fun z => nomatch z), fun z => absurd z.1 (by omega)⟩
theorem tr_row0 (r : Int32) {x : Nat} (hx : x < 5) : ((r >>> (nI (5 * x) &&& 31)) &&& 31) = 0 ↔ ¬ ∃ z, z < 5 ∧ bt r (5 * x + z) = true := by
  rw [tr_zero]
  constructor
  · rintro h ⟨z, a, b⟩
    exact h z (by omega) ((tr_rowB r hx).mpr ⟨a, b⟩)
  · intro h i hi z
    exact h ⟨i, (tr_rowB r hx).mp z⟩
theorem tr_shl5 (v : Int32) {x i : Nat} (hx : x < 5) (hi : i < 32) : bt (v <<< (nI (5 * x) &&& 31)) i = true ↔ 5 * x ≤ i ∧ bt v (i - 5 * x) = true := by
  rw [b_shl _ (by omega) v hi, Bool.and_eq_true, decide_eq_true_iff]
/-! turn -/
def tr_T (q : Int32) (x y : Nat) (t : Int32) : Prop := ∀ i, i < 32 → (bt t i = true ↔ i < 25 ∧ bt q (5 * (i % 5) + i / 5) = true ∧ (i % 5 < x ∨ (i % 5 = x ∧ i / 5 < y)))
theorem tr_T0 (q : Int32) : tr_T q 0 0 0 := fun i _ => ⟨fun z => absurd z (tr_0 i), fun ⟨_, _, c⟩ => absurd c (by omega)⟩
theorem tr_T5 {q t : Int32} {x : Nat} (h : tr_T q x 5 t) : tr_T q (x + 1) 0 t := fun i hi => (h i hi).trans ⟨fun ⟨a, b, c⟩ => ⟨a, b, by omega⟩, fun ⟨a, b, c⟩ => ⟨a, b, by omega⟩⟩
theorem tr_Tt {q t : Int32} {x y : Nat} (hx : x < 5) (hy : y < 5) (hq : bt q (5 * x + y) = true) (h : tr_T q x y t) : tr_T q x (y + 1) (t ||| ((1 : Int32) <<< (nI (5 * y + x) &&& 31))) := by
  intro i hi
  rw [tr_or, h i hi, tr_one (by omega)]
  constructor
  · rintro (⟨a, b, c⟩ | e)
    · exact ⟨a, b, by omega⟩
    · have e1 : i % 5 = x := by omega
      have e2 : i / 5 = y := by omega
      rw [e1, e2]
      exact ⟨by omega, hq, by omega⟩
  · rintro ⟨a, b, c⟩
    by_cases e : i = 5 * y + x
    · exact Or.inr e
    · exact Or.inl ⟨a, b, by omega⟩
theorem tr_Tf {q t : Int32} {x y : Nat} (hq : ¬ bt q (5 * x + y) = true) (h : tr_T q x y t) : tr_T q x (y + 1) t := by
  intro i hi
  rw [h i hi]
  constructor
  · rintro ⟨a, b, c⟩
    exact ⟨a, b, by omega⟩
  · rintro ⟨a, b, c⟩
    refine ⟨a, b, ?_⟩
    by_cases e : i % 5 = x ∧ i / 5 = y
    · rw [e.1, e.2] at b
      exact absurd b hq
    · omega
theorem tr_Te {q t : Int32} (r : Int32) {f : Int32} (h0 : ¬ f = 0) (h1 : f = 1) (h : tr_T q 5 0 t) : t = tr_cq f q r := tr_ext fun i hi => by
  rw [h i hi, tr_cqb, tr_sy1 _ _ _ _ h0 h1]
  exact ⟨fun ⟨a, b, _⟩ => ⟨a, b⟩, fun ⟨a, b⟩ => ⟨a, b, by omega⟩⟩
/-! join -/
def tr_J (q r : Int32) (x z : Nat) (t : Int32) : Prop := ∀ i, i < 32 → (bt t i = true ↔ i < 25 ∧ ∃ w, w < 5 ∧ bt q (5 * (i / 5) + w) = true ∧ bt r (5 * w + i % 5) = true ∧ (i / 5 < x ∨ (i / 5 = x ∧ w < z)))
theorem tr_J0 (q r : Int32) : tr_J q r 0 0 0 := fun i _ => ⟨fun z => absurd z (tr_0 i), fun ⟨_, w, _, _, _, c⟩ => absurd c (by omega)⟩
theorem tr_J5 {q r t : Int32} {x : Nat} (h : tr_J q r x 5 t) : tr_J q r (x + 1) 0 t := fun i hi => (h i hi).trans ⟨fun ⟨a, w, b, c, d, e⟩ => ⟨a, w, b, c, d, by omega⟩, fun ⟨a, w, b, c, d, e⟩ => ⟨a, w, b, c, d, by omega⟩⟩
theorem tr_Jt {q r t : Int32} {x z : Nat} (hx : x < 5) (hz : z < 5) (hq : bt q (5 * x + z) = true) (h : tr_J q r x z t) : tr_J q r x (z + 1) (t ||| (((r >>> (nI (5 * z) &&& 31)) &&& 31) <<< (nI (5 * x) &&& 31))) := by
  intro i hi
  rw [tr_or, h i hi, tr_shl5 _ hx hi, tr_rowB _ hz]
  constructor
  · rintro (⟨a, w, b, c, d, e⟩ | ⟨a, b, c⟩)
    · exact ⟨a, w, b, c, d, by omega⟩
    · have e1 : i / 5 = x := by omega
      have e2 : i - 5 * x = i % 5 := by omega
      rw [e2] at c
      exact ⟨by omega, z, hz, by rw [e1]; exact hq, c, by omega⟩
  · rintro ⟨a, w, b, c, d, e⟩
    by_cases g : i / 5 = x ∧ w = z
    · have e2 : i - 5 * x = i % 5 := by omega
      rw [g.2] at d
      exact Or.inr ⟨by omega, by omega, by rw [e2]; exact d⟩
    · exact Or.inl ⟨a, w, b, c, d, by omega⟩
theorem tr_Jf {q r t : Int32} {x z : Nat} (hq : ¬ bt q (5 * x + z) = true) (h : tr_J q r x z t) : tr_J q r x (z + 1) t := by
  intro i hi
  rw [h i hi]
  constructor
  · rintro ⟨a, w, b, c, d, e⟩
    exact ⟨a, w, b, c, d, by omega⟩
  · rintro ⟨a, w, b, c, d, e⟩
    refine ⟨a, w, b, c, d, ?_⟩
    by_cases g : i / 5 = x ∧ w = z
    · rw [g.1, g.2] at c
      exact absurd c hq
    · omega
theorem tr_Je {q r t f : Int32} (h0 : ¬ f = 0) (h1 : ¬ f = 1) (h3 : ¬ f = 3) (h2 : f = 2) (h : tr_J q r 5 0 t) : t = tr_cq f q r := tr_ext fun i hi => by
  rw [h i hi, tr_cqb, tr_sy2 _ _ _ _ h0 h1 h3 h2, tr_anyb]
  constructor
  · rintro ⟨a, w, b, c, d, e⟩
    exact ⟨a, w, b, (Bool.and_eq_true _ _).mpr ⟨c, d⟩⟩
  · rintro ⟨a, w, b, c⟩
    have c' := (Bool.and_eq_true _ _).mp c
    exact ⟨a, w, b, c'.1, c'.2, by omega⟩
/-! keepStarts -/
def tr_K (q r : Int32) (x : Nat) (t : Int32) : Prop := ∀ i, i < 32 → (bt t i = true ↔ i < 25 ∧ i / 5 < x ∧ bt q i = true ∧ ∃ z, z < 5 ∧ bt r (5 * (i / 5) + z) = true)
theorem tr_K0 (q r : Int32) : tr_K q r 0 0 := fun i _ => ⟨fun z => absurd z (tr_0 i), fun ⟨_, c, _⟩ => absurd c (by omega)⟩
theorem tr_Kt {q r t : Int32} {x : Nat} (hx : x < 5) (hr : ¬ ((r >>> (nI (5 * x) &&& 31)) &&& 31) = 0) (h : tr_K q r x t) : tr_K q r (x + 1) (t ||| (q &&& ((31 : Int32) <<< (nI (5 * x) &&& 31)))) := by
  have hr' := Classical.not_not.mp (fun z => hr ((tr_row0 r hx).mpr z))
  intro i hi
  rw [tr_or, h i hi, tr_and, tr_shl5 _ hx hi, tr_31]
  constructor
  · rintro (⟨a, b, c, d⟩ | ⟨a, b, c⟩)
    · exact ⟨a, by omega, c, d⟩
    · have e1 : i / 5 = x := by omega
      exact ⟨by omega, by omega, a, by rw [e1]; exact hr'⟩
  · rintro ⟨a, b, c, d⟩
    by_cases g : i / 5 = x
    · exact Or.inr ⟨c, by omega, by omega⟩
    · exact Or.inl ⟨a, by omega, c, d⟩
theorem tr_Kf {q r t : Int32} {x : Nat} (hx : x < 5) (hr : ((r >>> (nI (5 * x) &&& 31)) &&& 31) = 0) (h : tr_K q r x t) : tr_K q r (x + 1) t := by
  have hr' := (tr_row0 r hx).mp hr
  intro i hi
  rw [h i hi]
  constructor
  · rintro ⟨a, b, c, d⟩
    exact ⟨a, by omega, c, d⟩
  · rintro ⟨a, b, c, d⟩
    refine ⟨a, ?_, c, d⟩
    by_cases g : i / 5 = x
    · rw [g] at d
      exact absurd d hr'
    · omega
theorem tr_Ke {q r t f : Int32} (h0 : ¬ f = 0) (h1 : ¬ f = 1) (h3 : ¬ f = 3) (h2 : ¬ f = 2) (h : tr_K q r 5 t) : t = tr_cq f q r := tr_ext fun i hi => by
  rw [h i hi, tr_cqb, tr_sy4 _ _ _ _ h0 h1 h3 h2, tr_anyb, Nat.div_add_mod]
  constructor
  · rintro ⟨a, b, c, w, d, e⟩
    exact ⟨a, w, d, (Bool.and_eq_true _ _).mpr ⟨c, e⟩⟩
  · rintro ⟨a, w, b, c⟩
    have c' := (Bool.and_eq_true _ _).mp c
    exact ⟨a, by omega, c'.1, w, b, c'.2⟩
/-! copy and both -/
theorem tr_ce0 {q f : Int32} (r : Int32) (w : tr_W q) (h0 : f = 0) : q = tr_cq f q r := tr_ext fun i hi => by
  rw [tr_cqb, tr_sy0 _ _ _ _ h0, Nat.div_add_mod]
  exact ⟨fun z => ⟨w i z, z⟩, fun z => z.2⟩
theorem tr_ce3 {q r f : Int32} (w : tr_W q) (h0 : ¬ f = 0) (h1 : ¬ f = 1) (h3 : f = 3) : q &&& r = tr_cq f q r := tr_ext fun i hi => by
  rw [tr_cqb, tr_sy3 _ _ _ _ h0 h1 h3, Nat.div_add_mod, Bool.and_eq_true, tr_and]
  exact ⟨fun z => ⟨w i z.1, z⟩, fun z => z.2⟩
/-! to: a row of the turned relation -/
theorem tr_to (t : Int32) {y : Nat} (hy : y < 5) : (tr_cq 1 t t >>> (nI (5 * y) &&& 31)) &&& 31 = tr_mk (fun x => bt t (5 * x + y)) 5 := tr_ext fun i hi => by
  rw [tr_rowB _ hy, tr_cqb, tr_sy1 _ _ _ _ (by decide) rfl, tr_mkb _ _ (by decide)]
  constructor
  · rintro ⟨a, b, c⟩
    have e1 : (5 * y + i) % 5 = i := by omega
    have e2 : (5 * y + i) / 5 = y := by omega
    rw [e1, e2] at c
    exact ⟨a, c⟩
  · rintro ⟨a, c⟩
    have e1 : (5 * y + i) % 5 = i := by omega
    have e2 : (5 * y + i) / 5 = y := by omega
    rw [e1, e2]
    exact ⟨a, by omega, c⟩
/-! part of -/
theorem tr_part {p q : Int32} : (p &&& (q ^^^ (-1))) = 0 ↔ tr_le p q := by
  rw [tr_zero]
  constructor
  · intro h i z
    have hi := tr_lt32 z
    by_cases e : bt q i = true
    · exact e
    · exact absurd ((tr_and _ _ i).mpr ⟨z, (tr_not q hi).mpr e⟩) (h i hi)
  · intro h i hi z
    have z2 := (tr_and _ _ i).mp z
    exact (tr_not q hi).mp z2.2 (h i z2.1)
/-! counting -/
def tr_sz (v : Int32) : Nat → Nat
  | 0 => 0
  | n + 1 => tr_sz v n + (if bt v n = true then 1 else 0)
theorem tr_szS (v : Int32) (n : Nat) : tr_sz v (n + 1) = tr_sz v n + (if bt v n = true then 1 else 0) := rfl
theorem tr_szI (v : Int32) {n : Nat} (hn : n < 32) : nI (tr_sz v n) + ((v >>> (nI n &&& 31)) &&& 1) = nI (tr_sz v (n + 1)) := by
  rw [tr_bit v hn, tr_szS]
  by_cases h : bt v n = true
  · rw [if_pos h, if_pos h, nI_1]
  · rw [if_neg h, if_neg h, Int32.add_zero, Nat.add_zero]
theorem tr_szle (v : Int32) : ∀ n, tr_sz v n ≤ n := by
  intro n
  induction n with
  | zero => exact Nat.le_refl 0
  | succ n ih =>
    rw [tr_szS]
    by_cases h : bt v n = true
    · rw [if_pos h]; omega
    · rw [if_neg h]; omega
theorem tr_szd {s t : Int32} (h : tr_le s t) : ∀ n, n ≤ 32 → tr_sz (t &&& (s ^^^ (-1))) n + tr_sz s n = tr_sz t n := by
  intro n
  induction n with
  | zero => exact fun _ => rfl
  | succ n ih =>
    intro hn
    have ih' := ih (by omega)
    have e : bt (t &&& (s ^^^ (-1))) n = true ↔ bt t n = true ∧ ¬ bt s n = true := by rw [tr_and, tr_not s (by omega)]
    rw [tr_szS, tr_szS, tr_szS]
    by_cases ht : bt t n = true
    · by_cases hs : bt s n = true
      · rw [if_neg (fun z => (e.mp z).2 hs), if_pos hs, if_pos ht]; omega
      · rw [if_pos (e.mpr ⟨ht, hs⟩), if_neg hs, if_pos ht]; omega
    · have hs : ¬ bt s n = true := fun z => ht (h n z)
      rw [if_neg (fun z => ht (e.mp z).1), if_neg hs, if_neg ht]; omega
theorem tr_sz0 : ∀ n, tr_sz 0 n = 0 := by
  intro n
  induction n with
  | zero => rfl
  | succ n ih => rw [tr_szS, ih, if_neg (tr_0 n)]
/-! transitive -/
def tr_tp (t : Int32) (c : Nat) : Prop := bt t (5 * (c / 25) + c / 5 % 5) = true → bt t (5 * (c / 5 % 5) + c % 5) = true → bt t (5 * (c / 25) + c % 5) = true
theorem tr_tr (t : Int32) : tr_le (tr_cq 2 t t) t ↔ ∀ c, c < 125 → tr_tp t c := by
  constructor
  · intro h c hc a b
    apply h
    have e1 : (5 * (c / 25) + c % 5) / 5 = c / 25 := by omega
    have e2 : (5 * (c / 25) + c % 5) % 5 = c % 5 := by omega
    rw [tr_cqb, e1, e2, tr_sy2 _ _ _ _ (by decide) (by decide) (by decide) rfl, tr_anyb]
    exact ⟨by omega, c / 5 % 5, by omega, (Bool.and_eq_true _ _).mpr ⟨a, b⟩⟩
  · intro h i z
    rw [tr_cqb, tr_sy2 _ _ _ _ (by decide) (by decide) (by decide) rfl, tr_anyb] at z
    obtain ⟨a, w, b, c⟩ := z
    have c' := (Bool.and_eq_true _ _).mp c
    have hh := h (25 * (i / 5) + 5 * w + i % 5) (by omega)
    unfold tr_tp at hh
    have e1 : (25 * (i / 5) + 5 * w + i % 5) / 25 = i / 5 := by omega
    have e2 : (25 * (i / 5) + 5 * w + i % 5) / 5 % 5 = w := by omega
    have e3 : (25 * (i / 5) + 5 * w + i % 5) % 5 = i % 5 := by omega
    rw [e1, e2, e3, Nat.div_add_mod] at hh
    exact hh c'.1 c'.2
end
section
/-! the component's walks: tests, bits, loops over numbers -/
theorem tr_v {α : Sort _} {P : α → Prop} {a b : α} (e : a = b) (h : P b) : P a := by rw [e]; exact h
theorem tr_n10 : ¬ (1 : Int32) = 0 := by decide
def tr_F (n : Nat) (x : Int32) : Prop := ∃ j, j < n ∧ x = nI j
theorem tr_ge {n : Nat} {x : Int32} (h : ¬ tr_F n x) (h0 : ¬ x < 0) (hn : n < 2 ^ 31) : nI n ≤ x := by
  rcases pk_ix x hn with a | a | a
  · exact absurd a h0
  · exact a
  · exact absurd a h
theorem tr_gt {n : Nat} {x : Int32} (h : ¬ tr_F (n + 1) x) (h0 : ¬ x < 0) : nI n < x := by
  obtain ⟨j, hj, rfl⟩ := nI_of h0
  refine nI_lt ?_ hj
  by_cases z : j < n + 1
  · exact absurd ⟨j, z, rfl⟩ h
  · omega
theorem tr_xth_t {post : Int32 → Prop} {j : Nat} (h : j < 5) (hp : post 1) : wpX_isThing post (nI j) := br_f (nI_pos (by omega)) (br_f (nI_ge (b := 5) h (by decide)) hp)
theorem tr_xth_f {post : Int32 → Prop} {x : Int32} (h : ¬ tr_F 5 x) (hp : post 0) : wpX_isThing post x := by
  by_cases h0 : x < 0
  · exact br_t h0 hp
  · exact br_f h0 (br_t (tr_ge h h0 (by decide)) hp)
theorem tr_xre_t {post : Int32 → Prop} {j : Nat} (h : j < 5) (hp : post 1) : wpX_isRelation post (nI j) := br_f (nI_pos (by omega)) (br_f (nI_ge (b := 5) h (by decide)) hp)
theorem tr_xre_f {post : Int32 → Prop} {x : Int32} (h : ¬ tr_F 5 x) (hp : post 0) : wpX_isRelation post x := by
  by_cases h0 : x < 0
  · exact br_t h0 hp
  · exact br_f h0 (br_t (tr_ge h h0 (by decide)) hp)
theorem tr_xgi_t {post : Int32 → Prop} {j : Nat} (h : j < 2) (hp : post 1) : wpX_isGiven post (nI j) := br_f (nI_pos (by omega)) (br_f (nI_ge (b := 2) h (by decide)) hp)
theorem tr_xgi_f {post : Int32 → Prop} {x : Int32} (h : ¬ tr_F 2 x) (hp : post 0) : wpX_isGiven post x := by
  by_cases h0 : x < 0
  · exact br_t h0 hp
  · exact br_f h0 (br_t (tr_ge h h0 (by decide)) hp)
theorem tr_xpb {post : Int32 → Prop} {x y : Nat} (hp : post ((1 : Int32) <<< (nI (5 * x + y) &&& 31))) : wpX_pairBit post (nI x) (nI y) := by
  unfold wpX_pairBit
  rw [tr_5]
  exact hp
theorem tr_xrow {post : Int32 → Prop} {r : Int32} {x : Nat} (hp : post ((r >>> (nI (5 * x) &&& 31)) &&& 31)) : wpX_row post r (nI x) := by
  unfold wpX_row
  rw [tr_5s]
  exact hp
/-! turn -/
theorem tr_xt11 {post : Int32 → Prop} {J4 : Int32 → Int32 → Prop} {q : Int32} {x : Nat} (hx : x < 5) (hJ : ∀ t, tr_T q x 5 t → J4 t (nI (x + 1))) : ∀ d y t, y + d = 5 → tr_T q x y t → wX_turn_11 post J4 q (nI x) (d + 1) t (nI y) := by
  intro d
  induction d with
  | zero =>
    intro y t hy hT
    have e : y = 5 := by omega
    subst e
    exact br_t (by decide) (nm_r (nI_1 x) (hJ t hT))
  | succ d ih =>
    intro y t hy hT
    have hy5 : y < 5 := by omega
    refine br_f (nI_ge (b := 5) hy5 (by decide)) (tr_xpb ?_)
    by_cases hq : bt q (5 * x + y) = true
    · exact br_f (fun z => (tr_tst (by omega)).mp z hq) (tr_xpb (nm_e (nm_r (nI_1 y) (ih (y + 1) _ (by omega) (tr_Tt hx hy5 hq hT)))))
    · exact br_t ((tr_tst (by omega)).mpr hq) (nm_r (nI_1 y) (ih (y + 1) _ (by omega) (tr_Tf hq hT)))
theorem tr_xt4 {post : Int32 → Prop} {q : Int32} (hp : ∀ t, tr_T q 5 0 t → post t) : ∀ d x t, x + d = 5 → tr_T q x 0 t → wX_turn_4 post q (d + 1) t (nI x) := by
  intro d
  induction d with
  | zero =>
    intro x t hx hT
    have e : x = 5 := by omega
    subst e
    exact br_t (by decide) (hp t hT)
  | succ d ih =>
    intro x t hx hT
    have hx5 : x < 5 := by omega
    exact br_f (nI_ge (b := 5) hx5 (by decide)) ⟨6, tr_xt11 hx5 (fun t' h => ih (x + 1) t' (by omega) (tr_T5 h)) 5 0 t rfl hT⟩
theorem tr_xturn {post : Int32 → Prop} {q : Int32} (hp : ∀ t, tr_T q 5 0 t → post t) : wpX_turn post q := ⟨6, tr_xt4 hp 5 0 0 rfl (tr_T0 q)⟩
/-! join -/
theorem tr_xj12 {post : Int32 → Prop} {J4 : Int32 → Int32 → Prop} {q r : Int32} {x : Nat} (hx : x < 5) (hJ : ∀ t, tr_J q r x 5 t → J4 t (nI (x + 1))) : ∀ d z t, z + d = 5 → tr_J q r x z t → wX_join_12 post J4 q r (nI x) (d + 1) t (nI z) := by
  intro d
  induction d with
  | zero =>
    intro z t hz hT
    have e : z = 5 := by omega
    subst e
    exact br_t (by decide) (nm_r (nI_1 x) (hJ t hT))
  | succ d ih =>
    intro z t hz hT
    have hz5 : z < 5 := by omega
    refine br_f (nI_ge (b := 5) hz5 (by decide)) (tr_xpb ?_)
    by_cases hq : bt q (5 * x + z) = true
    · exact br_f (fun w => (tr_tst (by omega)).mp w hq) (tr_xrow (nm_r (e' := t ||| (((r >>> (nI (5 * z) &&& 31)) &&& 31) <<< (nI (5 * x) &&& 31))) (by rw [tr_5s]) (nm_r (nI_1 z) (ih (z + 1) _ (by omega) (tr_Jt hx hz5 hq hT)))))
    · exact br_t ((tr_tst (by omega)).mpr hq) (nm_r (nI_1 z) (ih (z + 1) _ (by omega) (tr_Jf hq hT)))
theorem tr_xj4 {post : Int32 → Prop} {q r : Int32} (hp : ∀ t, tr_J q r 5 0 t → post t) : ∀ d x t, x + d = 5 → tr_J q r x 0 t → wX_join_4 post q r (d + 1) t (nI x) := by
  intro d
  induction d with
  | zero =>
    intro x t hx hT
    have e : x = 5 := by omega
    subst e
    exact br_t (by decide) (hp t hT)
  | succ d ih =>
    intro x t hx hT
    have hx5 : x < 5 := by omega
    exact br_f (nI_ge (b := 5) hx5 (by decide)) ⟨6, tr_xj12 hx5 (fun t' h => ih (x + 1) t' (by omega) (tr_J5 h)) 5 0 t rfl hT⟩
theorem tr_xjoin {post : Int32 → Prop} {q r : Int32} (hp : ∀ t, tr_J q r 5 0 t → post t) : wpX_join post q r := ⟨6, tr_xj4 hp 5 0 0 rfl (tr_J0 q r)⟩
/-! keepStarts -/
theorem tr_xk4 {post : Int32 → Prop} {q r : Int32} (hp : ∀ t, tr_K q r 5 t → post t) : ∀ d x t, x + d = 5 → tr_K q r x t → wX_keepStarts_4 post q r (d + 1) t (nI x) := by
  intro d
  induction d with
  | zero =>
    intro x t hx hT
    have e : x = 5 := by omega
    subst e
    exact br_t (by decide) (hp t hT)
  | succ d ih =>
    intro x t hx hT
    have hx5 : x < 5 := by omega
    refine br_f (nI_ge (b := 5) hx5 (by decide)) (tr_xrow ?_)
    by_cases hr : ((r >>> (nI (5 * x) &&& 31)) &&& 31) = 0
    · exact br_t hr (nm_r (nI_1 x) (ih (x + 1) t (by omega) (tr_Kf hx5 hr hT)))
    · exact br_f hr (nm_r (e' := t ||| (q &&& ((31 : Int32) <<< (nI (5 * x) &&& 31)))) (by rw [tr_5s]) (nm_r (nI_1 x) (ih (x + 1) _ (by omega) (tr_Kt hx5 hr hT))))
theorem tr_xkeep {post : Int32 → Prop} {q r : Int32} (hp : ∀ t, tr_K q r 5 t → post t) : wpX_keepStarts post q r := ⟨6, tr_xk4 hp 5 0 0 rfl (tr_K0 q r)⟩
/-! consequence -/
theorem tr_xcq {post : Int32 → Prop} {f q r : Int32} (w : tr_W q) (hp : post (tr_cq f q r)) : wpX_consequence post f q r := by
  by_cases h0 : f < 0
  · refine br_t h0 (tr_xkeep fun t ht => ?_)
    refine tr_v (P := post) (tr_Ke ?_ ?_ ?_ ?_ ht) hp
    all_goals (intro e; rw [e] at h0; exact absurd h0 (by decide))
  · refine br_f h0 ?_
    by_cases h3 : 3 < f
    · refine br_t h3 (tr_xkeep fun t ht => ?_)
      refine tr_v (P := post) (tr_Ke ?_ ?_ ?_ ?_ ht) hp
      all_goals (intro e; rw [e] at h3; exact absurd h3 (by decide))
    · refine br_f h3 (br_c (fun e0 => tr_v (P := post) (tr_ce0 r w e0) hp) (fun n0 => br_c (fun e1 => tr_xturn fun t ht => tr_v (P := post) (tr_Te r n0 e1 ht) hp) (fun n1 => br_c (fun e2 => tr_xjoin fun t ht => tr_v (P := post) (tr_Je n0 n1 ?_ e2 ht) hp) (fun n2 => br_c (fun e3 => tr_v (P := post) (tr_ce3 w n0 n1 e3) hp) (fun _ => trivial)))))
      rw [e2]
      decide
/-! size -/
theorem tr_xs4 {post : Int32 → Prop} {v : Int32} (hp : post (nI (tr_sz v 25))) : ∀ d c, c + d = 25 → wX_size_4 post v (d + 1) (nI (tr_sz v c)) (nI c) := by
  intro d
  induction d with
  | zero =>
    intro c hc
    have e : c = 25 := by omega
    subst e
    exact br_t (by decide) hp
  | succ d ih =>
    intro c hc
    exact br_f (nI_ge (b := 25) (by omega) (by decide)) (nm_r (tr_szI v (by omega)) (nm_r (nI_1 c) (ih (c + 1) (by omega))))
theorem tr_xsize {post : Int32 → Prop} {v : Int32} (hp : post (nI (tr_sz v 25))) : wpX_size post v := ⟨26, tr_xs4 hp 25 0 rfl⟩
/-! isPart -/
theorem tr_xpart {post : Int32 → Prop} {p q : Int32} (h1 : tr_le p q → post 1) (h0 : ¬ tr_le p q → post 0) : wpX_isPart post p q := br_c (fun z => h1 (tr_part.mp z)) (fun z => h0 (fun y => z (tr_part.mpr y)))
end
section
/-! applyOnce and derive over table -/
theorem tr_xao_table {post : Int32 → SX → Prop} {a m : Int32} {R T fm hd lf rt : Nat → Int32} (H : tr_H a hd) (Vl : tr_V lf) (Vr : tr_V rt)
    (hp : ∀ g, (g = 0 ∨ g = 1) → (g = 0 → tr_rd a fm hd lf rt 8 R = R) → tr_G (tr_rd a fm hd lf rt 8 R) → post g (m, tr_rd a fm hd lf rt 8 R, T, fm, hd, lf, rt)) :
    ∀ d k g, k + d = 8 → tr_G (tr_rd a fm hd lf rt k R) → (g = 0 ∨ g = 1) → (g = 0 → tr_rd a fm hd lf rt k R = R) → wX_applyOnce__table_5 post a m (d + 1) g (nI k) (tr_rd a fm hd lf rt k R) T fm hd lf rt := by
  intro d
  induction d with
  | zero =>
    intro k g hk hG hg hz
    have e : k = 8 := by omega
    subst e
    refine br_t (by decide) ⟨?_, hp g hg hz hG⟩
    rcases hg with e | e <;> rw [e] <;> rfl
  | succ d ih =>
    intro k g hk hG hg hz
    have hk8 : k < 8 := by omega
    have ck : (nI k).toNatClampNeg = k := nI_clamp (by omega)
    refine br_f (nI_ge (b := 8) hk8 (by decide)) ?_
    by_cases hm : bt a k = true
    · have e : tr_rd a fm hd lf rt (k + 1) R = tr_st fm hd lf rt k (tr_rd a fm hd lf rt k R) := if_pos hm
      have ih' := ih (k + 1)
      rw [e] at ih'
      obtain ⟨h, h2, h4, eh⟩ := H k hk8 hm
      obtain ⟨l, hl, el⟩ := Vl k hk8
      obtain ⟨r, hr, er⟩ := Vr k hk8
      have hG' : tr_G (tr_st fm hd lf rt k (tr_rd a fm hd lf rt k R)) := tr_stG hG (tr_Hc H hk8 hm)
      generalize tr_rd a fm hd lf rt k R = S at ih' hG hG' hz ⊢
      have ch : (nI h).toNatClampNeg = h := nI_clamp (by omega)
      have k8 : vp_in (nI k) 8 := vp_in_nI hk8 (by decide)
      have h5 : vp_in (nI h) 5 := vp_in_nI (by omega) (by decide)
      have l5 : vp_in (lf (nI k).toNatClampNeg) 5 := by rw [ck, el]; exact vp_in_nI hl (by decide)
      have r5 : vp_in (rt (nI k).toNatClampNeg) 5 := by rw [ck, er]; exact vp_in_nI hr (by decide)
      have w : tr_W (S (lf (nI k).toNatClampNeg).toNatClampNeg) := by
        rw [ck, el, nI_clamp (by omega)]
        exact hG l hl
      have es : upd S (nI h).toNatClampNeg (S (nI h).toNatClampNeg ||| tr_cq (fm (nI k).toNatClampNeg) (S (lf (nI k).toNatClampNeg).toNatClampNeg) (S (rt (nI k).toNatClampNeg).toNatClampNeg)) = tr_st fm hd lf rt k S := by
        rw [ck]
        unfold tr_st
        rw [eh]
      have eu : ∀ v, S (nI h).toNatClampNeg = v → tr_st fm hd lf rt k S (nI h).toNatClampNeg = v → tr_st fm hd lf rt k S = S := by
        intro v e1 e2
        rw [← es] at e2 ⊢
        rw [pk_us] at e2
        exact tr_upd (e2.trans e1.symm)
      refine br_f (fun z => (tr_tst (by omega)).mp z hm) ⟨k8, nm_r (e' := nI h) (by rw [ck]; exact eh) ⟨h5, nm_e ⟨h5, k8, k8, l5, k8, r5, tr_xcq w ⟨h5, nm_r es ⟨h5, br_c (fun c => ?_) (fun c => ?_)⟩⟩⟩⟩⟩
      · exact nm_r Int32.or_zero (nm_r (nI_1 k) (ih' g (by omega) hG' hg (fun z => (eu _ rfl c).trans (hz z))))
      · exact nm_r (e' := 1) (by rcases hg with e | e <;> rw [e] <;> rfl) (nm_r (nI_1 k) (ih' 1 (by omega) hG' (Or.inr rfl) (fun z => absurd z (by decide))))
    · have e : tr_rd a fm hd lf rt (k + 1) R = tr_rd a fm hd lf rt k R := if_neg hm
      have ih' := ih (k + 1) g (by omega)
      rw [e] at ih'
      exact br_t ((tr_tst (by omega)).mpr hm) (nm_r (nI_1 k) (ih' hG hg hz))
theorem tr_xd22_table {post : SX → Prop} {a m : Int32} {T fm hd lf rt Q : Nat → Int32} (H : tr_H a hd) (Vl : tr_V lf) (Vr : tr_V rt) (hp : post (m, Q, T, fm, hd, lf, rt)) :
    ∀ d c g R, c + d = 76 → tr_G R → (g = 0 ∨ g = 1) → (g = 0 → tr_rd a fm hd lf rt 8 R = R) → tr_it (tr_rd a fm hd lf rt 8) d R = Q → wX_derive__table_22 post a (d + 1) g (nI c) m R T fm hd lf rt := by
  intro d
  induction d with
  | zero =>
    intro c g R hc hG hg hz hQ
    have e : c = 76 := by omega
    subst e
    have e2 : R = Q := hQ
    subst e2
    exact br_t (by decide) hp
  | succ d ih =>
    intro c g R hc hG hg hz hQ
    refine br_f (nI_ge (b := 76) (by omega) (by decide)) ?_
    by_cases g0 : g = 0
    · have e2 : R = Q := (tr_itf (hz g0) (d + 1)).symm.trans hQ
      subst e2
      exact br_t g0 hp
    · refine br_f g0 ⟨9, tr_xao_table (R := R) H Vl Vr (fun g' hg' hz' hG' => ?_) 8 0 0 rfl hG (Or.inl rfl) (fun _ => rfl)⟩
      exact nm_r (nI_1 c) (ih (c + 1) g' _ (by omega) hG' hg' (fun z => congrArg (tr_rd a fm hd lf rt 8) (hz' z)) hQ)
theorem tr_xder_table {post : SX → Prop} {a m : Int32} {R T fm hd lf rt : Nat → Int32} (H : tr_H a hd) (Vl : tr_V lf) (Vr : tr_V rt) (hG : tr_G (tr_z R)) (hp : post (m, tr_D a fm hd lf rt R, T, fm, hd, lf, rt)) : wpX_derive__table post (m, R, T, fm, hd, lf, rt) a := by
  have e2 : (2 : Int32).toNatClampNeg = 2 := by decide
  have e3 : (3 : Int32).toNatClampNeg = 3 := by decide
  have e4 : (4 : Int32).toNatClampNeg = 4 := by decide
  have h := tr_xd22_table (T := T) H Vl Vr hp 76 0 1 (tr_z R) rfl hG (Or.inr rfl) (fun z => absurd z (by decide)) rfl
  refine ⟨4, br_f (by decide) ⟨vp_in_iff.mpr (by decide), nm_r (e' := upd R 2 0) (by rw [e2]) (nm_r (e' := 3) (by decide) (br_f (by decide) ⟨vp_in_iff.mpr (by decide), nm_r (e' := upd (upd R 2 0) 3 0) (by rw [e3]) (nm_r (e' := 4) (by decide) (br_f (by decide) ⟨vp_in_iff.mpr (by decide), nm_r (e' := tr_z R) (by rw [e4]; rfl) (nm_r (e' := 5) (by decide) (br_t (by decide) ⟨77, h⟩))⟩))⟩))⟩⟩
/-! applyOnce and derive over trial -/
theorem tr_xao_trial {post : Int32 → SX → Prop} {a m : Int32} {R T fm hd lf rt : Nat → Int32} (H : tr_H a hd) (Vl : tr_V lf) (Vr : tr_V rt)
    (hp : ∀ g, (g = 0 ∨ g = 1) → (g = 0 → tr_rd a fm hd lf rt 8 R = R) → tr_G (tr_rd a fm hd lf rt 8 R) → post g (m, T, tr_rd a fm hd lf rt 8 R, fm, hd, lf, rt)) :
    ∀ d k g, k + d = 8 → tr_G (tr_rd a fm hd lf rt k R) → (g = 0 ∨ g = 1) → (g = 0 → tr_rd a fm hd lf rt k R = R) → wX_applyOnce__trial_5 post a m (d + 1) g (nI k) T (tr_rd a fm hd lf rt k R) fm hd lf rt := by
  intro d
  induction d with
  | zero =>
    intro k g hk hG hg hz
    have e : k = 8 := by omega
    subst e
    refine br_t (by decide) ⟨?_, hp g hg hz hG⟩
    rcases hg with e | e <;> rw [e] <;> rfl
  | succ d ih =>
    intro k g hk hG hg hz
    have hk8 : k < 8 := by omega
    have ck : (nI k).toNatClampNeg = k := nI_clamp (by omega)
    refine br_f (nI_ge (b := 8) hk8 (by decide)) ?_
    by_cases hm : bt a k = true
    · have e : tr_rd a fm hd lf rt (k + 1) R = tr_st fm hd lf rt k (tr_rd a fm hd lf rt k R) := if_pos hm
      have ih' := ih (k + 1)
      rw [e] at ih'
      obtain ⟨h, h2, h4, eh⟩ := H k hk8 hm
      obtain ⟨l, hl, el⟩ := Vl k hk8
      obtain ⟨r, hr, er⟩ := Vr k hk8
      have hG' : tr_G (tr_st fm hd lf rt k (tr_rd a fm hd lf rt k R)) := tr_stG hG (tr_Hc H hk8 hm)
      generalize tr_rd a fm hd lf rt k R = S at ih' hG hG' hz ⊢
      have ch : (nI h).toNatClampNeg = h := nI_clamp (by omega)
      have k8 : vp_in (nI k) 8 := vp_in_nI hk8 (by decide)
      have h5 : vp_in (nI h) 5 := vp_in_nI (by omega) (by decide)
      have l5 : vp_in (lf (nI k).toNatClampNeg) 5 := by rw [ck, el]; exact vp_in_nI hl (by decide)
      have r5 : vp_in (rt (nI k).toNatClampNeg) 5 := by rw [ck, er]; exact vp_in_nI hr (by decide)
      have w : tr_W (S (lf (nI k).toNatClampNeg).toNatClampNeg) := by
        rw [ck, el, nI_clamp (by omega)]
        exact hG l hl
      have es : upd S (nI h).toNatClampNeg (S (nI h).toNatClampNeg ||| tr_cq (fm (nI k).toNatClampNeg) (S (lf (nI k).toNatClampNeg).toNatClampNeg) (S (rt (nI k).toNatClampNeg).toNatClampNeg)) = tr_st fm hd lf rt k S := by
        rw [ck]
        unfold tr_st
        rw [eh]
      have eu : ∀ v, S (nI h).toNatClampNeg = v → tr_st fm hd lf rt k S (nI h).toNatClampNeg = v → tr_st fm hd lf rt k S = S := by
        intro v e1 e2
        rw [← es] at e2 ⊢
        rw [pk_us] at e2
        exact tr_upd (e2.trans e1.symm)
      refine br_f (fun z => (tr_tst (by omega)).mp z hm) ⟨k8, nm_r (e' := nI h) (by rw [ck]; exact eh) ⟨h5, nm_e ⟨h5, k8, k8, l5, k8, r5, tr_xcq w ⟨h5, nm_r es ⟨h5, br_c (fun c => ?_) (fun c => ?_)⟩⟩⟩⟩⟩
      · exact nm_r Int32.or_zero (nm_r (nI_1 k) (ih' g (by omega) hG' hg (fun z => (eu _ rfl c).trans (hz z))))
      · exact nm_r (e' := 1) (by rcases hg with e | e <;> rw [e] <;> rfl) (nm_r (nI_1 k) (ih' 1 (by omega) hG' (Or.inr rfl) (fun z => absurd z (by decide))))
    · have e : tr_rd a fm hd lf rt (k + 1) R = tr_rd a fm hd lf rt k R := if_neg hm
      have ih' := ih (k + 1) g (by omega)
      rw [e] at ih'
      exact br_t ((tr_tst (by omega)).mpr hm) (nm_r (nI_1 k) (ih' hG hg hz))
theorem tr_xd22_trial {post : SX → Prop} {a m : Int32} {T fm hd lf rt Q : Nat → Int32} (H : tr_H a hd) (Vl : tr_V lf) (Vr : tr_V rt) (hp : post (m, T, Q, fm, hd, lf, rt)) :
    ∀ d c g R, c + d = 76 → tr_G R → (g = 0 ∨ g = 1) → (g = 0 → tr_rd a fm hd lf rt 8 R = R) → tr_it (tr_rd a fm hd lf rt 8) d R = Q → wX_derive__trial_22 post a (d + 1) g (nI c) m T R fm hd lf rt := by
  intro d
  induction d with
  | zero =>
    intro c g R hc hG hg hz hQ
    have e : c = 76 := by omega
    subst e
    have e2 : R = Q := hQ
    subst e2
    exact br_t (by decide) hp
  | succ d ih =>
    intro c g R hc hG hg hz hQ
    refine br_f (nI_ge (b := 76) (by omega) (by decide)) ?_
    by_cases g0 : g = 0
    · have e2 : R = Q := (tr_itf (hz g0) (d + 1)).symm.trans hQ
      subst e2
      exact br_t g0 hp
    · refine br_f g0 ⟨9, tr_xao_trial (R := R) H Vl Vr (fun g' hg' hz' hG' => ?_) 8 0 0 rfl hG (Or.inl rfl) (fun _ => rfl)⟩
      exact nm_r (nI_1 c) (ih (c + 1) g' _ (by omega) hG' hg' (fun z => congrArg (tr_rd a fm hd lf rt 8) (hz' z)) hQ)
theorem tr_xder_trial {post : SX → Prop} {a m : Int32} {R T fm hd lf rt : Nat → Int32} (H : tr_H a hd) (Vl : tr_V lf) (Vr : tr_V rt) (hG : tr_G (tr_z R)) (hp : post (m, T, tr_D a fm hd lf rt R, fm, hd, lf, rt)) : wpX_derive__trial post (m, T, R, fm, hd, lf, rt) a := by
  have e2 : (2 : Int32).toNatClampNeg = 2 := by decide
  have e3 : (3 : Int32).toNatClampNeg = 3 := by decide
  have e4 : (4 : Int32).toNatClampNeg = 4 := by decide
  have h := tr_xd22_trial (T := T) H Vl Vr hp 76 0 1 (tr_z R) rfl hG (Or.inr rfl) (fun z => absurd z (by decide)) rfl
  refine ⟨4, br_f (by decide) ⟨vp_in_iff.mpr (by decide), nm_r (e' := upd R 2 0) (by rw [e2]) (nm_r (e' := 3) (by decide) (br_f (by decide) ⟨vp_in_iff.mpr (by decide), nm_r (e' := upd (upd R 2 0) 3 0) (by rw [e3]) (nm_r (e' := 4) (by decide) (br_f (by decide) ⟨vp_in_iff.mpr (by decide), nm_r (e' := tr_z R) (by rw [e4]; rfl) (nm_r (e' := 5) (by decide) (br_t (by decide) ⟨77, h⟩))⟩))⟩))⟩⟩
/-! copyGivenToTrial, trialIsTable, leastFreeRule, isRule -/
theorem tr_xcopy {post : SX → Prop} {m : Int32} {B T fm hd lf rt : Nat → Int32} (hp : post (m, B, upd (upd T 0 (B 0)) 1 (B 1), fm, hd, lf, rt)) : wpX_copyGivenToTrial post (m, B, T, fm, hd, lf, rt) := by
  have e0 : (0 : Int32).toNatClampNeg = 0 := by decide
  have e1 : (1 : Int32).toNatClampNeg = 1 := by decide
  exact ⟨3, br_f (by decide) ⟨vp_in_iff.mpr (by decide), vp_in_iff.mpr (by decide), nm_r (e' := upd T 0 (B 0)) (by rw [e0]) (nm_r (e' := 1) (by decide) (br_f (by decide) ⟨vp_in_iff.mpr (by decide), vp_in_iff.mpr (by decide), nm_r (e' := upd (upd T 0 (B 0)) 1 (B 1)) (by rw [e1]) (nm_r (e' := 2) (by decide) (br_t (by decide) hp))⟩))⟩⟩
theorem tr_xtit2 {post : Int32 → Prop} {m : Int32} {B T fm hd lf rt : Nat → Int32} (h1 : (∀ j, j < 5 → T j = B j) → post 1) (h0 : ¬ (∀ j, j < 5 → T j = B j) → post 0) : ∀ d k, k + d = 5 → (∀ j, j < k → T j = B j) → wX_trialIsTable_2 post m B T fm hd lf rt (d + 1) (nI k) := by
  intro d
  induction d with
  | zero =>
    intro k hk hj
    have e : k = 5 := by omega
    subst e
    exact br_t (by decide) (h1 hj)
  | succ d ih =>
    intro k hk hj
    have hk5 : k < 5 := by omega
    have ck : (nI k).toNatClampNeg = k := nI_clamp (by omega)
    have k5 : vp_in (nI k) 5 := vp_in_nI hk5 (by decide)
    refine br_f (nI_ge (b := 5) hk5 (by decide)) ⟨k5, k5, br_c (fun c => ?_) (fun c => ?_)⟩
    · rw [ck] at c
      exact nm_r (nI_1 k) (ih (k + 1) (by omega) (lt_s hj c))
    · rw [ck] at c
      exact h0 (fun z => c (z k hk5))
theorem tr_xtit {post : Int32 → Prop} {m : Int32} {B T fm hd lf rt : Nat → Int32} (h1 : (∀ j, j < 5 → T j = B j) → post 1) (h0 : ¬ (∀ j, j < 5 → T j = B j) → post 0) : wpX_trialIsTable post (m, B, T, fm, hd, lf, rt) := ⟨6, tr_xtit2 h1 h0 5 0 rfl lt_0⟩
theorem tr_xlf2 {post : Int32 → Prop} {m : Int32} {B T fm hd lf rt : Nat → Int32} (hp : ∀ k, k ≤ 8 → (∀ j, j < k → bt m j = true) → (k < 8 → ¬ bt m k = true) → post (nI k)) : ∀ d k, k + d = 8 → (∀ j, j < k → bt m j = true) → wX_leastFreeRule_2 post m B T fm hd lf rt (d + 1) (nI k) := by
  intro d
  induction d with
  | zero =>
    intro k hk hj
    have e : k = 8 := by omega
    subst e
    exact br_t (by decide) (hp 8 (Nat.le_refl 8) hj (fun z => absurd z (by decide)))
  | succ d ih =>
    intro k hk hj
    have hk8 : k < 8 := by omega
    refine br_f (nI_ge (b := 8) hk8 (by decide)) (br_c (fun c => ?_) (fun c => ?_))
    · exact hp k (by omega) hj (fun _ => (tr_tst (by omega)).mp c)
    · have hm : bt m k = true := Classical.not_not.mp (fun z => c ((tr_tst (by omega)).mpr z))
      exact nm_r (nI_1 k) (ih (k + 1) (by omega) (lt_s hj hm))
theorem tr_xlf {post : Int32 → Prop} {m : Int32} {B T fm hd lf rt : Nat → Int32} (hp : ∀ k, k ≤ 8 → (∀ j, j < k → bt m j = true) → (k < 8 → ¬ bt m k = true) → post (nI k)) : wpX_leastFreeRule post (m, B, T, fm, hd, lf, rt) := ⟨9, tr_xlf2 hp 8 0 rfl lt_0⟩
def tr_I (m x : Int32) : Prop := ∃ k, k < 8 ∧ x = nI k ∧ bt m k = true
theorem tr_xis {post : Int32 → Prop} {m x : Int32} {B T fm hd lf rt : Nat → Int32} (h1 : tr_I m x → post 1) (h0 : ¬ tr_I m x → post 0) : wpX_isRule post (m, B, T, fm, hd, lf, rt) x := by
  by_cases hF : tr_F 8 x
  · obtain ⟨k, hk, rfl⟩ := hF
    refine br_f (nI_pos (by omega)) (br_f (nI_ge (b := 8) hk (by decide)) (br_c (fun c => h0 ?_) (fun c => h1 ?_)))
    · rintro ⟨j, hj, e, b⟩
      rw [nI_eq (by omega) (by omega)] at e
      subst e
      exact (tr_tst (by omega)).mp c b
    · exact ⟨k, hk, rfl, Classical.not_not.mp (fun z => c ((tr_tst (by omega)).mpr z))⟩
  · have n : ¬ tr_I m x := fun ⟨k, hk, e, _⟩ => hF ⟨k, hk, e⟩
    by_cases h : x < 0
    · exact br_t h (h0 n)
    · exact br_f h (br_t (tr_ge hF h (by decide)) (h0 n))
end
section
/-! the reference's walks -/
theorem tr_n4 {j : Nat} (h : j < 5) : ¬ (4 : Int32) < nI j := nI_nlt (a := 4) (b := j) (by omega) (by decide)
theorem tr_y5t {post : Int32 → Prop} {th fm hd lf rt pr : Nat → Int32} {j : Nat} (h : j < 5) (hp : post 1) : wpY_five post (th, fm, hd, lf, rt, pr) (nI j) := br_f (nI_pos (by omega)) (br_f (tr_n4 h) hp)
theorem tr_y5f {post : Int32 → Prop} {th fm hd lf rt pr : Nat → Int32} {x : Int32} (h : ¬ tr_F 5 x) (hp : post 0) : wpY_five post (th, fm, hd, lf, rt, pr) x := by
  by_cases h0 : x < 0
  · exact br_t h0 hp
  · exact br_f h0 (br_t (tr_gt (n := 4) h h0) hp)
theorem tr_yin {post : Int32 → Prop} {th fm hd lf rt pr : Nat → Int32} {p x y : Nat} (hp : p < 5) (hx : x < 5) (hy : y < 5) (h1 : bt (pr p) (5 * x + y) = true → post 1) (h0 : ¬ bt (pr p) (5 * x + y) = true → post 0) : wpY_in post (th, fm, hd, lf, rt, pr) (nI p) (nI x) (nI y) := by
  have e : ((pr (nI p).toNatClampNeg) >>> (((5 * nI x) + nI y) &&& 31)) &&& 1 = if bt (pr p) (5 * x + y) = true then 1 else 0 := by rw [nI_clamp (by omega), tr_5, tr_bit _ (by omega)]
  refine ⟨vp_in_nI hp (by decide), ?_⟩
  by_cases h : bt (pr p) (5 * x + y) = true
  · rw [if_pos h] at e
    exact br_t e (h1 h)
  · rw [if_neg h] at e
    exact br_f (fun z => absurd (e.symm.trans z) (by decide)) (h0 h)
/-! says -/
theorem tr_ysl {post : Int32 → Prop} {th fm hd lf rt pr : Nat → Int32} {k x y q r : Nat} (hk : k < 8) (hq : q < 5) (hr : r < 5) (hx : x < 5) (hy : y < 5) {P : Nat → Bool}
    (hP2 : fm k = 2 → ∀ z, P z = (bt (pr q) (5 * x + z) && bt (pr r) (5 * z + y))) (hP4 : ¬ fm k = 2 → ∀ z, P z = (bt (pr q) (5 * x + y) && bt (pr r) (5 * x + z)))
    (h1 : tr_any P 5 = true → post 1) (h0 : ¬ tr_any P 5 = true → post 0) :
    ∀ d z, z + d = 5 → wY_says_108 post (nI k) (nI x) (nI y) (nI q) (nI r) th fm hd lf rt pr (d + 1) (if tr_any P z = true then 1 else 0) (nI z) := by
  intro d
  induction d with
  | zero =>
    intro z hz
    have e : z = 5 := by omega
    subst e
    by_cases ha : tr_any P 5 = true
    · rw [if_pos ha]; exact br_t (by decide) ⟨rfl, h1 ha⟩
    · rw [if_neg ha]; exact br_t (by decide) ⟨rfl, h0 ha⟩
  | succ d ih =>
    intro z hz
    have hz5 : z < 5 := by omega
    have ck : (nI k).toNatClampNeg = k := nI_clamp (by omega)
    have k8 : vp_in (nI k) 8 := vp_in_nI hk (by decide)
    have ih' := ih (z + 1) (by omega)
    rw [tr_anyS] at ih'
    have h5 : ¬ (5 : Int32) ≤ nI z := nI_ge (b := 5) hz5 (by decide)
    by_cases ha : tr_any P z = true
    · rw [if_pos ha]
      rw [if_pos (by rw [ha]; rfl)] at ih'
      exact br_f h5 (br_f tr_n10 (nm_r (nI_1 z) ih'))
    · rw [if_neg ha]
      have k1 : P z = true → wY_says_108 post (nI k) (nI x) (nI y) (nI q) (nI r) th fm hd lf rt pr (d + 1) 1 (nI (z + 1)) := fun b => by
        rw [if_pos (by rw [b, Bool.or_true])] at ih'
        exact ih'
      have k0 : ¬ P z = true → wY_says_108 post (nI k) (nI x) (nI y) (nI q) (nI r) th fm hd lf rt pr (d + 1) 0 (nI (z + 1)) := fun b => by
        rw [if_neg (fun w => ((Bool.or_eq_true _ _).mp w).elim ha b)] at ih'
        exact ih'
      refine br_f h5 (br_t rfl ⟨k8, br_c (fun c => ?_) (fun c => ?_)⟩)
      · rw [ck] at c
        have hP := hP2 c z
        exact tr_yin hq hx hz5 (fun b => br_f tr_n10 (tr_yin hr hz5 hy (fun b2 => br_f tr_n10 (nm_r (nI_1 z) (k1 (by rw [hP, b, b2]; rfl)))) (fun b2 => br_t rfl (nm_r (nI_1 z) (k0 (by rw [hP, Bool.and_eq_true]; exact fun w => b2 w.2)))))) (fun b => br_t rfl (nm_r (nI_1 z) (k0 (by rw [hP, Bool.and_eq_true]; exact fun w => b w.1))))
      · rw [ck] at c
        have hP := hP4 c z
        exact tr_yin hq hx hy (fun b => br_f tr_n10 (tr_yin hr hx hz5 (fun b2 => br_f tr_n10 (nm_r (nI_1 z) (k1 (by rw [hP, b, b2]; rfl)))) (fun b2 => br_t rfl (nm_r (nI_1 z) (k0 (by rw [hP, Bool.and_eq_true]; exact fun w => b2 w.2)))))) (fun b => br_t rfl (nm_r (nI_1 z) (k0 (by rw [hP, Bool.and_eq_true]; exact fun w => b w.1))))
theorem tr_ysays {post : Int32 → Prop} {th fm hd lf rt pr : Nat → Int32} {k x y q r : Nat} (hk : k < 8) (hq : q < 5) (hr : r < 5) (hx : x < 5) (hy : y < 5) (el : lf k = nI q) (er : rt k = nI r)
    (h1 : tr_sy (fm k) (pr q) (pr r) x y = true → post 1) (h0 : ¬ tr_sy (fm k) (pr q) (pr r) x y = true → post 0) : wpY_says post (th, fm, hd, lf, rt, pr) (nI k) (nI x) (nI y) := by
  have ck : (nI k).toNatClampNeg = k := nI_clamp (by omega)
  have k8 : vp_in (nI k) 8 := vp_in_nI hk (by decide)
  refine ⟨k8, nm_r (e' := nI q) (by rw [ck]; exact el) ⟨k8, nm_r (e' := nI r) (by rw [ck]; exact er) ⟨k8, br_c (fun c => ?_) (fun c => ⟨k8, br_c (fun c1 => ?_) (fun c1 => ⟨k8, br_c (fun c3 => ?_) (fun c3 => ?_)⟩)⟩)⟩⟩⟩
  · have c' := c
    rw [ck] at c'
    rw [tr_sy0 _ _ _ _ c'] at h1 h0
    exact ⟨k8, br_t c (tr_yin hq hx hy (fun b => ⟨rfl, h1 b⟩) (fun b => ⟨rfl, h0 b⟩))⟩
  · have c' := c
    rw [ck] at c' c1
    rw [tr_sy1 _ _ _ _ c' c1] at h1 h0
    exact ⟨k8, br_f c (tr_yin hq hy hx (fun b => ⟨rfl, h1 b⟩) (fun b => ⟨rfl, h0 b⟩))⟩
  · rw [ck] at c c1 c3
    rw [tr_sy3 _ _ _ _ c c1 c3, Bool.and_eq_true] at h1 h0
    exact tr_yin hq hx hy (fun b => br_f tr_n10 (tr_yin hr hx hy (fun b2 => br_f tr_n10 (h1 ⟨b, b2⟩)) (fun b2 => br_t rfl (h0 (fun w => b2 w.2))))) (fun b => br_t rfl (h0 (fun w => b w.1)))
  · rw [ck] at c c1 c3
    by_cases c2 : fm k = 2
    · rw [tr_sy2 _ _ _ _ c c1 c3 c2] at h1 h0
      exact ⟨6, tr_ysl hk hq hr hx hy (fun _ z => rfl) (fun n => absurd c2 n) h1 h0 5 0 rfl⟩
    · rw [tr_sy4 _ _ _ _ c c1 c3 c2] at h1 h0
      exact ⟨6, tr_ysl hk hq hr hx hy (fun n => absurd n c2) (fun _ z => rfl) h1 h0 5 0 rfl⟩
/-! use -/
theorem tr_yu17 {post : Int32 → SY → Prop} {th fm hd lf rt pr : Nat → Int32} {k q r h : Nat} (hk : k < 8) (hq : q < 5) (hr : r < 5) (hh : h < 5) (el : lf k = nI q) (er : rt k = nI r) (eh : hd k = nI h)
    (hp : ∀ g, (g = 0 ∨ g = 1) → (g = 0 → tr_st fm hd lf rt k pr = pr) → post g (th, fm, hd, lf, rt, tr_st fm hd lf rt k pr)) :
    ∀ d c, c + d = 25 → wY_use_17 post (nI k) (pr h) th fm hd lf rt pr (d + 1) (pr h ||| tr_mk (fun c => tr_sy (fm k) (pr q) (pr r) (c / 5) (c % 5)) c) (nI c) := by
  have ck : (nI k).toNatClampNeg = k := nI_clamp (by omega)
  have k8 : vp_in (nI k) 8 := vp_in_nI hk (by decide)
  have h5 : vp_in (hd (nI k).toNatClampNeg) 5 := by rw [ck, eh]; exact vp_in_nI hh (by decide)
  have es : upd pr (hd (nI k).toNatClampNeg).toNatClampNeg (pr h ||| tr_cq (fm k) (pr q) (pr r)) = tr_st fm hd lf rt k pr := by
    unfold tr_st
    rw [ck, eh, el, er, nI_clamp (by omega), nI_clamp (by omega), nI_clamp (by omega)]
  intro d
  induction d with
  | zero =>
    intro c hc
    have e : c = 25 := by omega
    subst e
    refine br_t (by decide) ⟨k8, h5, nm_r es (br_c (fun e => hp 0 (Or.inl rfl) (fun _ => ?_)) (fun e => hp 1 (Or.inr rfl) (fun z => absurd z (by decide))))⟩
    rw [← es]
    refine tr_upd ?_
    rw [ck, eh, nI_clamp (by omega)]
    exact e
  | succ d ih =>
    intro c hc
    have e5 : nI c / 5 = nI (c / 5) := pk_div (d := 5) (by omega) (by decide) (by decide)
    have em : nI c - nI c / 5 * 5 = nI (c % 5) := pk_rem (d := 5) (by omega) (by decide) (by decide)
    have ih' := ih (c + 1) (by omega)
    rw [tr_mkS] at ih'
    refine br_f (nI_ge (b := 25) (by omega) (by decide)) ⟨by decide, by decide, ?_⟩
    rw [em, e5]
    refine tr_ysays hk hq hr (by omega) (by omega) el er (fun b => ?_) (fun b => ?_)
    · rw [if_pos b] at ih'
      exact br_f tr_n10 (nm_r (Int32.or_assoc _ _ _) (nm_r (nI_1 c) ih'))
    · rw [if_neg b] at ih'
      exact br_t rfl (nm_r (nI_1 c) ih')
theorem tr_yuse {post : Int32 → SY → Prop} {th fm hd lf rt pr : Nat → Int32} {k q r h : Nat} (hk : k < 8) (hq : q < 5) (hr : r < 5) (hh : h < 5) (el : lf k = nI q) (er : rt k = nI r) (eh : hd k = nI h)
    (hp : ∀ g, (g = 0 ∨ g = 1) → (g = 0 → tr_st fm hd lf rt k pr = pr) → post g (th, fm, hd, lf, rt, tr_st fm hd lf rt k pr)) : wpY_use post (th, fm, hd, lf, rt, pr) (nI k) := by
  have ck : (nI k).toNatClampNeg = k := nI_clamp (by omega)
  have k8 : vp_in (nI k) 8 := vp_in_nI hk (by decide)
  have h5 : vp_in (hd (nI k).toNatClampNeg) 5 := by rw [ck, eh]; exact vp_in_nI hh (by decide)
  have hl := tr_yu17 hk hq hr hh el er eh hp 25 0 rfl
  have e0 : (pr h ||| tr_mk (fun c => tr_sy (fm k) (pr q) (pr r) (c / 5) (c % 5)) 0) = pr h := Int32.or_zero
  rw [e0] at hl
  exact ⟨k8, h5, nm_r (e' := pr h) (by rw [ck, eh, nI_clamp (by omega)]) ⟨26, hl⟩⟩
/-! work -/
theorem tr_yw62 {post : SY → Prop} {J25 J39 : Int32 → Int32 → (Nat → Int32) → (Nat → Int32) → (Nat → Int32) → (Nat → Int32) → (Nat → Int32) → (Nat → Int32) → Prop} {g c : Int32} {k : Nat} {th fm hd lf rt pr : Nat → Int32} (hg : g = 0 ∨ g = 1) (h : J39 g (nI (k + 1)) th fm hd lf rt pr) : wY_work_62 post J25 J39 g c (nI k) th fm hd lf rt pr := by
  rcases hg with e | e
  · subst e; exact br_t rfl (nm_r (nI_1 k) h)
  · subst e; exact br_f tr_n10 (nm_r (nI_1 k) h)
theorem tr_yw39 {post : SY → Prop} {J25 : Int32 → Int32 → (Nat → Int32) → (Nat → Int32) → (Nat → Int32) → (Nat → Int32) → (Nat → Int32) → (Nat → Int32) → Prop} {m : Int32} {c : Nat} {th fm hd lf rt R : Nat → Int32} (H : tr_H m hd) (Vl : tr_V lf) (Vr : tr_V rt) (ht : ∀ k, k < 8 → th k = if bt m k = true then 1 else 0)
    (hJ : ∀ g, (g = 0 ∨ g = 1) → (g = 0 → tr_rd m fm hd lf rt 8 R = R) → J25 g (nI (c + 1)) th fm hd lf rt (tr_rd m fm hd lf rt 8 R)) :
    ∀ d k g, k + d = 8 → (g = 0 ∨ g = 1) → (g = 0 → tr_rd m fm hd lf rt k R = R) → wY_work_39 post J25 (nI c) (d + 1) g (nI k) th fm hd lf rt (tr_rd m fm hd lf rt k R) := by
  intro d
  induction d with
  | zero =>
    intro k g hk hg hz
    have e : k = 8 := by omega
    subst e
    exact br_t (by decide) (nm_r (nI_1 c) (hJ g hg hz))
  | succ d ih =>
    intro k g hk hg hz
    have hk8 : k < 8 := by omega
    have ck : (nI k).toNatClampNeg = k := nI_clamp (by omega)
    have k8 : vp_in (nI k) 8 := vp_in_nI hk8 (by decide)
    have t := ht k hk8
    have ih' := ih (k + 1)
    rw [tr_rdS] at ih'
    refine br_f (nI_ge (b := 8) hk8 (by decide)) ⟨k8, ?_⟩
    by_cases hm : bt m k = true
    · rw [if_pos hm] at t ih'
      obtain ⟨h, h2, h4, eh⟩ := H k hk8 hm
      obtain ⟨l, hl, el⟩ := Vl k hk8
      obtain ⟨r, hr, er⟩ := Vr k hk8
      refine br_f (by rw [ck, t]; exact tr_n10) (tr_yuse hk8 hl hr (by omega) el er eh (fun g' hg' hz' => br_c (fun e => ?_) (fun e => ?_)))
      · exact tr_yw62 hg (ih' g (by omega) hg (fun z => (hz' e).trans (hz z)))
      · exact nm_r (nI_1 k) (ih' 1 (by omega) (Or.inr rfl) (fun z => absurd z (by decide)))
    · rw [if_neg hm] at t ih'
      exact br_t (by rw [ck, t]) (tr_yw62 hg (ih' g (by omega) hg hz))
theorem tr_yw25 {post : SY → Prop} {m : Int32} {th fm hd lf rt Q : Nat → Int32} (H : tr_H m hd) (Vl : tr_V lf) (Vr : tr_V rt) (ht : ∀ k, k < 8 → th k = if bt m k = true then 1 else 0) (hp : post (th, fm, hd, lf, rt, Q)) :
    ∀ d c g R, c + d = 76 → (g = 0 ∨ g = 1) → (g = 0 → tr_rd m fm hd lf rt 8 R = R) → tr_it (tr_rd m fm hd lf rt 8) d R = Q → wY_work_25 post (d + 1) g (nI c) th fm hd lf rt R := by
  intro d
  induction d with
  | zero =>
    intro c g R hc hg hz hQ
    have e : c = 76 := by omega
    subst e
    have e2 : R = Q := hQ
    subst e2
    exact br_t (by decide) hp
  | succ d ih =>
    intro c g R hc hg hz hQ
    refine br_f (nI_ge (b := 76) (by omega) (by decide)) ?_
    by_cases g0 : g = 0
    · have e2 : R = Q := (tr_itf (hz g0) (d + 1)).symm.trans hQ
      subst e2
      exact br_t g0 hp
    · exact br_f g0 ⟨9, tr_yw39 (R := R) H Vl Vr ht (fun g' hg' hz' => ih (c + 1) g' _ (by omega) hg' (fun z => congrArg (tr_rd m fm hd lf rt 8) (hz' z)) hQ) 8 0 0 rfl (Or.inl rfl) (fun _ => rfl)⟩
theorem tr_ywork {post : SY → Prop} {m : Int32} {th fm hd lf rt pr : Nat → Int32} (H : tr_H m hd) (Vl : tr_V lf) (Vr : tr_V rt) (ht : ∀ k, k < 8 → th k = if bt m k = true then 1 else 0) (hp : post (th, fm, hd, lf, rt, tr_D m fm hd lf rt pr)) : wpY_work post (th, fm, hd, lf, rt, pr) :=
  nm_e (nm_e (nm_e ⟨77, tr_yw25 H Vl Vr ht hp 76 0 1 (tr_z pr) rfl (Or.inr rfl) (fun z => absurd z (by decide)) rfl⟩))
/-! ones, is, to, transitive, give -/
theorem tr_yo4 {post : Int32 → Prop} {v : Int32} {th fm hd lf rt pr : Nat → Int32} (hp : post (nI (tr_sz v 25))) : ∀ d c, c + d = 25 → wY_ones_4 post v th fm hd lf rt pr (d + 1) (nI (tr_sz v c)) (nI c) := by
  intro d
  induction d with
  | zero =>
    intro c hc
    have e : c = 25 := by omega
    subst e
    exact br_t (by decide) hp
  | succ d ih =>
    intro c hc
    exact br_f (nI_ge (b := 25) (by omega) (by decide)) (nm_r (tr_szI v (by omega)) (nm_r (nI_1 c) (ih (c + 1) (by omega))))
theorem tr_yones {post : Int32 → Prop} {v : Int32} {th fm hd lf rt pr : Nat → Int32} (hp : post (nI (tr_sz v 25))) : wpY_ones post (th, fm, hd, lf, rt, pr) v := ⟨26, tr_yo4 hp 25 0 rfl⟩
theorem tr_yis {post : Int32 → Prop} {m x : Int32} {th fm hd lf rt pr : Nat → Int32} (ht : ∀ k, k < 8 → th k = if bt m k = true then 1 else 0) (h1 : tr_I m x → post 1) (h0 : ¬ tr_I m x → post 0) : wpY_is post (th, fm, hd, lf, rt, pr) x := by
  by_cases hF : tr_F 8 x
  · obtain ⟨k, hk, rfl⟩ := hF
    have ck : (nI k).toNatClampNeg = k := nI_clamp (by omega)
    have t := ht k hk
    refine br_f (nI_pos (by omega)) (br_f (nI_nlt (a := 7) (b := k) (by omega) (by decide)) ⟨vp_in_nI hk (by decide), ?_⟩)
    by_cases hm : bt m k = true
    · rw [if_pos hm] at t
      exact br_f (by rw [ck, t]; exact tr_n10) (h1 ⟨k, hk, rfl, hm⟩)
    · rw [if_neg hm] at t
      refine br_t (by rw [ck, t]) (h0 ?_)
      rintro ⟨j, hj, e, b⟩
      rw [nI_eq (by omega) (by omega)] at e
      subst e
      exact hm b
  · have n : ¬ tr_I m x := fun ⟨k, hk, e, _⟩ => hF ⟨k, hk, e⟩
    by_cases h : x < 0
    · exact br_t h (h0 n)
    · exact br_f h (br_t (tr_gt (n := 7) hF h) (h0 n))
theorem tr_yto {post : Int32 → SY → Prop} {th fm hd lf rt pr : Nat → Int32} {p y : Nat} (hp : p < 5) (hy : y < 5) (h : post (tr_mk (fun x => bt (pr p) (5 * x + y)) 5) (th, fm, hd, lf, rt, pr)) : ∀ d x, x + d = 5 → wY_to_9 post (nI p) (nI y) th fm hd lf rt pr (d + 1) (tr_mk (fun x => bt (pr p) (5 * x + y)) x) (nI x) := by
  intro d
  induction d with
  | zero =>
    intro x hx
    have e : x = 5 := by omega
    subst e
    exact br_t (by decide) h
  | succ d ih =>
    intro x hx
    have ih' := ih (x + 1) (by omega)
    rw [tr_mkS] at ih'
    refine br_f (nI_ge (b := 5) (by omega) (by decide)) (tr_y5t hp (br_f tr_n10 (tr_y5t hy (br_f tr_n10 (tr_yin hp (by omega) hy (fun b => ?_) (fun b => ?_))))))
    · rw [if_pos b] at ih'
      exact br_f tr_n10 (nm_e (nm_r (nI_1 x) ih'))
    · rw [if_neg b] at ih'
      exact br_t rfl (nm_r (nI_1 x) ih')
theorem tr_ytr0 {post : Int32 → SY → Prop} {th fm hd lf rt pr : Nat → Int32} {p : Int32} (n : Nat) {c : Int32} (h0 : post 0 (th, fm, hd, lf, rt, pr)) : wY_transitive_12 post p th fm hd lf rt pr (n + 1) 0 c := br_c (fun _ => ⟨rfl, h0⟩) (fun _ => br_t rfl ⟨rfl, h0⟩)
theorem tr_ytr {post : Int32 → SY → Prop} {th fm hd lf rt pr : Nat → Int32} {p : Nat} (hp : p < 5) (h1 : (∀ c, c < 125 → tr_tp (pr p) c) → post 1 (th, fm, hd, lf, rt, pr)) (h0 : ¬ (∀ c, c < 125 → tr_tp (pr p) c) → post 0 (th, fm, hd, lf, rt, pr)) :
    ∀ d c, c + d = 125 → (∀ i, i < c → tr_tp (pr p) i) → wY_transitive_12 post (nI p) th fm hd lf rt pr (d + 1) 1 (nI c) := by
  intro d
  induction d with
  | zero =>
    intro c hc hi
    have e : c = 125 := by omega
    subst e
    exact br_t (by decide) ⟨rfl, h1 hi⟩
  | succ d ih =>
    intro c hc hi
    have e25 : nI c / 25 = nI (c / 25) := pk_div (d := 25) (by omega) (by decide) (by decide)
    have e5 : nI c / 5 = nI (c / 5) := pk_div (d := 5) (by omega) (by decide) (by decide)
    have e55 : nI (c / 5) - nI (c / 5) / 5 * 5 = nI (c / 5 % 5) := pk_rem (d := 5) (by omega) (by decide) (by decide)
    have em : nI c - nI c / 5 * 5 = nI (c % 5) := pk_rem (d := 5) (by omega) (by decide) (by decide)
    have hx : c / 25 < 5 := by omega
    have hy : c / 5 % 5 < 5 := by omega
    have hz : c % 5 < 5 := by omega
    have go : tr_tp (pr p) c → wY_transitive_12 post (nI p) th fm hd lf rt pr (d + 1) 1 (nI (c + 1)) := fun t => ih (c + 1) (by omega) (lt_s hi t)
    refine br_f (nI_ge (b := 125) (by omega) (by decide)) (br_f tr_n10 ⟨by decide, nm_r e25 ⟨by decide, by decide, nm_r (e' := nI (c / 5 % 5)) (by rw [e5]; exact e55) ⟨by decide, nm_r em (tr_yin hp hx hy (fun a => ?_) (fun a => ?_))⟩⟩⟩)
    · refine br_f tr_n10 (tr_yin hp hy hz (fun b => ?_) (fun b => ?_))
      · refine br_f tr_n10 (tr_yin hp hx hz (fun w => ?_) (fun w => ?_))
        · exact br_f tr_n10 (nm_r (nI_1 c) (go (fun _ _ => w)))
        · exact br_t rfl (nm_r (nI_1 c) (tr_ytr0 d (h0 (fun z => w (z c (by omega) a b)))))
      · exact br_t rfl (nm_r (nI_1 c) (go (fun _ z => absurd z b)))
    · exact br_t rfl (nm_r (nI_1 c) (go (fun z _ => absurd z a)))
def tr_gv (b w : Int32) (l : Nat) : Int32 := if b = 0 then w &&& (((1 : Int32) <<< (nI l &&& 31)) ^^^ (-1)) else w ||| ((1 : Int32) <<< (nI l &&& 31))
theorem tr_yg9 {post : Int32 → SY → Prop} {th fm hd lf rt pr : Nat → Int32} {g x y : Nat} {b : Int32} (hg : g < 5) (hx : x < 5) (hy : y < 5) (hp : post 1 (th, fm, hd, lf, rt, upd pr g (tr_gv b (pr g) (5 * x + y)))) : wY_give_9 post (nI g) (nI x) (nI y) b th fm hd lf rt pr := by
  have cg : (nI g).toNatClampNeg = g := nI_clamp (by omega)
  have g5 : vp_in (nI g) 5 := vp_in_nI hg (by decide)
  unfold tr_gv at hp
  refine tr_y5t hx (br_f tr_n10 (tr_y5t hy (br_f tr_n10 (nm_r (e' := (1 : Int32) <<< (nI (5 * x + y) &&& 31)) (by rw [tr_5]) (br_c (fun c => ?_) (fun c => ?_))))))
  · rw [if_pos c] at hp
    exact ⟨g5, g5, nm_r (by rw [cg]) hp⟩
  · rw [if_neg c] at hp
    exact ⟨g5, g5, nm_r (by rw [cg]) hp⟩
theorem tr_ygive {post : Int32 → SY → Prop} {th fm hd lf rt pr : Nat → Int32} {g x y : Nat} {b : Int32} (hg : g < 2) (hx : x < 5) (hy : y < 5) (hp : post 1 (th, fm, hd, lf, rt, upd pr g (tr_gv b (pr g) (5 * x + y)))) : wpY_give post (th, fm, hd, lf, rt, pr) (nI g) (nI x) (nI y) b := by
  have h := tr_yg9 (by omega) hx hy hp
  rcases (by omega : g = 0 ∨ g = 1) with e | e
  · subst e; exact br_t rfl h
  · subst e; exact br_f (by decide) (br_t rfl h)
end
section
/-! the relation, and what the changes keep of it -/
def tr_R (m : Int32) (tl fm hd lf rt th pr : Nat → Int32) : Prop := tr_H m hd ∧ tr_V lf ∧ tr_V rt ∧ tr_G pr ∧ (∀ k, k < 8 → th k = if bt m k = true then 1 else 0) ∧ (∀ i, bt m i = true → i < 8) ∧ (∀ j, 4 < j → tl j = pr j)
def i_Rel (_ : Nat) (u : SX) (v : SY) : Prop := ∃ m tl fm hd lf rt th pr, u = (m, tr_D m fm hd lf rt pr, tl, fm, hd, lf, rt) ∧ v = (th, fm, hd, lf, rt, pr) ∧ tr_R m tl fm hd lf rt th pr
theorem tr_mkR {k : Nat} {m : Int32} {tb tl fm hd lf rt th pr : Nat → Int32} (h : tr_R m tl fm hd lf rt th pr) (e : tb = tr_D m fm hd lf rt pr) : i_Rel k (m, tb, tl, fm, hd, lf, rt) (th, fm, hd, lf, rt, pr) := ⟨m, tl, fm, hd, lf, rt, th, pr, by rw [e], rfl, h⟩
theorem tr_RD {k : Nat} {m : Int32} {tl fm hd lf rt th pr : Nat → Int32} (h : tr_R m tl fm hd lf rt th pr) : i_Rel k (m, tr_D m fm hd lf rt pr, tl, fm, hd, lf, rt) (th, fm, hd, lf, rt, tr_D m fm hd lf rt pr) :=
  tr_mkR ⟨h.1, h.2.1, h.2.2.1, tr_DG h.1 h.2.2.2.1, h.2.2.2.2.1, h.2.2.2.2.2.1, fun j hj => (h.2.2.2.2.2.2 j hj).trans (tr_Do h.1 j (Or.inr hj)).symm⟩ (tr_DD h.1).symm
theorem tr_wk {post : SY → Prop} {m : Int32} {tl fm hd lf rt th pr : Nat → Int32} (h : tr_R m tl fm hd lf rt th pr) (hp : post (th, fm, hd, lf, rt, tr_D m fm hd lf rt pr)) : wpY_work post (th, fm, hd, lf, rt, pr) := tr_ywork h.1 h.2.1 h.2.2.1 h.2.2.2.2.1 hp
/-! an empty object -/
theorem tr_rd0 (fm hd lf rt R : Nat → Int32) : ∀ k, tr_rd 0 fm hd lf rt k R = R := by
  intro k
  induction k with
  | zero => rfl
  | succ k ih => rw [tr_rdS, if_neg (tr_0 k), ih]
theorem tr_D0 (fm hd lf rt : Nat → Int32) : tr_D 0 fm hd lf rt (fun _ => 0) = (fun _ => 0) := by
  unfold tr_D
  rw [tr_itf (tr_rd0 fm hd lf rt _ 8)]
  funext j
  by_cases e : j < 2 ∨ 4 < j
  · rw [tr_zo e]
  · rw [tr_zi (by omega) (by omega)]
/-! one given pair -/
theorem tr_gvW {b w : Int32} {l : Nat} (hw : tr_W w) (hl : l < 25) : tr_W (tr_gv b w l) := by
  unfold tr_gv
  by_cases c : b = 0
  · rw [if_pos c]; exact tr_Wand hw
  · rw [if_neg c]
    refine tr_Wor hw (fun i z => ?_)
    rw [tr_one (by omega)] at z
    omega
theorem tr_Gu {pr : Nat → Int32} {g : Nat} {w : Int32} (hG : tr_G pr) (hw : tr_W w) : tr_G (upd pr g w) := by
  intro j hj
  by_cases e : j = g
  · rw [e, pk_us]; exact hw
  · rw [pk_un e]; exact hG j hj
theorem tr_Rg {m : Int32} {tl fm hd lf rt th pr : Nat → Int32} (h : tr_R m tl fm hd lf rt th pr) {g : Nat} {w : Int32} (hg : g < 2) (hw : tr_W w) : tr_R m tl fm hd lf rt th (upd pr g w) :=
  ⟨h.1, h.2.1, h.2.2.1, tr_Gu h.2.2.2.1 hw, h.2.2.2.2.1, h.2.2.2.2.2.1, fun j hj => by rw [pk_un (by omega)]; exact h.2.2.2.2.2.2 j hj⟩
theorem tr_uD {m : Int32} {fm hd lf rt pr : Nat → Int32} (H : tr_H m hd) (g : Nat) (w : Int32) : ∀ j, j < 2 ∨ 4 < j → upd (tr_D m fm hd lf rt pr) g w j = upd pr g w j := by
  intro j hj
  by_cases e : j = g
  · rw [e, pk_us, pk_us]
  · rw [pk_un e, pk_un e]; exact tr_Do H j hj
theorem tr_ygf {post : Int32 → SY → Prop} {th fm hd lf rt pr : Nat → Int32} {g : Nat} {x y b : Int32} (hg : g < 2) (h : ¬ tr_F 5 x ∨ ¬ tr_F 5 y) (hp : post 0 (th, fm, hd, lf, rt, pr)) : wpY_give post (th, fm, hd, lf, rt, pr) (nI g) x y b := by
  have h9 : wY_give_9 post (nI g) x y b th fm hd lf rt pr := by
    by_cases hx : tr_F 5 x
    · have hy : ¬ tr_F 5 y := h.elim (fun z => absurd hx z) id
      obtain ⟨x', hx', rfl⟩ := hx
      exact tr_y5t hx' (br_f tr_n10 (tr_y5f hy (br_t rfl hp)))
    · exact tr_y5f hx (br_t rfl hp)
  rcases (by omega : g = 0 ∨ g = 1) with e | e
  · subst e; exact br_t rfl h9
  · subst e; exact br_f (by decide) (br_t rfl h9)
theorem tr_ygn {post : Int32 → SY → Prop} {th fm hd lf rt pr : Nat → Int32} {g x y b : Int32} (hg : ¬ tr_F 2 g) (hp : post 0 (th, fm, hd, lf, rt, pr)) : wpY_give post (th, fm, hd, lf, rt, pr) g x y b :=
  br_f (fun e => hg ⟨0, by decide, e⟩) (br_f (fun e => hg ⟨1, by decide, e⟩) hp)
/-! rules: a mask with one more, one less -/
theorem tr_mi {m : Int32} {k : Nat} (hk : k < 8) (j : Nat) : bt (m ||| ((1 : Int32) <<< (nI k &&& 31))) j = true ↔ bt m j = true ∨ j = k := by rw [tr_or, tr_one (by omega)]
theorem tr_mo {m : Int32} {k : Nat} (hk : k < 8) (j : Nat) : bt (m &&& (((1 : Int32) <<< (nI k &&& 31)) ^^^ (-1))) j = true ↔ bt m j = true ∧ j ≠ k := by
  rw [tr_and]
  constructor
  · rintro ⟨a, b⟩
    refine ⟨a, fun e => ?_⟩
    exact (tr_not _ (tr_lt32 a)).mp b ((tr_one (by omega) j).mpr e)
  · rintro ⟨a, b⟩
    exact ⟨a, (tr_not _ (tr_lt32 a)).mpr (fun z => b ((tr_one (by omega) j).mp z))⟩
theorem tr_nb0 : vp_nar .boolean 0 = 0 := rfl
theorem tr_nb1 : vp_nar .boolean 1 = 1 := rfl
theorem tr_Ho {m : Int32} {hd : Nat → Int32} {k : Nat} (hk : k < 8) (H : tr_H m hd) : tr_H (m &&& (((1 : Int32) <<< (nI k &&& 31)) ^^^ (-1))) hd := fun j hj b => H j hj ((tr_mo hk j).mp b).1
theorem tr_to0 {m : Int32} {th : Nat → Int32} {k : Nat} (hk : k < 8) (ht : ∀ j, j < 8 → th j = if bt m j = true then 1 else 0) : ∀ j, j < 8 → upd th k 0 j = if bt (m &&& (((1 : Int32) <<< (nI k &&& 31)) ^^^ (-1))) j = true then 1 else 0 := by
  intro j hj
  by_cases e : j = k
  · rw [e, pk_us, if_neg (fun z => ((tr_mo hk k).mp z).2 rfl)]
  · rw [pk_un e, ht j hj]
    by_cases b : bt m j = true
    · rw [if_pos b, if_pos ((tr_mo hk j).mpr ⟨b, e⟩)]
    · rw [if_neg b, if_neg (fun z => b ((tr_mo hk j).mp z).1)]
theorem tr_Ro {m : Int32} {tl fm hd lf rt th pr : Nat → Int32} (h : tr_R m tl fm hd lf rt th pr) {k : Nat} (hk : k < 8) : tr_R (m &&& (((1 : Int32) <<< (nI k &&& 31)) ^^^ (-1))) tl fm hd lf rt (upd th k 0) pr :=
  ⟨tr_Ho hk h.1, h.2.1, h.2.2.1, h.2.2.2.1, tr_to0 hk h.2.2.2.2.1, fun i z => h.2.2.2.2.2.1 i ((tr_mo hk i).mp z).1, h.2.2.2.2.2.2⟩
theorem tr_Vu {lf : Nat → Int32} {k q : Nat} (V : tr_V lf) (hq : q < 5) : tr_V (upd lf k (nI q)) := by
  intro j hj
  by_cases e : j = k
  · exact ⟨q, hq, by rw [e, pk_us]⟩
  · rw [pk_un e]; exact V j hj
theorem tr_Ri {m : Int32} {tl fm hd lf rt th pr : Nat → Int32} (h : tr_R m tl fm hd lf rt th pr) {k c q r : Nat} (f : Int32) (hk : k < 8) (h2 : 2 ≤ c) (h4 : c ≤ 4) (hq : q < 5) (hr : r < 5) :
    tr_R (m ||| ((1 : Int32) <<< (nI k &&& 31))) tl (upd fm k f) (upd hd k (nI c)) (upd lf k (nI q)) (upd rt k (nI r)) (upd th k 1) pr := by
  refine ⟨?_, tr_Vu h.2.1 hq, tr_Vu h.2.2.1 hr, h.2.2.2.1, ?_, ?_, h.2.2.2.2.2.2⟩
  · intro j hj b
    by_cases e : j = k
    · exact ⟨c, h2, h4, by rw [e, pk_us]⟩
    · rw [pk_un e]
      exact h.1 j hj (((tr_mi hk j).mp b).elim id (fun z => absurd z e))
  · intro j hj
    by_cases e : j = k
    · rw [e, pk_us, if_pos ((tr_mi hk k).mpr (Or.inr rfl))]
    · rw [pk_un e, h.2.2.2.2.1 j hj]
      by_cases b : bt m j = true
      · rw [if_pos b, if_pos ((tr_mi hk j).mpr (Or.inl b))]
      · rw [if_neg b, if_neg (fun z => ((tr_mi hk j).mp z).elim b e)]
  · intro i z
    exact ((tr_mi hk i).mp z).elim (h.2.2.2.2.2.1 i) (fun e => by omega)
theorem tr_yrl {post : Int32 → SY → Prop} {m v1 v2 v3 : Int32} {th fm hd lf rt pr : Nat → Int32} {k : Nat} (hk : k ≤ 8) (ht : ∀ j, j < 8 → th j = if bt m j = true then 1 else 0) (hj : ∀ j, j < k → bt m j = true) (hn : k < 8 → ¬ bt m k = true)
    (h8 : k = 8 → post (-2) (th, fm, hd, lf, rt, pr)) (hs : k < 8 → post (nI k) (upd th k 1, upd fm k v1, upd hd k v2, upd lf k (v3 &&& 7), upd rt k (v3 >>> ((3 : Int32) &&& 31)), pr)) :
    ∀ d j, j + d = k → wY_rule_45 post v1 v2 v3 th fm hd lf rt pr (d + 1) (nI j) := by
  intro d
  induction d with
  | zero =>
    intro j e
    have e' : j = k := by omega
    subst e'
    by_cases c : j = 8
    · subst c
      exact br_t (by decide) (h8 rfl)
    · have j8 : j < 8 := by omega
      have cj : (nI j).toNatClampNeg = j := nI_clamp (by omega)
      have i8 : vp_in (nI j) 8 := vp_in_nI j8 (by decide)
      have t := ht j j8
      rw [if_neg (hn j8)] at t
      exact br_f (nI_ge (b := 8) j8 (by decide)) ⟨i8, br_t (by rw [cj, t]) ⟨i8, nm_r (e' := upd th j 1) (by rw [cj, tr_nb1]) ⟨i8, nm_r (e' := upd fm j v1) (by rw [cj]) ⟨i8, nm_r (e' := upd hd j v2) (by rw [cj]) ⟨i8, nm_r (e' := upd lf j (v3 &&& 7)) (by rw [cj]) ⟨i8, nm_r (e' := upd rt j (v3 >>> ((3 : Int32) &&& 31))) (by rw [cj]) (hs j8)⟩⟩⟩⟩⟩⟩
  | succ d ih =>
    intro j e
    have j8 : j < 8 := by omega
    have cj : (nI j).toNatClampNeg = j := nI_clamp (by omega)
    have t := ht j j8
    rw [if_pos (hj j (by omega))] at t
    exact br_f (nI_ge (b := 8) j8 (by decide)) ⟨vp_in_nI j8 (by decide), br_f (by rw [cj, t]; exact tr_n10) (nm_r (nI_1 j) (ih (j + 1) (by omega)))⟩
/-! rules as one number -/
theorem tr_yrs {post : Int32 → Prop} {m : Int32} {th fm hd lf rt pr : Nat → Int32} (ht : ∀ j, j < 8 → th j = if bt m j = true then 1 else 0) (hp : post (tr_mk (bt m) 8)) : ∀ d j, j + d = 8 → wY_rules_4 post th fm hd lf rt pr (d + 1) (tr_mk (bt m) j) (nI j) := by
  intro d
  induction d with
  | zero =>
    intro j e
    have e' : j = 8 := by omega
    subst e'
    exact br_t (by decide) hp
  | succ d ih =>
    intro j e
    have j8 : j < 8 := by omega
    have cj : (nI j).toNatClampNeg = j := nI_clamp (by omega)
    have t := ht j j8
    have ih' := ih (j + 1) (by omega)
    rw [tr_mkS] at ih'
    refine br_f (nI_ge (b := 8) j8 (by decide)) ⟨vp_in_nI j8 (by decide), ?_⟩
    by_cases b : bt m j = true
    · rw [if_pos b] at t ih'
      exact br_f (by rw [cj, t]; exact tr_n10) (nm_e (nm_r (nI_1 j) ih'))
    · rw [if_neg b] at t ih'
      exact br_t (by rw [cj, t]) (nm_r (nI_1 j) ih')
theorem tr_mk8 {m : Int32} (h : ∀ i, bt m i = true → i < 8) : tr_mk (bt m) 8 = m := tr_ext fun i hi => by
  rw [tr_mkb _ _ (by decide)]
  exact ⟨fun z => z.2, fun z => ⟨h i z, z⟩⟩
/-! trial: the given relations copied -/
theorem tr_cp {m : Int32} {tl fm hd lf rt th pr : Nat → Int32} (h : tr_R m tl fm hd lf rt th pr) : ∀ j, j < 2 ∨ 4 < j → upd (upd tl 0 (tr_D m fm hd lf rt pr 0)) 1 (tr_D m fm hd lf rt pr 1) j = pr j := by
  intro j hj
  by_cases e1 : j = 1
  · rw [e1, pk_us]; exact tr_Do h.1 1 (Or.inl (by decide))
  · rw [pk_un e1]
    by_cases e0 : j = 0
    · rw [e0, pk_us]; exact tr_Do h.1 0 (Or.inl (by decide))
    · rw [pk_un e0]; exact h.2.2.2.2.2.2 j (by omega)
end
section
/-! the owed statements -/
theorem i_up {k : Nat} {u : SX} {v : SY} (h : i_Rel k u v) : i_Rel (k + 5) u v := h
theorem i_vc0 : wpX_init (fun u => wpY_init (fun v => i_Rel 0 u v)) :=
  tr_mkR (k := 0) ⟨fun k _ z => absurd z (tr_0 k), fun _ _ => ⟨0, by decide, nI_0.symm⟩, fun _ _ => ⟨0, by decide, nI_0.symm⟩, fun _ _ => tr_W0, fun k _ => (if_neg (tr_0 k)).symm, fun i z => absurd z (tr_0 i), fun _ _ => rfl⟩ (tr_D0 _ _ _ _).symm
theorem i_vc_give {k : Nat} {u : SX} {v : SY} (I : i_Rel k u v) (hk : k + 5 ≤ 2560) (v1 : Int32) (v2 : Int32) (v3 : Int32) (v4 : Int32) : wpX_give (fun r u' => wpY_give (fun r' v' => r' = r ∧ i_Rel (k + 5) u' v') v v1 v2 v3 (lw_bz v4)) u v1 v2 v3 (lw_bz v4) := by
  obtain ⟨m, tl, fm, hd, lf, rt, th, pr, rfl, rfl, h⟩ := I
  unfold wpX_give
  dsimp only
  have hR : i_Rel (k + 5) (m, tr_D m fm hd lf rt pr, tl, fm, hd, lf, rt) (th, fm, hd, lf, rt, pr) := tr_mkR h rfl
  generalize lw_bz v4 = b
  by_cases hg : tr_F 2 v1
  · obtain ⟨g, hg, rfl⟩ := hg
    by_cases hx : tr_F 5 v2
    · obtain ⟨x, hx, rfl⟩ := hx
      by_cases hy : tr_F 5 v3
      · obtain ⟨y, hy, rfl⟩ := hy
        have cg : (nI g).toNatClampNeg = g := nI_clamp (by omega)
        have g5 : vp_in (nI g) 5 := vp_in_nI (by omega) (by decide)
        have hw : tr_W (tr_gv b (pr g) (5 * x + y)) := tr_gvW (h.2.2.2.1 g (by omega)) (by omega)
        have hn : i_Rel (k + 5) (m, tr_D m fm hd lf rt (upd (tr_D m fm hd lf rt pr) g (tr_gv b (pr g) (5 * x + y))), tl, fm, hd, lf, rt) (th, fm, hd, lf, rt, upd pr g (tr_gv b (pr g) (5 * x + y))) := tr_mkR (tr_Rg h hg hw) (tr_Dx (tr_uD h.1 g _))
        have hd5 : wpX_derive__table (fun u' => wpY_give (fun r' v' => r' = 1 ∧ i_Rel (k + 5) u' v') (th, fm, hd, lf, rt, pr) (nI g) (nI x) (nI y) b) (m, upd (tr_D m fm hd lf rt pr) g (tr_gv b (pr g) (5 * x + y)), tl, fm, hd, lf, rt) m :=
          tr_xder_table h.1 h.2.1 h.2.2.1 (tr_zG (tr_Gu (tr_DG h.1 h.2.2.2.1) hw)) (tr_ygive hg hx hy ⟨rfl, hn⟩)
        have eg := tr_Do (fm := fm) (lf := lf) (rt := rt) (R := pr) h.1 g (Or.inl hg)
        refine tr_xgi_t hg (br_f tr_n10 (tr_xth_t hx (br_f tr_n10 (tr_xth_t hy (br_f tr_n10 (tr_xpb (br_c (fun c => ⟨g5, g5, nm_r (e' := upd (tr_D m fm hd lf rt pr) g (tr_gv b (pr g) (5 * x + y))) ?_ hd5⟩) (fun c => ⟨g5, g5, nm_r (e' := upd (tr_D m fm hd lf rt pr) g (tr_gv b (pr g) (5 * x + y))) ?_ hd5⟩))))))))
        · rw [cg, eg]; unfold tr_gv; rw [if_pos c]
        · rw [cg, eg]; unfold tr_gv; rw [if_neg c]
      · exact tr_xgi_t hg (br_f tr_n10 (tr_xth_t hx (br_f tr_n10 (tr_xth_f hy (br_t rfl (tr_ygf hg (Or.inr hy) ⟨rfl, hR⟩))))))
    · exact tr_xgi_t hg (br_f tr_n10 (tr_xth_f hx (br_t rfl (tr_ygf hg (Or.inl hx) ⟨rfl, hR⟩))))
  · exact tr_xgi_f hg (br_t rfl (tr_ygn hg ⟨rfl, hR⟩))
theorem i_vc_rule {k : Nat} {u : SX} {v : SY} (I : i_Rel k u v) (hk : k + 5 ≤ 2560) (v1 : Int32) (v2 : Int32) (v3 : Int32) : wpX_rule (fun r u' => wpY_rule (fun r' v' => r' = r ∧ i_Rel (k + 5) u' v') v v1 v2 v3) u v1 v2 v3 := by
  obtain ⟨m, tl, fm, hd, lf, rt, th, pr, rfl, rfl, h⟩ := I
  have hR : i_Rel (k + 5) (m, tr_D m fm hd lf rt pr, tl, fm, hd, lf, rt) (th, fm, hd, lf, rt, pr) := tr_mkR h rfl
  by_cases f0 : v1 < 0
  · exact br_t f0 (br_t f0 ⟨rfl, hR⟩)
  · refine br_f f0 ?_
    by_cases hf : tr_F 5 v1
    · obtain ⟨f, hf, rfl⟩ := hf
      refine br_f (nI_ge (b := 5) hf (by decide)) ?_
      by_cases h2 : v2 < 2
      · exact br_t h2 (br_t rfl (br_f f0 (br_f (tr_n4 hf) (br_t h2 ⟨rfl, hR⟩))))
      · by_cases hc : tr_F 5 v2
        · obtain ⟨c, hc, rfl⟩ := hc
          have c2 : 2 ≤ c := by
            by_cases z : 2 ≤ c
            · exact z
            · exact absurd (nI_lt (b := 2) (by omega) (by decide)) h2
          refine br_f h2 (br_f (nI_ge (b := 5) hc (by decide)) (br_f tr_n10 ?_))
          by_cases hq : tr_F 5 (v3 &&& 7)
          · by_cases hr : tr_F 5 (v3 >>> ((3 : Int32) &&& 31))
            · obtain ⟨q, hq, eq⟩ := hq
              obtain ⟨r, hr, er⟩ := hr
              unfold wpX_isRelationPair
              rw [eq, er]
              refine tr_xre_t hq (br_f tr_n10 (tr_xre_t hr (br_f tr_n10 (br_f tr_n10 (tr_xlf fun j hj8 hj hn => ?_)))))
              have yp : ∀ (post : Int32 → SY → Prop), (j = 8 → post (-2) (th, fm, hd, lf, rt, pr)) → (j < 8 → post (nI j) (upd th j 1, upd fm j (nI f), upd hd j (nI c), upd lf j (v3 &&& 7), upd rt j (v3 >>> ((3 : Int32) &&& 31)), pr)) → wpY_rule post (th, fm, hd, lf, rt, pr) (nI f) (nI c) v3 := by
                intro post a b
                unfold wpY_rule
                dsimp only
                refine br_f f0 (br_f (tr_n4 hf) (br_f h2 (br_f (tr_n4 hc) ?_)))
                have l := tr_yrl (v1 := nI f) (v2 := nI c) (v3 := v3) hj8 h.2.2.2.2.1 hj hn a b j 0 (by omega)
                rw [eq, er]
                exact tr_y5t hq (br_f tr_n10 (tr_y5t hr (br_f tr_n10 ⟨j + 1, l⟩)))
              by_cases e8 : j = 8
              · subst e8
                exact br_t rfl (yp _ (fun _ => ⟨rfl, hR⟩) (fun z => absurd z (by decide)))
              · have j8 : j < 8 := by omega
                have cj : (nI j).toNatClampNeg = j := nI_clamp (by omega)
                have i8 : vp_in (nI j) 8 := vp_in_nI j8 (by decide)
                have hr' := tr_Ri h (nI f) j8 c2 (by omega) hq hr
                have hn' : i_Rel (k + 5) (m ||| ((1 : Int32) <<< (nI j &&& 31)), tr_D (m ||| ((1 : Int32) <<< (nI j &&& 31))) (upd fm j (nI f)) (upd hd j (nI c)) (upd lf j (nI q)) (upd rt j (nI r)) (tr_D m fm hd lf rt pr), tl, upd fm j (nI f), upd hd j (nI c), upd lf j (nI q), upd rt j (nI r)) (upd th j 1, upd fm j (nI f), upd hd j (nI c), upd lf j (nI q), upd rt j (nI r), pr) := tr_mkR hr' (tr_Dx (tr_Do h.1))
                rw [eq, er] at yp
                refine br_f (fun z => e8 ((nI_eq (by omega) (by decide)).mp z)) ⟨i8, nm_r (e' := upd fm j (nI f)) (by rw [cj]) ⟨i8, nm_r (e' := upd hd j (nI c)) (by rw [cj]) ⟨i8, nm_r (e' := upd lf j (nI q)) (by rw [cj]) ⟨i8, nm_r (e' := upd rt j (nI r)) (by rw [cj]) (nm_e ?_)⟩⟩⟩⟩
                exact tr_xder_table hr'.1 hr'.2.1 hr'.2.2.1 (tr_zG (tr_DG h.1 h.2.2.2.1)) (yp _ (fun z => absurd z e8) (fun _ => ⟨rfl, hn'⟩))
            · obtain ⟨q, hq, eq⟩ := hq
              have y : wpY_rule (fun r' v' => r' = -1 ∧ i_Rel (k + 5) (m, tr_D m fm hd lf rt pr, tl, fm, hd, lf, rt) v') (th, fm, hd, lf, rt, pr) (nI f) (nI c) v3 := by
                unfold wpY_rule
                dsimp only
                rw [eq]
                exact br_f f0 (br_f (tr_n4 hf) (br_f h2 (br_f (tr_n4 hc) (tr_y5t hq (br_f tr_n10 (tr_y5f hr (br_t rfl ⟨rfl, hR⟩)))))))
              unfold wpX_isRelationPair
              rw [eq]
              exact tr_xre_t hq (br_f tr_n10 (tr_xre_f hr (br_t rfl (br_t rfl y))))
          · unfold wpX_isRelationPair
            exact tr_xre_f hq (br_t rfl (br_t rfl (br_f f0 (br_f (tr_n4 hf) (br_f h2 (br_f (tr_n4 hc) (tr_y5f hq (br_t rfl ⟨rfl, hR⟩))))))))
        · have c0 : ¬ v2 < 0 := fun z => h2 (Int32.lt_trans z (by decide))
          exact br_f h2 (br_t (tr_ge hc c0 (by decide)) (br_t rfl (br_f f0 (br_f (tr_n4 hf) (br_f h2 (br_t (tr_gt (n := 4) hc c0) ⟨rfl, hR⟩))))))
    · exact br_t (tr_ge hf f0 (by decide)) (br_f f0 (br_t (tr_gt (n := 4) hf f0) ⟨rfl, hR⟩))
theorem i_vc_drop {k : Nat} {u : SX} {v : SY} (I : i_Rel k u v) (hk : k + 5 ≤ 2560) (v1 : Int32) : wpX_drop (fun r u' => wpY_drop (fun r' v' => r' = r ∧ i_Rel (k + 5) u' v') v v1) u v1 := by
  obtain ⟨m, tl, fm, hd, lf, rt, th, pr, rfl, rfl, h⟩ := I
  unfold wpX_drop wpY_drop
  dsimp only
  have hR : i_Rel (k + 5) (m, tr_D m fm hd lf rt pr, tl, fm, hd, lf, rt) (th, fm, hd, lf, rt, pr) := tr_mkR h rfl
  refine tr_xis (fun i => br_f tr_n10 ?_) (fun i => br_t rfl ?_)
  · obtain ⟨j, hj, rfl, b⟩ := id i
    have cj : (nI j).toNatClampNeg = j := nI_clamp (by omega)
    have hr' := tr_Ro h hj
    refine nm_e (tr_xder_table hr'.1 h.2.1 h.2.2.1 (tr_zG (tr_DG h.1 h.2.2.2.1)) ?_)
    refine tr_yis h.2.2.2.2.1 (fun _ => br_f tr_n10 ⟨vp_in_nI hj (by decide), nm_r (e' := upd th j 0) (by rw [cj, tr_nb0]) ⟨rfl, tr_mkR hr' (tr_Dx (tr_Do h.1))⟩⟩) (fun n => absurd i n)
  · exact tr_yis h.2.2.2.2.1 (fun y => absurd y i) (fun _ => br_t rfl ⟨rfl, hR⟩)
theorem i_vc_rules {k : Nat} {u : SX} {v : SY} (I : i_Rel k u v) (hk : k + 5 ≤ 2560) : wpX_rules (fun r => wpY_rules (fun r' => r' = r ∧ i_Rel (k + 5) u v) v) u := by
  obtain ⟨m, tl, fm, hd, lf, rt, th, pr, rfl, rfl, h⟩ := I
  exact ⟨9, tr_yrs h.2.2.2.2.1 ⟨tr_mk8 h.2.2.2.2.2.1, tr_mkR h rfl⟩ 8 0 rfl⟩
theorem i_vc_holds {k : Nat} {u : SX} {v : SY} (I : i_Rel k u v) (hk : k + 5 ≤ 2560) (v1 : Int32) (v2 : Int32) (v3 : Int32) : wpX_holds (fun r => wpY_holds (fun r' v' => r' = r ∧ i_Rel (k + 5) u v') v v1 v2 v3) u v1 v2 v3 := by
  obtain ⟨m, tl, fm, hd, lf, rt, th, pr, rfl, rfl, h⟩ := I
  unfold wpX_holds wpY_holds
  dsimp only
  have hR := tr_RD (k := k + 5) h
  by_cases hp : tr_F 5 v1
  · obtain ⟨p, hp, rfl⟩ := hp
    refine tr_xre_t hp (br_f tr_n10 ?_)
    by_cases hx : tr_F 5 v2
    · obtain ⟨x, hx, rfl⟩ := hx
      refine tr_xth_t hx (br_f tr_n10 ?_)
      by_cases hy : tr_F 5 v3
      · obtain ⟨y, hy, rfl⟩ := hy
        have cp : (nI p).toNatClampNeg = p := nI_clamp (by omega)
        refine tr_xth_t hy (br_f tr_n10 ⟨vp_in_nI hp (by decide), tr_xpb (br_c (fun c => tr_wk h ?_) (fun c => tr_wk h ?_))⟩)
        · rw [cp, tr_tst (by omega)] at c
          exact tr_y5t hp (br_f tr_n10 (tr_y5t hx (br_f tr_n10 (tr_y5t hy (br_f tr_n10 (tr_yin hp hx hy (fun b => absurd b c) (fun _ => br_t rfl ⟨rfl, hR⟩)))))))
        · rw [cp, tr_tst (by omega)] at c
          exact tr_y5t hp (br_f tr_n10 (tr_y5t hx (br_f tr_n10 (tr_y5t hy (br_f tr_n10 (tr_yin hp hx hy (fun _ => br_f tr_n10 ⟨rfl, hR⟩) (fun b => absurd b c)))))))
      · exact tr_xth_f hy (br_t rfl (tr_wk h (tr_y5t hp (br_f tr_n10 (tr_y5t hx (br_f tr_n10 (tr_y5f hy (br_t rfl ⟨rfl, hR⟩))))))))
    · exact tr_xth_f hx (br_t rfl (tr_wk h (tr_y5t hp (br_f tr_n10 (tr_y5f hx (br_t rfl ⟨rfl, hR⟩))))))
  · exact tr_xre_f hp (br_t rfl (tr_wk h (tr_y5f hp (br_t rfl ⟨rfl, hR⟩))))
theorem i_vc_from {k : Nat} {u : SX} {v : SY} (I : i_Rel k u v) (hk : k + 5 ≤ 2560) (v1 : Int32) (v2 : Int32) : wpX_from (fun r => wpY_from (fun r' v' => r' = r ∧ i_Rel (k + 5) u v') v v1 v2) u v1 v2 := by
  obtain ⟨m, tl, fm, hd, lf, rt, th, pr, rfl, rfl, h⟩ := I
  unfold wpX_from wpY_from
  dsimp only
  have hR := tr_RD (k := k + 5) h
  by_cases hp : tr_F 5 v1
  · obtain ⟨p, hp, rfl⟩ := hp
    have p5 : vp_in (nI p) 5 := vp_in_nI hp (by decide)
    refine tr_xre_t hp (br_f tr_n10 ?_)
    by_cases hx : tr_F 5 v2
    · obtain ⟨x, hx, rfl⟩ := hx
      refine tr_xth_t hx (br_f tr_n10 ⟨p5, tr_wk h ?_⟩)
      exact tr_y5t hp (br_f tr_n10 (tr_y5t hx (br_f tr_n10 ⟨p5, rfl, hR⟩)))
    · exact tr_xth_f hx (br_t rfl (tr_wk h (tr_y5t hp (br_f tr_n10 (tr_y5f hx (br_t rfl ⟨rfl, hR⟩))))))
  · exact tr_xre_f hp (br_t rfl (tr_wk h (tr_y5f hp (br_t rfl ⟨rfl, hR⟩))))
theorem i_vc_to {k : Nat} {u : SX} {v : SY} (I : i_Rel k u v) (hk : k + 5 ≤ 2560) (v1 : Int32) (v2 : Int32) : wpX_to (fun r => wpY_to (fun r' v' => r' = r ∧ i_Rel (k + 5) u v') v v1 v2) u v1 v2 := by
  obtain ⟨m, tl, fm, hd, lf, rt, th, pr, rfl, rfl, h⟩ := I
  unfold wpX_to wpY_to
  dsimp only
  have hR := tr_RD (k := k + 5) h
  by_cases hp : tr_F 5 v1
  · obtain ⟨p, hp, rfl⟩ := hp
    have p5 : vp_in (nI p) 5 := vp_in_nI hp (by decide)
    have cp : (nI p).toNatClampNeg = p := nI_clamp (by omega)
    refine tr_xre_t hp (br_f tr_n10 ?_)
    by_cases hy : tr_F 5 v2
    · obtain ⟨y, hy, rfl⟩ := hy
      refine tr_xth_t hy (br_f tr_n10 ⟨p5, tr_xturn fun t ht => tr_xrow (tr_wk h ?_)⟩)
      rw [cp] at ht
      have e := tr_Te (tr_D m fm hd lf rt pr p) (f := 1) (by decide) rfl ht
      refine ⟨6, tr_yto hp hy ⟨?_, hR⟩ 5 0 rfl⟩
      rw [e, tr_to _ hy]
    · exact tr_xth_f hy (br_t rfl (tr_wk h ⟨1, br_f (by decide) (tr_y5t hp (br_f tr_n10 (tr_y5f hy (br_t rfl ⟨rfl, hR⟩))))⟩))
  · exact tr_xre_f hp (br_t rfl (tr_wk h ⟨1, br_f (by decide) (tr_y5f hp (br_t rfl ⟨rfl, hR⟩))⟩))
theorem i_vc_count {k : Nat} {u : SX} {v : SY} (I : i_Rel k u v) (hk : k + 5 ≤ 2560) (v1 : Int32) : wpX_count (fun r => wpY_count (fun r' v' => r' = r ∧ i_Rel (k + 5) u v') v v1) u v1 := by
  obtain ⟨m, tl, fm, hd, lf, rt, th, pr, rfl, rfl, h⟩ := I
  unfold wpX_count wpY_count
  dsimp only
  have hR := tr_RD (k := k + 5) h
  by_cases hp : tr_F 5 v1
  · obtain ⟨p, hp, rfl⟩ := hp
    have p5 : vp_in (nI p) 5 := vp_in_nI hp (by decide)
    exact tr_xre_t hp (br_f tr_n10 ⟨p5, tr_xsize (tr_wk h (tr_y5t hp (br_f tr_n10 ⟨p5, tr_yones ⟨rfl, hR⟩⟩)))⟩)
  · exact tr_xre_f hp (br_t rfl (tr_wk h (tr_y5f hp (br_t rfl ⟨rfl, hR⟩))))
theorem i_vc_within {k : Nat} {u : SX} {v : SY} (I : i_Rel k u v) (hk : k + 5 ≤ 2560) (v1 : Int32) (v2 : Int32) : wpX_within (fun r => wpY_within (fun r' v' => r' = r ∧ i_Rel (k + 5) u v') v v1 v2) u v1 v2 := by
  obtain ⟨m, tl, fm, hd, lf, rt, th, pr, rfl, rfl, h⟩ := I
  unfold wpX_within wpY_within
  dsimp only
  have hR := tr_RD (k := k + 5) h
  by_cases hp : tr_F 5 v1
  · obtain ⟨p, hp, rfl⟩ := hp
    have p5 : vp_in (nI p) 5 := vp_in_nI hp (by decide)
    refine tr_xre_t hp (br_f tr_n10 ?_)
    by_cases hq : tr_F 5 v2
    · obtain ⟨q, hq, rfl⟩ := hq
      have q5 : vp_in (nI q) 5 := vp_in_nI hq (by decide)
      refine tr_xre_t hq (br_f tr_n10 ⟨p5, q5, br_c (fun c => ⟨rfl, tr_wk h ?_⟩) (fun c => ⟨rfl, tr_wk h ?_⟩)⟩)
      · exact tr_y5t hp (br_f tr_n10 (tr_y5t hq (br_f tr_n10 ⟨p5, q5, br_t c ⟨rfl, hR⟩⟩)))
      · exact tr_y5t hp (br_f tr_n10 (tr_y5t hq (br_f tr_n10 ⟨p5, q5, br_f c ⟨rfl, hR⟩⟩)))
    · exact tr_xre_f hq (br_t rfl (tr_wk h (tr_y5t hp (br_f tr_n10 (tr_y5f hq (br_t rfl ⟨rfl, hR⟩))))))
  · exact tr_xre_f hp (br_t rfl (tr_wk h (tr_y5f hp (br_t rfl ⟨rfl, hR⟩))))
theorem i_vc_transitive {k : Nat} {u : SX} {v : SY} (I : i_Rel k u v) (hk : k + 5 ≤ 2560) (v1 : Int32) : wpX_transitive (fun r => wpY_transitive (fun r' v' => r' = r ∧ i_Rel (k + 5) u v') v v1) u v1 := by
  obtain ⟨m, tl, fm, hd, lf, rt, th, pr, rfl, rfl, h⟩ := I
  unfold wpX_transitive wpY_transitive
  dsimp only
  have hR := tr_RD (k := k + 5) h
  by_cases hp : tr_F 5 v1
  · obtain ⟨p, hp, rfl⟩ := hp
    have p5 : vp_in (nI p) 5 := vp_in_nI hp (by decide)
    have cp : (nI p).toNatClampNeg = p := nI_clamp (by omega)
    refine tr_xre_t hp (br_f tr_n10 ⟨p5, p5, tr_xjoin fun t ht => ⟨p5, ?_⟩⟩)
    rw [cp] at ht ⊢
    have e := tr_Je (f := 2) (by decide) (by decide) (by decide) rfl ht
    subst e
    refine tr_xpart (fun c => ⟨rfl, tr_wk h (tr_y5t hp ⟨126, ?_⟩)⟩) (fun c => ⟨rfl, tr_wk h (tr_y5t hp ⟨126, ?_⟩)⟩)
    · exact tr_ytr hp (fun _ => ⟨rfl, hR⟩) (fun z => absurd ((tr_tr _).mp c) z) 125 0 rfl lt_0
    · exact tr_ytr hp (fun z => absurd ((tr_tr _).mpr z) c) (fun _ => ⟨rfl, hR⟩) 125 0 rfl lt_0
  · exact tr_xre_f hp (br_t rfl (tr_wk h (tr_y5f hp ⟨1, tr_ytr0 0 ⟨rfl, hR⟩⟩)))
end
section
/-! redundant and loss -/
theorem i_vc_redundant {k : Nat} {u : SX} {v : SY} (I : i_Rel k u v) (hk : k + 5 ≤ 2560) (v1 : Int32) : wpX_redundant (fun r u' => wpY_redundant (fun r' v' => r' = r ∧ i_Rel (k + 5) u' v') v v1) u v1 := by
  obtain ⟨m, tl, fm, hd, lf, rt, th, pr, rfl, rfl, h⟩ := I
  have hR : i_Rel (k + 5) (m, tr_D m fm hd lf rt pr, tl, fm, hd, lf, rt) (th, fm, hd, lf, rt, pr) := tr_mkR h rfl
  unfold wpX_redundant
  dsimp only
  refine tr_xis (fun i => br_f tr_n10 ?_) (fun i => br_t rfl ?_)
  · obtain ⟨j, hj, rfl, b⟩ := id i
    have cj : (nI j).toNatClampNeg = j := nI_clamp (by omega)
    have i8 : vp_in (nI j) 8 := vp_in_nI hj (by decide)
    have H' := tr_Ho hj h.1
    have hN : i_Rel (k + 5) (m, tr_D m fm hd lf rt pr, tr_D (m &&& (((1 : Int32) <<< (nI j &&& 31)) ^^^ (-1))) fm hd lf rt pr, fm, hd, lf, rt) (upd (upd th j 0) j 1, fm, hd, lf, rt, tr_D (m &&& (((1 : Int32) <<< (nI j &&& 31)) ^^^ (-1))) fm hd lf rt pr) := by
      refine tr_mkR ⟨h.1, h.2.1, h.2.2.1, tr_DG H' h.2.2.2.1, fun a ha => ?_, h.2.2.2.2.2.1, fun _ _ => rfl⟩ (tr_Dx (fun a ha => (tr_Do H' a ha).symm))
      by_cases e : a = j
      · rw [e, pk_us, if_pos b]
      · rw [pk_un e, pk_un e]; exact h.2.2.2.2.1 a ha
    have yp : ∀ (post : Int32 → SY → Prop),
        ((∀ a, a < 5 → tr_D (m &&& (((1 : Int32) <<< (nI j &&& 31)) ^^^ (-1))) fm hd lf rt pr a = tr_D m fm hd lf rt pr a) → post 1 (upd (upd th j 0) j 1, fm, hd, lf, rt, tr_D (m &&& (((1 : Int32) <<< (nI j &&& 31)) ^^^ (-1))) fm hd lf rt pr)) →
        (¬ (∀ a, a < 5 → tr_D (m &&& (((1 : Int32) <<< (nI j &&& 31)) ^^^ (-1))) fm hd lf rt pr a = tr_D m fm hd lf rt pr a) → post 0 (upd (upd th j 0) j 1, fm, hd, lf, rt, tr_D (m &&& (((1 : Int32) <<< (nI j &&& 31)) ^^^ (-1))) fm hd lf rt pr)) →
        wpY_redundant post (th, fm, hd, lf, rt, pr) (nI j) := by
      intro post p1 p0
      unfold wpY_redundant
      dsimp only
      refine tr_yis h.2.2.2.2.1 (fun _ => br_f tr_n10 (tr_wk h (nm_e (nm_e (nm_e ⟨i8, nm_r (e' := upd th j 0) (by rw [cj, tr_nb0]) (tr_ywork H' h.2.1 h.2.2.1 (tr_to0 hj h.2.2.2.2.1) ⟨i8, nm_r (e' := upd (upd th j 0) j 1) (by rw [cj, tr_nb1]) ?_⟩)⟩))))) (fun n => absurd i n)
      rw [tr_Dx (tr_Do h.1)]
      refine br_c (fun x => br_c (fun y => br_c (fun z => p1 ?_) (fun z => p0 (fun w => z (w 4 (by decide)).symm))) (fun y => p0 (fun w => y (w 3 (by decide)).symm))) (fun x => p0 (fun w => x (w 2 (by decide)).symm))
      intro a ha
      rcases (by omega : a < 2 ∨ a = 2 ∨ a = 3 ∨ a = 4) with e | e | e | e
      · rw [tr_Do H' a (Or.inl e), tr_Do h.1 a (Or.inl e)]
      · rw [e]; exact x.symm
      · rw [e]; exact y.symm
      · rw [e]; exact z.symm
    refine tr_xcopy (tr_xder_trial H' h.2.1 h.2.2.1 ?_ ?_)
    · rw [tr_zx (tr_cp h)]; exact tr_zG h.2.2.2.1
    · dsimp only
      rw [tr_Dx (tr_cp h)]
      exact tr_xtit (fun a => ⟨rfl, yp _ (fun _ => ⟨rfl, hN⟩) (fun n => absurd a n)⟩) (fun a => ⟨rfl, yp _ (fun n => absurd n a) (fun _ => ⟨rfl, hN⟩)⟩)
  · unfold wpY_redundant
    dsimp only
    exact tr_yis h.2.2.2.2.1 (fun y => absurd y i) (fun _ => br_t rfl ⟨rfl, hR⟩)
/-! loss -/
theorem tr_yln {post : Int32 → SY → Prop} {th fm hd lf rt pr : Nat → Int32} {p g x y : Int32} (h : ¬ (tr_F 5 p ∧ tr_F 2 g ∧ tr_F 5 x ∧ tr_F 5 y)) (hp : post (-1) (th, fm, hd, lf, rt, pr)) : wpY_loss post (th, fm, hd, lf, rt, pr) p g x y := by
  have h9 : tr_F 2 g → wY_loss_9 post p g x y th fm hd lf rt pr := by
    intro hg
    unfold wY_loss_9
    by_cases hp5 : tr_F 5 p
    · by_cases hx : tr_F 5 x
      · by_cases hy : tr_F 5 y
        · exact absurd ⟨hp5, hg, hx, hy⟩ h
        · obtain ⟨p', hp', rfl⟩ := hp5
          obtain ⟨x', hx', rfl⟩ := hx
          exact tr_y5t hp' (br_f tr_n10 (tr_y5t hx' (br_f tr_n10 (tr_y5f hy (br_t rfl hp)))))
      · obtain ⟨p', hp', rfl⟩ := hp5
        exact tr_y5t hp' (br_f tr_n10 (tr_y5f hx (br_t rfl hp)))
    · exact tr_y5f hp5 (br_t rfl hp)
  exact br_c (fun e => h9 ⟨0, by decide, e⟩) (fun n0 => br_c (fun e => h9 ⟨1, by decide, e⟩) (fun _ => hp))
theorem tr_ycount {post : Int32 → SY → Prop} {m : Int32} {th fm hd lf rt pr : Nat → Int32} {p : Nat} (H : tr_H m hd) (Vl : tr_V lf) (Vr : tr_V rt) (ht : ∀ k, k < 8 → th k = if bt m k = true then 1 else 0) (hp : p < 5) (hq : post (nI (tr_sz (tr_D m fm hd lf rt pr p) 25)) (th, fm, hd, lf, rt, tr_D m fm hd lf rt pr)) : wpY_count post (th, fm, hd, lf, rt, pr) (nI p) := by
  have cp : (nI p).toNatClampNeg = p := nI_clamp (by omega)
  unfold wpY_count
  dsimp only
  rw [cp]
  exact tr_ywork H Vl Vr ht (tr_y5t hp (br_f tr_n10 ⟨vp_in_nI hp (by decide), tr_yones hq⟩))
theorem tr_yl {post : Int32 → SY → Prop} {m : Int32} {tl th fm hd lf rt pr : Nat → Int32} (h : tr_R m tl fm hd lf rt th pr) {p g x y : Nat} (hp : p < 5) (hg : g < 2) (hx : x < 5) (hy : y < 5)
    (h0 : ¬ bt (pr g) (5 * x + y) = true → post 0 (th, fm, hd, lf, rt, pr))
    (h1 : bt (pr g) (5 * x + y) = true → post (nI (tr_sz (tr_D m fm hd lf rt pr p) 25) - nI (tr_sz (tr_D m fm hd lf rt (upd pr g (tr_gv 0 (pr g) (5 * x + y))) p) 25)) (th, fm, hd, lf, rt, upd (tr_D m fm hd lf rt (upd pr g (tr_gv 0 (pr g) (5 * x + y)))) g (tr_gv 1 (tr_D m fm hd lf rt (upd pr g (tr_gv 0 (pr g) (5 * x + y))) g) (5 * x + y)))) :
    wpY_loss post (th, fm, hd, lf, rt, pr) (nI p) (nI g) (nI x) (nI y) := by
  have h9 : wY_loss_9 post (nI p) (nI g) (nI x) (nI y) th fm hd lf rt pr := by
    unfold wY_loss_9
    refine tr_y5t hp (br_f tr_n10 (tr_y5t hx (br_f tr_n10 (tr_y5t hy (br_f tr_n10 (tr_yin (by omega) hx hy (fun b => br_f tr_n10 ?_) (fun b => br_t rfl (h0 b))))))))
    refine tr_ycount h.1 h.2.1 h.2.2.1 h.2.2.2.2.1 hp (tr_ygive hg hx hy (tr_ycount h.1 h.2.1 h.2.2.1 h.2.2.2.2.1 hp (tr_ygive hg hx hy ?_)))
    dsimp only
    rw [tr_Do (fm := fm) (lf := lf) (rt := rt) (R := pr) h.1 g (Or.inl hg), tr_Dx (tr_uD h.1 g _)]
    exact h1 b
  rcases (by omega : g = 0 ∨ g = 1) with e | e
  · subst e; exact br_t rfl h9
  · subst e; exact br_f (by decide) (br_t rfl h9)
theorem tr_gv0 {w : Int32} {l : Nat} (hl : l < 32) (hb : ¬ bt w l = true) : tr_gv 0 w l = w := tr_ext fun i hi => by
  unfold tr_gv
  rw [if_pos rfl, tr_and, tr_not _ hi, tr_one hl]
  exact ⟨fun z => z.1, fun z => ⟨z, fun e => hb (e ▸ z)⟩⟩
theorem tr_gv1 {w : Int32} {l : Nat} (hl : l < 32) (hb : bt w l = true) : tr_gv 1 (tr_gv 0 w l) l = w := tr_ext fun i hi => by
  unfold tr_gv
  rw [if_neg tr_n10, if_pos rfl, tr_or, tr_and, tr_not _ hi, tr_one hl]
  constructor
  · rintro (z | e)
    · exact z.1
    · rw [e]; exact hb
  · intro z
    by_cases e : i = l
    · exact Or.inr e
    · exact Or.inl ⟨z, e⟩
theorem tr_gvle (w : Int32) (l : Nat) : tr_le (tr_gv 0 w l) w := fun i z => by
  unfold tr_gv at z
  rw [if_pos rfl, tr_and] at z
  exact z.1
theorem i_vc_loss {k : Nat} {u : SX} {v : SY} (I : i_Rel k u v) (hk : k + 5 ≤ 2560) (v1 : Int32) (v2 : Int32) (v3 : Int32) (v4 : Int32) : wpX_loss (fun r u' => wpY_loss (fun r' v' => r' = r ∧ i_Rel (k + 5) u' v') v v1 v2 v3 v4) u v1 v2 v3 v4 := by
  obtain ⟨m, tl, fm, hd, lf, rt, th, pr, rfl, rfl, h⟩ := I
  have hR : i_Rel (k + 5) (m, tr_D m fm hd lf rt pr, tl, fm, hd, lf, rt) (th, fm, hd, lf, rt, pr) := tr_mkR h rfl
  unfold wpX_loss
  dsimp only
  by_cases hp : tr_F 5 v1
  · obtain ⟨p, hp, rfl⟩ := hp
    refine tr_xre_t hp (br_f tr_n10 ?_)
    by_cases hg : tr_F 2 v2
    · obtain ⟨g, hg, rfl⟩ := hg
      refine tr_xgi_t hg (br_f tr_n10 ?_)
      by_cases hx : tr_F 5 v3
      · obtain ⟨x, hx, rfl⟩ := hx
        refine tr_xth_t hx (br_f tr_n10 ?_)
        by_cases hy : tr_F 5 v4
        · obtain ⟨y, hy, rfl⟩ := hy
          have cg : (nI g).toNatClampNeg = g := nI_clamp (by omega)
          have cp : (nI p).toNatClampNeg = p := nI_clamp (by omega)
          have g5 : vp_in (nI g) 5 := vp_in_nI (by omega) (by decide)
          have p5 : vp_in (nI p) 5 := vp_in_nI hp (by decide)
          have hw : tr_W (tr_gv 0 (pr g) (5 * x + y)) := tr_gvW (h.2.2.2.1 g (by omega)) (by omega)
          have eT : ∀ j, j < 2 ∨ 4 < j → upd (upd (upd tl 0 (tr_D m fm hd lf rt pr 0)) 1 (tr_D m fm hd lf rt pr 1)) g (tr_gv 0 (pr g) (5 * x + y)) j = upd pr g (tr_gv 0 (pr g) (5 * x + y)) j := by
            intro j hj
            by_cases e : j = g
            · rw [e, pk_us, pk_us]
            · rw [pk_un e, pk_un e]; exact tr_cp h j hj
          refine tr_xth_t hy (br_f tr_n10 (tr_xcopy ⟨g5, tr_xpb ⟨g5, nm_r (e' := upd (upd (upd tl 0 (tr_D m fm hd lf rt pr 0)) 1 (tr_D m fm hd lf rt pr 1)) g (tr_gv 0 (pr g) (5 * x + y))) ?_ (tr_xder_trial h.1 h.2.1 h.2.2.1 ?_ ⟨p5, p5, tr_xsize ?_⟩)⟩⟩))
          · dsimp only
            rw [cg, tr_cp h g (Or.inl hg)]
            unfold tr_gv
            rw [if_pos rfl]
          · rw [tr_zx eT]; exact tr_zG (tr_Gu h.2.2.2.1 hw)
          · dsimp only
            rw [tr_Dx eT, cp]
            refine tr_yl h hp hg hx hy (fun b => ?_) (fun b => ?_)
            · rw [tr_gv0 (by omega) b, tr_upd rfl]
              refine ⟨?_, tr_mkR ⟨h.1, h.2.1, h.2.2.1, h.2.2.2.1, h.2.2.2.2.1, h.2.2.2.2.2.1, fun j hj => tr_Do h.1 j (Or.inr hj)⟩ rfl⟩
              rw [tr_part.mpr (fun i z => z), tr_sz0]
              exact nI_0.symm
            · have hle : ∀ j, tr_le (tr_D m fm hd lf rt (upd pr g (tr_gv 0 (pr g) (5 * x + y))) j) (tr_D m fm hd lf rt pr j) := by
                refine tr_DM (fun j => ?_)
                by_cases e : j = g
                · rw [e, pk_us]; exact tr_gvle _ _
                · rw [pk_un e]; exact fun i z => z
              have hs := tr_szd (hle p) 25 (by decide)
              have e1 : tr_D m fm hd lf rt (upd pr g (tr_gv 0 (pr g) (5 * x + y))) g = tr_gv 0 (pr g) (5 * x + y) := (tr_Do h.1 g (Or.inl hg)).trans pk_us
              rw [e1, tr_gv1 (by omega) b]
              refine ⟨?_, tr_mkR ⟨h.1, h.2.1, h.2.2.1, tr_Gu (tr_DG h.1 (tr_Gu h.2.2.2.1 hw)) (h.2.2.2.1 g (by omega)), h.2.2.2.2.1, h.2.2.2.2.2.1, fun j hj => (pk_un (by omega)).symm⟩ (tr_Dx (fun j hj => ?_))⟩
              · rw [pk_sub (by omega)]
                exact congrArg nI (by omega)
              · by_cases e : j = g
                · rw [e, pk_us]
                · rw [pk_un e, tr_Do h.1 j hj, pk_un e]
        · exact tr_xth_f hy (br_t rfl (tr_yln (fun z => hy z.2.2.2) ⟨rfl, hR⟩))
      · exact tr_xth_f hx (br_t rfl (tr_yln (fun z => hx z.2.2.1) ⟨rfl, hR⟩))
    · exact tr_xgi_f hg (br_t rfl (tr_yln (fun z => hg z.2.1) ⟨rfl, hR⟩))
  · exact tr_xre_f hp (br_t rfl (tr_yln (fun z => hp z.1) ⟨rfl, hR⟩))
end

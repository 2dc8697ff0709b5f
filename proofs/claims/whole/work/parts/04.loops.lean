/-! what the loops of the component hold, by bits -/
theorem tr_row (r : Int32) {z i : Nat} (hz : z < 5) (hi : i < 32) : bt ((r >>> (nI (5 * z) &&& 31)) &&& 31) i = true ↔ i < 5 ∧ bt r (5 * z + i) = true := by
  rw [tr_and, tr_31, b_sshr (5 * z) (by omega) r hi]
  constructor
  · rintro ⟨a, b⟩
    rw [if_pos (by omega)] at a
    exact ⟨b, a⟩
  · rintro ⟨a, b⟩
    rw [if_pos (by omega)]
    exact ⟨b, a⟩
theorem tr_rowB (r : Int32) {z i : Nat} (hz : z < 5) : bt ((r >>> (nI (5 * z) &&& 31)) &&& 31) i = true ↔ i < 5 ∧ bt r (5 * z + i) = true := by
  rcases Nat.lt_or_ge i 32 with h | h
  · exact tr_row r hz h
  · rw [b_big h]
    exact ⟨(fun z => nomatch z), fun z => absurd z.1 (by omega)⟩
theorem tr_row0 (r : Int32) {x : Nat} (hx : x < 5) : ((r >>> (nI (5 * x) &&& 31)) &&& 31) = 0 ↔ ¬ ∃ z, z < 5 ∧ bt r (5 * x + z) = true := by
  rw [tr_zero]
  constructor
  · rintro h ⟨z, a, b⟩
    exact h z (by omega) ((tr_rowB r hx).mpr ⟨a, b⟩)
  · intro h i hi z
    exact h ⟨i, (tr_rowB r hx).mp z⟩
theorem tr_shl5 (v : Int32) {x i : Nat} (hx : x < 5) (hi : i < 32) : bt (v <<< (nI (5 * x) &&& 31)) i = true ↔ 5 * x ≤ i ∧ bt v (i - 5 * x) = true := by
  rw [b_shl _ (by omega) v hi, Bool.and_eq_true, decide_eq_true_iff]
/-! turn -/
def tr_T (q : Int32) (x y : Nat) (t : Int32) : Prop := ∀ i, i < 32 → (bt t i = true ↔ i < 25 ∧ bt q (5 * (i % 5) + i / 5) = true ∧ (i % 5 < x ∨ (i % 5 = x ∧ i / 5 < y)))
theorem tr_T0 (q : Int32) : tr_T q 0 0 0 := fun i _ => ⟨fun z => absurd z (tr_0 i), fun ⟨_, _, c⟩ => absurd c (by omega)⟩
theorem tr_T5 {q t : Int32} {x : Nat} (h : tr_T q x 5 t) : tr_T q (x + 1) 0 t := fun i hi => (h i hi).trans ⟨fun ⟨a, b, c⟩ => ⟨a, b, by omega⟩, fun ⟨a, b, c⟩ => ⟨a, b, by omega⟩⟩
theorem tr_Tt {q t : Int32} {x y : Nat} (hx : x < 5) (hy : y < 5) (hq : bt q (5 * x + y) = true) (h : tr_T q x y t) : tr_T q x (y + 1) (t ||| ((1 : Int32) <<< (nI (5 * y + x) &&& 31))) := by
  intro i hi
  rw [tr_or, h i hi, tr_one (by omega)]
  constructor
  · rintro (⟨a, b, c⟩ | e)
    · exact ⟨a, b, by omega⟩
    · have e1 : i % 5 = x := by omega
      have e2 : i / 5 = y := by omega
      rw [e1, e2]
      exact ⟨by omega, hq, by omega⟩
  · rintro ⟨a, b, c⟩
    by_cases e : i = 5 * y + x
    · exact Or.inr e
    · exact Or.inl ⟨a, b, by omega⟩
theorem tr_Tf {q t : Int32} {x y : Nat} (hq : ¬ bt q (5 * x + y) = true) (h : tr_T q x y t) : tr_T q x (y + 1) t := by
  intro i hi
  rw [h i hi]
  constructor
  · rintro ⟨a, b, c⟩
    exact ⟨a, b, by omega⟩
  · rintro ⟨a, b, c⟩
    refine ⟨a, b, ?_⟩
    by_cases e : i % 5 = x ∧ i / 5 = y
    · rw [e.1, e.2] at b
      exact absurd b hq
    · omega
theorem tr_Te {q t : Int32} (r : Int32) {f : Int32} (h0 : ¬ f = 0) (h1 : f = 1) (h : tr_T q 5 0 t) : t = tr_cq f q r := tr_ext fun i hi => by
  rw [h i hi, tr_cqb, tr_sy1 _ _ _ _ h0 h1]
  exact ⟨fun ⟨a, b, _⟩ => ⟨a, b⟩, fun ⟨a, b⟩ => ⟨a, b, by omega⟩⟩
/-! join -/
def tr_J (q r : Int32) (x z : Nat) (t : Int32) : Prop := ∀ i, i < 32 → (bt t i = true ↔ i < 25 ∧ ∃ w, w < 5 ∧ bt q (5 * (i / 5) + w) = true ∧ bt r (5 * w + i % 5) = true ∧ (i / 5 < x ∨ (i / 5 = x ∧ w < z)))
theorem tr_J0 (q r : Int32) : tr_J q r 0 0 0 := fun i _ => ⟨fun z => absurd z (tr_0 i), fun ⟨_, w, _, _, _, c⟩ => absurd c (by omega)⟩
theorem tr_J5 {q r t : Int32} {x : Nat} (h : tr_J q r x 5 t) : tr_J q r (x + 1) 0 t := fun i hi => (h i hi).trans ⟨fun ⟨a, w, b, c, d, e⟩ => ⟨a, w, b, c, d, by omega⟩, fun ⟨a, w, b, c, d, e⟩ => ⟨a, w, b, c, d, by omega⟩⟩
theorem tr_Jt {q r t : Int32} {x z : Nat} (hx : x < 5) (hz : z < 5) (hq : bt q (5 * x + z) = true) (h : tr_J q r x z t) : tr_J q r x (z + 1) (t ||| (((r >>> (nI (5 * z) &&& 31)) &&& 31) <<< (nI (5 * x) &&& 31))) := by
  intro i hi
  rw [tr_or, h i hi, tr_shl5 _ hx hi, tr_rowB _ hz]
  constructor
  · rintro (⟨a, w, b, c, d, e⟩ | ⟨a, b, c⟩)
    · exact ⟨a, w, b, c, d, by omega⟩
    · have e1 : i / 5 = x := by omega
      have e2 : i - 5 * x = i % 5 := by omega
      rw [e2] at c
      exact ⟨by omega, z, hz, by rw [e1]; exact hq, c, by omega⟩
  · rintro ⟨a, w, b, c, d, e⟩
    by_cases g : i / 5 = x ∧ w = z
    · have e2 : i - 5 * x = i % 5 := by omega
      rw [g.2] at d
      exact Or.inr ⟨by omega, by omega, by rw [e2]; exact d⟩
    · exact Or.inl ⟨a, w, b, c, d, by omega⟩
theorem tr_Jf {q r t : Int32} {x z : Nat} (hq : ¬ bt q (5 * x + z) = true) (h : tr_J q r x z t) : tr_J q r x (z + 1) t := by
  intro i hi
  rw [h i hi]
  constructor
  · rintro ⟨a, w, b, c, d, e⟩
    exact ⟨a, w, b, c, d, by omega⟩
  · rintro ⟨a, w, b, c, d, e⟩
    refine ⟨a, w, b, c, d, ?_⟩
    by_cases g : i / 5 = x ∧ w = z
    · rw [g.1, g.2] at c
      exact absurd c hq
    · omega
theorem tr_Je {q r t f : Int32} (h0 : ¬ f = 0) (h1 : ¬ f = 1) (h3 : ¬ f = 3) (h2 : f = 2) (h : tr_J q r 5 0 t) : t = tr_cq f q r := tr_ext fun i hi => by
  rw [h i hi, tr_cqb, tr_sy2 _ _ _ _ h0 h1 h3 h2, tr_anyb]
  constructor
  · rintro ⟨a, w, b, c, d, e⟩
    exact ⟨a, w, b, (Bool.and_eq_true _ _).mpr ⟨c, d⟩⟩
  · rintro ⟨a, w, b, c⟩
    have c' := (Bool.and_eq_true _ _).mp c
    exact ⟨a, w, b, c'.1, c'.2, by omega⟩
/-! keepStarts -/
def tr_K (q r : Int32) (x : Nat) (t : Int32) : Prop := ∀ i, i < 32 → (bt t i = true ↔ i < 25 ∧ i / 5 < x ∧ bt q i = true ∧ ∃ z, z < 5 ∧ bt r (5 * (i / 5) + z) = true)
theorem tr_K0 (q r : Int32) : tr_K q r 0 0 := fun i _ => ⟨fun z => absurd z (tr_0 i), fun ⟨_, c, _⟩ => absurd c (by omega)⟩
theorem tr_Kt {q r t : Int32} {x : Nat} (hx : x < 5) (hr : ¬ ((r >>> (nI (5 * x) &&& 31)) &&& 31) = 0) (h : tr_K q r x t) : tr_K q r (x + 1) (t ||| (q &&& ((31 : Int32) <<< (nI (5 * x) &&& 31)))) := by
  have hr' := Classical.not_not.mp (fun z => hr ((tr_row0 r hx).mpr z))
  intro i hi
  rw [tr_or, h i hi, tr_and, tr_shl5 _ hx hi, tr_31]
  constructor
  · rintro (⟨a, b, c, d⟩ | ⟨a, b, c⟩)
    · exact ⟨a, by omega, c, d⟩
    · have e1 : i / 5 = x := by omega
      exact ⟨by omega, by omega, a, by rw [e1]; exact hr'⟩
  · rintro ⟨a, b, c, d⟩
    by_cases g : i / 5 = x
    · exact Or.inr ⟨c, by omega, by omega⟩
    · exact Or.inl ⟨a, by omega, c, d⟩
theorem tr_Kf {q r t : Int32} {x : Nat} (hx : x < 5) (hr : ((r >>> (nI (5 * x) &&& 31)) &&& 31) = 0) (h : tr_K q r x t) : tr_K q r (x + 1) t := by
  have hr' := (tr_row0 r hx).mp hr
  intro i hi
  rw [h i hi]
  constructor
  · rintro ⟨a, b, c, d⟩
    exact ⟨a, by omega, c, d⟩
  · rintro ⟨a, b, c, d⟩
    refine ⟨a, ?_, c, d⟩
    by_cases g : i / 5 = x
    · rw [g] at d
      exact absurd d hr'
    · omega
theorem tr_Ke {q r t f : Int32} (h0 : ¬ f = 0) (h1 : ¬ f = 1) (h3 : ¬ f = 3) (h2 : ¬ f = 2) (h : tr_K q r 5 t) : t = tr_cq f q r := tr_ext fun i hi => by
  rw [h i hi, tr_cqb, tr_sy4 _ _ _ _ h0 h1 h3 h2, tr_anyb, Nat.div_add_mod]
  constructor
  · rintro ⟨a, b, c, w, d, e⟩
    exact ⟨a, w, d, (Bool.and_eq_true _ _).mpr ⟨c, e⟩⟩
  · rintro ⟨a, w, b, c⟩
    have c' := (Bool.and_eq_true _ _).mp c
    exact ⟨a, by omega, c'.1, w, b, c'.2⟩
/-! copy and both -/
theorem tr_ce0 {q f : Int32} (r : Int32) (w : tr_W q) (h0 : f = 0) : q = tr_cq f q r := tr_ext fun i hi => by
  rw [tr_cqb, tr_sy0 _ _ _ _ h0, Nat.div_add_mod]
  exact ⟨fun z => ⟨w i z, z⟩, fun z => z.2⟩
theorem tr_ce3 {q r f : Int32} (w : tr_W q) (h0 : ¬ f = 0) (h1 : ¬ f = 1) (h3 : f = 3) : q &&& r = tr_cq f q r := tr_ext fun i hi => by
  rw [tr_cqb, tr_sy3 _ _ _ _ h0 h1 h3, Nat.div_add_mod, Bool.and_eq_true, tr_and]
  exact ⟨fun z => ⟨w i z.1, z⟩, fun z => z.2⟩
/-! to: a row of the turned relation -/
theorem tr_to (t : Int32) {y : Nat} (hy : y < 5) : (tr_cq 1 t t >>> (nI (5 * y) &&& 31)) &&& 31 = tr_mk (fun x => bt t (5 * x + y)) 5 := tr_ext fun i hi => by
  rw [tr_rowB _ hy, tr_cqb, tr_sy1 _ _ _ _ (by decide) rfl, tr_mkb _ _ (by decide)]
  constructor
  · rintro ⟨a, b, c⟩
    have e1 : (5 * y + i) % 5 = i := by omega
    have e2 : (5 * y + i) / 5 = y := by omega
    rw [e1, e2] at c
    exact ⟨a, c⟩
  · rintro ⟨a, c⟩
    have e1 : (5 * y + i) % 5 = i := by omega
    have e2 : (5 * y + i) / 5 = y := by omega
    rw [e1, e2]
    exact ⟨a, by omega, c⟩
/-! part of -/
theorem tr_part {p q : Int32} : (p &&& (q ^^^ (-1))) = 0 ↔ tr_le p q := by
  rw [tr_zero]
  constructor
  · intro h i z
    have hi := tr_lt32 z
    by_cases e : bt q i = true
    · exact e
    · exact absurd ((tr_and _ _ i).mpr ⟨z, (tr_not q hi).mpr e⟩) (h i hi)
  · intro h i hi z
    have z2 := (tr_and _ _ i).mp z
    exact (tr_not q hi).mp z2.2 (h i z2.1)
/-! counting -/
def tr_sz (v : Int32) : Nat → Nat
  | 0 => 0
  | n + 1 => tr_sz v n + (if bt v n = true then 1 else 0)
theorem tr_szS (v : Int32) (n : Nat) : tr_sz v (n + 1) = tr_sz v n + (if bt v n = true then 1 else 0) := rfl
theorem tr_szI (v : Int32) {n : Nat} (hn : n < 32) : nI (tr_sz v n) + ((v >>> (nI n &&& 31)) &&& 1) = nI (tr_sz v (n + 1)) := by
  rw [tr_bit v hn, tr_szS]
  by_cases h : bt v n = true
  · rw [if_pos h, if_pos h, nI_1]
  · rw [if_neg h, if_neg h, Int32.add_zero, Nat.add_zero]
theorem tr_szle (v : Int32) : ∀ n, tr_sz v n ≤ n := by
  intro n
  induction n with
  | zero => exact Nat.le_refl 0
  | succ n ih =>
    rw [tr_szS]
    by_cases h : bt v n = true
    · rw [if_pos h]; omega
    · rw [if_neg h]; omega
theorem tr_szd {s t : Int32} (h : tr_le s t) : ∀ n, n ≤ 32 → tr_sz (t &&& (s ^^^ (-1))) n + tr_sz s n = tr_sz t n := by
  intro n
  induction n with
  | zero => exact fun _ => rfl
  | succ n ih =>
    intro hn
    have ih' := ih (by omega)
    have e : bt (t &&& (s ^^^ (-1))) n = true ↔ bt t n = true ∧ ¬ bt s n = true := by rw [tr_and, tr_not s (by omega)]
    rw [tr_szS, tr_szS, tr_szS]
    by_cases ht : bt t n = true
    · by_cases hs : bt s n = true
      · rw [if_neg (fun z => (e.mp z).2 hs), if_pos hs, if_pos ht]; omega
      · rw [if_pos (e.mpr ⟨ht, hs⟩), if_neg hs, if_pos ht]; omega
    · have hs : ¬ bt s n = true := fun z => ht (h n z)
      rw [if_neg (fun z => ht (e.mp z).1), if_neg hs, if_neg ht]; omega
theorem tr_sz0 : ∀ n, tr_sz 0 n = 0 := by
  intro n
  induction n with
  | zero => rfl
  | succ n ih => rw [tr_szS, ih, if_neg (tr_0 n)]
/-! transitive -/
def tr_tp (t : Int32) (c : Nat) : Prop := bt t (5 * (c / 25) + c / 5 % 5) = true → bt t (5 * (c / 5 % 5) + c % 5) = true → bt t (5 * (c / 25) + c % 5) = true
theorem tr_tr (t : Int32) : tr_le (tr_cq 2 t t) t ↔ ∀ c, c < 125 → tr_tp t c := by
  constructor
  · intro h c hc a b
    apply h
    have e1 : (5 * (c / 25) + c % 5) / 5 = c / 25 := by omega
    have e2 : (5 * (c / 25) + c % 5) % 5 = c % 5 := by omega
    rw [tr_cqb, e1, e2, tr_sy2 _ _ _ _ (by decide) (by decide) (by decide) rfl, tr_anyb]
    exact ⟨by omega, c / 5 % 5, by omega, (Bool.and_eq_true _ _).mpr ⟨a, b⟩⟩
  · intro h i z
    rw [tr_cqb, tr_sy2 _ _ _ _ (by decide) (by decide) (by decide) rfl, tr_anyb] at z
    obtain ⟨a, w, b, c⟩ := z
    have c' := (Bool.and_eq_true _ _).mp c
    have hh := h (25 * (i / 5) + 5 * w + i % 5) (by omega)
    unfold tr_tp at hh
    have e1 : (25 * (i / 5) + 5 * w + i % 5) / 25 = i / 5 := by omega
    have e2 : (25 * (i / 5) + 5 * w + i % 5) / 5 % 5 = w := by omega
    have e3 : (25 * (i / 5) + 5 * w + i % 5) % 5 = i % 5 := by omega
    rw [e1, e2, e3, Nat.div_add_mod] at hh
    exact hh c'.1 c'.2

/-! SPEC: what the record is, mended -/
theorem xu_ne {h : HP} {k i v a b : Int} (e : ¬ (a = k ∧ b = i)) : xu h k i v a b = h a b := by
  unfold xu
  by_cases h1 : a = k
  · by_cases h2 : b = i
    · exact absurd ⟨h1, h2⟩ e
    · simp [h2]
  · simp [h1]
theorem xu_eq {h : HP} {k i v a b : Int} (e1 : a = k) (e2 : b = i) : xu h k i v a b = v := by subst e1; subst e2; exact xu_s _ _ _ _
/-- how many samples; the samples; numbers (mend, band, factor, least, rule, told, mark, marked); how many lenses; their kinds; their n -/
abbrev IN : Type := Int × (Int → Int) × (Int → Int) × Int × (Int → Int) × (Int → Int)
abbrev iN (I : IN) : Int := I.1
abbrev iR (I : IN) : Int → Int := I.2.1
abbrev iS (I : IN) : Int → Int := I.2.2.1
abbrev iL (I : IN) : Int := I.2.2.2.1
abbrev iK (I : IN) : Int → Int := I.2.2.2.2.1
abbrev iB (I : IN) : Int → Int := I.2.2.2.2.2
/-- a lens can be -/
def lok (k n : Int) : Prop := (k = 0 ∧ 1 ≤ n ∧ n ≤ 5) ∨ (k = 1 ∧ 0 ≤ n ∧ n ≤ 9999) ∨ (k = 2 ∧ n = 0) ∨ (k = 3 ∧ 1 ≤ n ∧ n ≤ 30) ∨ (k = 4 ∧ 1 ≤ n ∧ n ≤ 9)
def OKI (I : IN) : Prop := (0 ≤ iN I ∧ iN I ≤ 600) ∧ (∀ k, 0 ≤ k → k < iN I → hv9 (iR I k)) ∧ (0 ≤ iS I 0 ∧ iS I 0 ≤ 20) ∧ (0 ≤ iS I 1 ∧ iS I 1 ≤ 500) ∧ (10 ≤ iS I 2 ∧ iS I 2 ≤ 50) ∧ (1 ≤ iS I 3 ∧ iS I 3 ≤ 9) ∧ (0 ≤ iS I 4 ∧ iS I 4 ≤ 2) ∧ (-9999 ≤ iS I 5 ∧ iS I 5 ≤ 9999) ∧ (0 ≤ iS I 6 ∧ iS I 6 ≤ 3) ∧ (0 ≤ iS I 7 ∧ iS I 7 ≤ 99999) ∧ (0 ≤ iL I ∧ iL I ≤ 4) ∧ ∀ l, 0 ≤ l → l < iL I → lok (iK I l) (iB I l)
def MD (n : Int) (r : Int → Int) (md k v : Int) : Prop :=
  (¬ r k = -32768 ∧ v = r k) ∨ (r k = -32768 ∧ ((∃ a b, 0 ≤ a ∧ a < k ∧ k < b ∧ b < n ∧ ¬ r a = -32768 ∧ ¬ r b = -32768 ∧ (∀ j, a < j → j < b → r j = -32768) ∧ b - a - 1 ≤ md ∧ v = (r a * (b - k) + r b * (k - a)) / (b - a)) ∨
    ((∀ a b, 0 ≤ a → a < k → k < b → b < n → ¬ r a = -32768 → ¬ r b = -32768 → (∀ j, a < j → j < b → r j = -32768) → md < b - a - 1) ∧ v = -32768)))
theorem MD_unique {n : Int} {r : Int → Int} {md k v w : Int} (h1 : MD n r md k v) (h2 : MD n r md k w) : v = w := by
  rcases h1 with ⟨a1, a2⟩ | ⟨a1, a2⟩ <;> rcases h2 with ⟨b1, b2⟩ | ⟨b1, b2⟩
  · rw [a2, b2]
  · exact absurd b1 a1
  · exact absurd a1 b1
  · rcases a2 with ⟨a, b, q1, q2, q3, q4, q5, q6, q7, q8, q9⟩ | ⟨q1, q2⟩ <;> rcases b2 with ⟨c, d, p1, p2, p3, p4, p5, p6, p7, p8, p9⟩ | ⟨p1, p2⟩
    · have e1 : a = c := by
        rcases Int.lt_trichotomy a c with e | e | e
        · exact absurd (q7 c e (by omega)) p5
        · exact e
        · exact absurd (p7 a e (by omega)) q5
      have e2 : b = d := by
        rcases Int.lt_trichotomy b d with e | e | e
        · exact absurd (p7 b (by omega) e) q6
        · exact e
        · exact absurd (q7 d (by omega) e) p6
      rw [q9, p9, e1, e2]
    · have := p1 a b q1 q2 q3 q4 q5 q6 q7; omega
    · have := q1 c d p1 p2 p3 p4 p5 p6 p7; omega
    · rw [q2, p2]
noncomputable def mM (I : IN) (k : Int) : Int := Classical.epsilon (MD (iN I) (iR I) (iS I 0) k)
theorem mM_of {I : IN} {k v : Int} (h : MD (iN I) (iR I) (iS I 0) k v) : mM I k = v := MD_unique (Classical.epsilon_spec (p := MD (iN I) (iR I) (iS I 0) k) ⟨v, h⟩) h
theorem mM_raw {I : IN} {k : Int} (h : ¬ iR I k = -32768) : mM I k = iR I k := mM_of (Or.inl ⟨h, rfl⟩)
theorem mM_mend {I : IN} {k a b : Int} (h : iR I k = -32768) (h0 : 0 ≤ a) (h1 : a < k) (h2 : k < b) (h3 : b < iN I) (h4 : ¬ iR I a = -32768) (h5 : ¬ iR I b = -32768) (h6 : ∀ j, a < j → j < b → iR I j = -32768) (h7 : b - a - 1 ≤ iS I 0) : mM I k = (iR I a * (b - k) + iR I b * (k - a)) / (b - a) := mM_of (Or.inr ⟨h, Or.inl ⟨a, b, h0, h1, h2, h3, h4, h5, h6, h7, rfl⟩⟩)
theorem mM_ref {I : IN} {k : Int} (h : iR I k = -32768) (h1 : ∀ a b, 0 ≤ a → a < k → k < b → b < iN I → ¬ iR I a = -32768 → ¬ iR I b = -32768 → (∀ j, a < j → j < b → iR I j = -32768) → iS I 0 < b - a - 1) : mM I k = -32768 := mM_of (Or.inr ⟨h, Or.inr ⟨h1, rfl⟩⟩)
theorem wmean {a b p q : Int} (hp : 0 ≤ p) (hq : 0 ≤ q) (hpq : 0 < p + q) (ha : -9999 ≤ a ∧ a ≤ 9999) (hb : -9999 ≤ b ∧ b ≤ 9999) : -9999 * (p + q) ≤ a * p + b * q ∧ a * p + b * q ≤ 9999 * (p + q) ∧ -9999 ≤ (a * p + b * q) / (p + q) ∧ (a * p + b * q) / (p + q) ≤ 9999 := by
  have e1 : -9999 * p ≤ a * p := Int.mul_le_mul_of_nonneg_right ha.1 hp
  have e2 : a * p ≤ 9999 * p := Int.mul_le_mul_of_nonneg_right ha.2 hp
  have e3 : -9999 * q ≤ b * q := Int.mul_le_mul_of_nonneg_right hb.1 hq
  have e4 : b * q ≤ 9999 * q := Int.mul_le_mul_of_nonneg_right hb.2 hq
  have e5 : -9999 * (p + q) ≤ a * p + b * q := by omega
  have e6 : a * p + b * q ≤ 9999 * (p + q) := by omega
  refine ⟨e5, e6, (Int.le_ediv_iff_mul_le hpq).mpr e5, ?_⟩
  have := (Int.ediv_lt_iff_lt_mul (a := a * p + b * q) (b := 10000) hpq).mpr (by omega)
  omega
theorem mM_any {I : IN} (hI : OKI I) {k : Int} (h0 : 0 ≤ k) (h1 : k < iN I) : MD (iN I) (iR I) (iS I 0) k (mM I k) ∧ (mM I k = -32768 ∨ (-9999 ≤ mM I k ∧ mM I k ≤ 9999)) := by
  by_cases hr : iR I k = -32768
  · by_cases hx : ∃ a b, 0 ≤ a ∧ a < k ∧ k < b ∧ b < iN I ∧ ¬ iR I a = -32768 ∧ ¬ iR I b = -32768 ∧ (∀ j, a < j → j < b → iR I j = -32768) ∧ b - a - 1 ≤ iS I 0
    · obtain ⟨a, b, q1, q2, q3, q4, q5, q6, q7, q8⟩ := hx
      have e := mM_mend hr q1 q2 q3 q4 q5 q6 q7 q8
      rw [e]
      refine ⟨Or.inr ⟨hr, Or.inl ⟨a, b, q1, q2, q3, q4, q5, q6, q7, q8, rfl⟩⟩, Or.inr ?_⟩
      have ha := hI.2.1 a q1 (by omega)
      have hb := hI.2.1 b (by omega) q4
      have w := wmean (a := iR I a) (b := iR I b) (p := b - k) (q := k - a) (by omega) (by omega) (by omega) (by rcases ha with z | z <;> omega) (by rcases hb with z | z <;> omega)
      rw [show b - k + (k - a) = b - a by omega] at w
      exact ⟨w.2.2.1, w.2.2.2⟩
    · have hx2 : ∀ a b, 0 ≤ a → a < k → k < b → b < iN I → ¬ iR I a = -32768 → ¬ iR I b = -32768 → (∀ j, a < j → j < b → iR I j = -32768) → iS I 0 < b - a - 1 := fun a b q1 q2 q3 q4 q5 q6 q7 => by
        rcases Int.lt_or_le (iS I 0) (b - a - 1) with z | z
        · exact z
        · exact absurd ⟨a, b, q1, q2, q3, q4, q5, q6, q7, z⟩ hx
      have e := mM_ref hr hx2
      rw [e]
      exact ⟨Or.inr ⟨hr, Or.inr ⟨hx2, rfl⟩⟩, Or.inl rfl⟩
  · rw [mM_raw hr]
    refine ⟨Or.inl ⟨hr, rfl⟩, ?_⟩
    exact hI.2.1 k h0 h1

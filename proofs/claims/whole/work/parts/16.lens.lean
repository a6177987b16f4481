/-! lenses -/
def lz (k n : Int) (f : Int → Int) (a b i : Int) : Int :=
  if k = 0 then S f (max a (i - n)) (min b (i + n + 1)) / (min b (i + n + 1) - max a (i - n))
  else if k = 1 then (if f i < -n then -n else if n < f i then n else f i)
  else if k = 2 then -(f i) else if k = 3 then f i * n / 10 else if i - a < n then 0 else f i - f (i - n)
noncomputable def V (I : IN) : Nat → Int → Int
  | 0 => mM I
  | l + 1 => fun k => lz (iK I l) (iB I l) (V I l) (fr9 I (sO I k)) (en9 I (sO I k)) k
def bd : Nat → Int
  | 0 => 9999
  | l + 1 => 3 * bd l
theorem lz_congr {k n : Int} {f g : Int → Int} {a b i : Int} (h1 : a ≤ i) (h2 : i < b) (hn : 0 ≤ n) (h : ∀ j, a ≤ j → j < b → f j = g j) : lz k n f a b i = lz k n g a b i := by
  unfold lz
  have e1 : S f (max a (i - n)) (min b (i + n + 1)) = S g (max a (i - n)) (min b (i + n + 1)) := S_congr (fun j q1 q2 => h j (by omega) (by omega))
  rw [e1, h i h1 h2]
  by_cases e : i - a < n
  · simp [e]
  · rw [h (i - n) (by omega) (by omega)]
theorem avg_in {f : Int → Int} {a b B : Int} (hab : a < b) (hB : 0 ≤ B) (h : ∀ j, a ≤ j → j < b → -B ≤ f j ∧ f j ≤ B) : -B * (b - a) ≤ S f a b ∧ S f a b ≤ B * (b - a) ∧ -B ≤ S f a b / (b - a) ∧ S f a b / (b - a) ≤ B := by
  have k := S_bound (f := f) (lo := -B) (hi := B) (show a ≤ b by omega) h
  refine ⟨k.1, k.2, (Int.le_ediv_iff_mul_le (by omega)).mpr k.1, ?_⟩
  have e : (B + 1) * (b - a) = B * (b - a) + (b - a) := by rw [Int.add_mul, Int.one_mul]
  have := (Int.ediv_lt_iff_lt_mul (a := S f a b) (b := B + 1) (show 0 < b - a by omega)).mpr (by omega)
  omega
theorem lz_in {k n : Int} {f : Int → Int} {a b i B : Int} (hl : lok k n) (h1 : a ≤ i) (h2 : i < b) (hB : 9999 ≤ B) (h : ∀ j, a ≤ j → j < b → -B ≤ f j ∧ f j ≤ B) : -(3 * B) ≤ lz k n f a b i ∧ lz k n f a b i ≤ 3 * B := by
  have hi := h i h1 h2
  unfold lz
  rcases hl with z | z | z | z | z
  · rw [if_pos z.1]
    have := avg_in (f := f) (a := max a (i - n)) (b := min b (i + n + 1)) (B := B) (by omega) (by omega) (fun j q1 q2 => h j (by omega) (by omega))
    omega
  · rw [if_neg (by omega), if_pos z.1]
    by_cases e1 : f i < -n
    · rw [if_pos e1]; omega
    · rw [if_neg e1]
      by_cases e2 : n < f i
      · rw [if_pos e2]; omega
      · rw [if_neg e2]; omega
  · rw [if_neg (by omega), if_neg (by omega), if_pos z.1]; omega
  · rw [if_neg (by omega), if_neg (by omega), if_neg (by omega), if_pos z.1]
    have e1 : -(30 * B) ≤ f i * n := by
      have q1 : -B * n ≤ f i * n := Int.mul_le_mul_of_nonneg_right hi.1 (by omega)
      have q2 : B * n ≤ B * 30 := Int.mul_le_mul_of_nonneg_left z.2.2 (by omega)
      have q3 : -B * n = -(B * n) := Int.neg_mul B n
      omega
    have e2 : f i * n ≤ 30 * B := by
      have q1 : f i * n ≤ B * n := Int.mul_le_mul_of_nonneg_right hi.2 (by omega)
      have q2 : B * n ≤ B * 30 := Int.mul_le_mul_of_nonneg_left z.2.2 (by omega)
      omega
    omega
  · rw [if_neg (by omega), if_neg (by omega), if_neg (by omega), if_neg (by omega)]
    by_cases e1 : i - a < n
    · rw [if_pos e1]; omega
    · rw [if_neg e1]
      have := h (i - n) (by omega) (by omega)
      omega
theorem bd_ge : ∀ l, 9999 ≤ bd l
  | 0 => by decide
  | l + 1 => by have := bd_ge l; show 9999 ≤ 3 * bd l; omega
theorem V_in {I : IN} (hI : OKI I) : ∀ (l : Nat), (l : Int) ≤ iL I → ∀ k, 0 ≤ k → k < iN I → ¬ mM I k = -32768 → -bd l ≤ V I l k ∧ V I l k ≤ bd l
  | 0, _, k, h0, h1, hk => by
    have := (mM_any hI h0 h1).2
    show -9999 ≤ mM I k ∧ mM I k ≤ 9999
    omega
  | l + 1, hl, k, h0, h1, hk => by
    obtain ⟨a1, a2, ⟨g1, g2, g3, g4, g5, g6, g7⟩, a4, a5⟩ := SG_of h0 h1 hk
    have hlo := hI.2.2.2.2.2.2.2.2.2.2.2 (l : Int) (by omega) (by omega)
    exact lz_in hlo a4 a5 (bd_ge l) (fun j q1 q2 => V_in hI l (by omega) j (by omega) (by omega) (g6 j q1 q2))
theorem bd_le : ∀ l : Nat, l ≤ 4 → bd l ≤ 809919 := by
  intro l hl
  match l, hl with
  | 0, _ => decide
  | 1, _ => decide
  | 2, _ => decide
  | 3, _ => decide
  | 4, _ => decide
  | l + 5, h => omega
theorem bd_le3 : ∀ l : Nat, l ≤ 3 → bd l ≤ 269973 := by
  intro l hl
  match l, hl with
  | 0, _ => decide
  | 1, _ => decide
  | 2, _ => decide
  | 3, _ => decide
  | l + 4, h => omega
/-! the class -/
theorem row_IA {i : Int} (h0 : 0 ≤ i) (h1 : i < 5) : IA (15 + i) 600 := by
  rcases (by omega : i = 0 ∨ i = 1 ∨ i = 2 ∨ i = 3 ∨ i = 4) with e | e | e | e | e <;> subst e
  · exact ia15
  · exact ia16
  · exact ia17
  · exact ia18
  · exact ia19
theorem p_showMean {X : Nat × (Int → Int)} {h0 : HP} {Q : Int → HP → Prop} {p q a b n : Int} (hp : IA p 600) (hq : IA q 600) (hpq : ¬ p = q) (ha : 0 ≤ a) (hab : a ≤ b) (hb : b ≤ 600) (hn : 1 ≤ n) (hn2 : n ≤ 5) (hv : ∀ j, a ≤ j → j < b → -269973 ≤ h0 p j ∧ h0 p j ≤ 269973)
    (H : ∀ h' : HP, (∀ k i, ¬ (k = q ∧ a ≤ i ∧ i < b) → h' k i = h0 k i) → (∀ i, a ≤ i → i < b → h' q i = S (h0 p) (max a (i - n)) (min b (i + n + 1)) / (min b (i + n + 1) - max a (i - n))) → Q 0 h') :
    Wd mX1_showMean X 0 [(2, p), (2, q), (0, a), (0, b), (0, n), (9, 0), (9, 0), (9, 0), (9, 0), (9, 0)] [] h0 Q := by
  refine vX1_showMean_0 ?_
  have sb : ∀ l r, a ≤ l → l ≤ r → r ≤ b → -200000000 ≤ S (h0 p) l r ∧ S (h0 p) l r ≤ 200000000 := fun l r q1 q2 q3 => by
    have := S_bound (f := h0 p) (lo := -269973) (hi := 269973) q2 (fun j z1 z2 => hv j (by omega) (by omega))
    omega
  have key : ∀ (d : Nat) (l r i : Int) (h : HP), b - i < d → a ≤ i → i ≤ b → a ≤ l → l ≤ max a (i - n) → l ≤ r → r ≤ min b (i + n + 1) → (∀ k t, ¬ (k = q ∧ a ≤ t ∧ t < i) → h k t = h0 k t) → (∀ t, a ≤ t → t < i → h q t = S (h0 p) (max a (t - n)) (min b (t + n + 1)) / (min b (t + n + 1) - max a (t - n))) →
      Wd mX1_showMean X 12 [(2, p), (2, q), (9, 0), (0, b), (0, n), (1, S (h0 p) l r), (9, 0), (0, l), (0, r), (0, i)] [] h Q := by
    intro d
    induction d with
    | zero => intro l r i h q1 q2 q3; omega
    | succ d ih =>
      intro l r i h hd hi1 hi2 hl1 hl2 hlr hr2 hf hc
      refine vX1_showMean_12 ⟨fun c => ?_, fun c => ?_⟩
      · have e : i = b := by omega
        subst e
        exact H h hf hc
      · have hib : i < b := by omega
        have hpv : ∀ t, h p t = h0 p t := fun t => hf p t (fun z => hpq z.1)
        -- the left end comes up
        have L50 : ∀ (d2 : Nat) (l : Int), i - n - l < d2 → a ≤ l → l ≤ max a (i - n) → Wd mX1_showMean X 50 [(2, p), (2, q), (9, 0), (0, b), (0, n), (1, S (h0 p) l (min b (i + n + 1))), (9, 0), (0, l), (0, min b (i + n + 1)), (0, i)] [] h Q := by
          intro d2
          induction d2 with
          | zero =>
            intro l q1 q2 q3
            have e : l = max a (i - n) := by omega
            have s2 := sb l (min b (i + n + 1)) q2 (by omega) (by omega)
            have av := avg_in (f := h0 p) (a := l) (b := min b (i + n + 1)) (B := 269973) (by omega) (by omega) (fun j z1 z2 => hv j (by omega) (by omega))
            refine vX1_showMean_50 ⟨by omega, fun c1 => ⟨by omega, ?_⟩, fun c1 => by omega⟩
            refine p_meanDown (by omega) (by omega) (by omega) (by omega) (by omega) ⟨hq, by omega, by omega, by omega, ?_⟩
            refine ih l (min b (i + n + 1)) (i + 1) _ (by omega) (by omega) (by omega) q2 (by omega) (by omega) (by omega) (fun k t z => by rw [xu_ne (by omega)]; exact hf k t (by omega)) (fun t z1 z2 => ?_)
            by_cases et : t = i
            · rw [xu_eq rfl et, et, e]
            · rw [xu_ne (by omega)]; exact hc t z1 (by omega)
          | succ d2 ih2 =>
            intro l q1 q2 q3
            have s2 := sb l (min b (i + n + 1)) q2 (by omega) (by omega)
            refine vX1_showMean_50 ⟨by omega, fun c1 => ⟨by omega, ?_⟩, fun c1 => ?_⟩
            · have e : l = max a (i - n) := by omega
              have av := avg_in (f := h0 p) (a := l) (b := min b (i + n + 1)) (B := 269973) (by omega) (by omega) (fun j z1 z2 => hv j (by omega) (by omega))
              refine p_meanDown (by omega) (by omega) (by omega) (by omega) (by omega) ⟨hq, by omega, by omega, by omega, ?_⟩
              refine ih l (min b (i + n + 1)) (i + 1) _ (by omega) (by omega) (by omega) q2 (by omega) (by omega) (by omega) (fun k t z => by rw [xu_ne (by omega)]; exact hf k t (by omega)) (fun t z1 z2 => ?_)
              by_cases et : t = i
              · rw [xu_eq rfl et, et, e]
              · rw [xu_ne (by omega)]; exact hc t z1 (by omega)
            · rw [hpv l]
              have hd1 := S_head (f := h0 p) (a := l) (b := min b (i + n + 1)) (by omega)
              have s3 := sb (l + 1) (min b (i + n + 1)) (by omega) (by omega) (by omega)
              refine ⟨hp, by omega, by omega, by omega, by omega, ?_⟩
              rw [show S (h0 p) l (min b (i + n + 1)) - h0 p l = S (h0 p) (l + 1) (min b (i + n + 1)) by omega]
              exact ih2 (l + 1) (by omega) (by omega) (by omega)
        -- the right end goes on
        have L18 : ∀ (d2 : Nat) (r : Int), min b (i + n + 1) - r < d2 → l ≤ r → r ≤ min b (i + n + 1) → Wd mX1_showMean X 18 [(2, p), (2, q), (9, 0), (0, b), (0, n), (1, S (h0 p) l r), (9, 0), (0, l), (0, r), (0, i)] [] h Q := by
          intro d2
          induction d2 with
          | zero => intro r q1 q2 q3; omega
          | succ d2 ih2 =>
            intro r q1 q2 q3
            refine vX1_showMean_18 ⟨fun c1 => ?_, fun c1 => ⟨by omega, fun c2 => ?_, fun c2 => ?_⟩⟩
            · rw [show r = min b (i + n + 1) by omega]
              exact L50 (i - n - l + 1).toNat l (by omega) hl1 hl2
            · rw [show r = min b (i + n + 1) by omega]
              exact L50 (i - n - l + 1).toNat l (by omega) hl1 hl2
            · rw [hpv r]
              have hs := S_succ (f := h0 p) (a := l) (b := r) q2
              have s3 := sb l (r + 1) hl1 (by omega) (by omega)
              refine ⟨hp, by omega, by omega, by omega, by omega, ?_⟩
              rw [← hs]
              exact ih2 (r + 1) (by omega) (by omega) (by omega)
        exact L18 (min b (i + n + 1) - r + 1).toNat r (by omega) hlr hr2
  have := key (b - a + 1).toNat a a a h0 (by omega) (Int.le_refl a) hab (Int.le_refl a) (by omega) (Int.le_refl a) (by omega) (fun k t _ => rfl) (fun t z1 z2 => by omega)
  rw [S_nil (Int.le_refl a)] at this
  exact this
theorem p_show {X : Nat × (Int → Int)} {h0 : HP} {Q : Int → HP → Prop} {l a b : Int} (hl0 : 0 ≤ l) (hl1 : l < h0 2 2) (hl2 : h0 2 2 ≤ 4) (ha : 0 ≤ a) (hab : a ≤ b) (hb : b ≤ 600) (hlo : lok (h0 10 l) (h0 11 l)) (hv : ∀ j, a ≤ j → j < b → -269973 ≤ h0 (15 + l) j ∧ h0 (15 + l) j ≤ 269973)
    (H : ∀ h' : HP, (∀ k i, ¬ (k = 15 + (l + 1) ∧ a ≤ i ∧ i < b) → h' k i = h0 k i) → (∀ i, a ≤ i → i < b → h' (15 + (l + 1)) i = lz (h0 10 l) (h0 11 l) (h0 (15 + l)) a b i) → Q 0 h') :
    Wd mX1_show X 0 [(2, 2), (0, l), (2, 15 + l), (2, 15 + (l + 1)), (0, a), (0, b), (9, 0), (9, 0)] [] h0 Q := by
  have hp := row_IA (i := l) hl0 (by omega)
  have hq := row_IA (i := l + 1) (by omega) (by omega)
  refine vX1_show_0 ⟨fun c => by omega, fun c => ⟨fun c1 => ⟨hl0, by omega, fun c2 => ?_, fun c2 => ?_⟩, fun c1 => by omega⟩⟩
  · have key : ∀ (d : Nat) (i : Int) (h : HP), b - i < d → a ≤ i → i ≤ b → (∀ k t, ¬ (k = 15 + (l + 1) ∧ a ≤ t ∧ t < i) → h k t = h0 k t) → (∀ t, a ≤ t → t < i → h (15 + (l + 1)) t = lz (h0 10 l) (h0 11 l) (h0 (15 + l)) a b t) →
        Wd mX1_show X 46 [(2, 2), (0, l), (2, 15 + l), (2, 15 + (l + 1)), (0, a), (0, b), (0, h0 11 l), (0, i)] [] h Q := by
      intro d
      induction d with
      | zero => intro i h q1 q2 q3; omega
      | succ d ih =>
        intro i h hd hi1 hi2 hf hc
        have hpv : ∀ t, h (15 + l) t = h0 (15 + l) t := fun t => hf _ t (by omega)
        have hk : h 10 l = h0 10 l := hf 10 l (by omega)
        refine vX1_show_46 ⟨fun c3 => ?_, fun c3 => ?_⟩
        · have e : i = b := by omega
          subst e
          exact H h hf hc
        · have hib : i < b := by omega
          have hvi := hv i hi1 hib
          have go : ∀ h2 : HP, h2 = h → ∀ v, v = lz (h0 10 l) (h0 11 l) (h0 (15 + l)) a b i → inI (i + 1) ∧ Wd mX1_show X 46 [(2, 2), (0, l), (2, 15 + l), (2, 15 + (l + 1)), (0, a), (0, b), (0, h0 11 l), (0, i + 1)] [] (xu h2 (15 + (l + 1)) i v) Q := by
            intro h2 e2 v ev
            subst e2
            refine ⟨by omega, ih (i + 1) _ (by omega) (by omega) (by omega) (fun k t z => by rw [xu_ne (by omega)]; exact hf k t (by omega)) (fun t z1 z2 => ?_)⟩
            by_cases et : t = i
            · rw [xu_eq rfl et, et, ev]
            · rw [xu_ne (by omega)]; exact hc t z1 (by omega)
          rw [hk]
          refine ⟨hl0, by omega, fun c4 => ?_, fun c4 => ?_, fun c4 => ?_, fun c4 => ?_, fun c4 => ?_⟩
          · exfalso
            rcases hlo with z | z | z | z | z <;> omega
          · have hn : 0 ≤ h0 11 l ∧ h0 11 l ≤ 9999 := by rcases hlo with z | z | z | z | z <;> omega
            refine ⟨by omega, hp, by omega, by omega, ?_⟩
            rw [hpv i]
            refine p_min (p_max ⟨hq, go h rfl _ ?_⟩)
            unfold lz
            rw [if_neg (by omega), if_pos c4]
            by_cases e1 : h0 (15 + l) i < -h0 11 l
            · rw [if_pos e1]; omega
            · rw [if_neg e1]
              by_cases e2 : h0 11 l < h0 (15 + l) i
              · rw [if_pos e2]; omega
              · rw [if_neg e2]; omega
          · rw [hpv i]
            refine ⟨hp, by omega, by omega, by omega, hq, go h rfl _ ?_⟩
            unfold lz
            rw [if_neg (by omega), if_neg (by omega), if_pos c4]
          · have hn : 1 ≤ h0 11 l ∧ h0 11 l ≤ 30 := by rcases hlo with z | z | z | z | z <;> omega
            rw [hpv i]
            have e1 : -(30 * 269973) ≤ h0 (15 + l) i * h0 11 l := by
              have q1 : -269973 * h0 11 l ≤ h0 (15 + l) i * h0 11 l := Int.mul_le_mul_of_nonneg_right hvi.1 (by omega)
              omega
            have e2 : h0 (15 + l) i * h0 11 l ≤ 30 * 269973 := by
              have q1 : h0 (15 + l) i * h0 11 l ≤ 269973 * h0 11 l := Int.mul_le_mul_of_nonneg_right hvi.2 (by omega)
              omega
            refine ⟨hp, by omega, by omega, by omega, ?_⟩
            refine p_fdI (by omega) (by omega) (by omega) ⟨hq, go h rfl _ ?_⟩
            unfold lz
            rw [if_neg (by omega), if_neg (by omega), if_neg (by omega), if_pos c4]
          · have hn : 1 ≤ h0 11 l ∧ h0 11 l ≤ 9 := by rcases hlo with z | z | z | z | z <;> omega
            refine ⟨by omega, fun c5 => ?_, fun c5 => ?_⟩
            · have hv2 := hv (i - h0 11 l) (by omega) (by omega)
              rw [hpv i, hpv (i - h0 11 l)]
              refine ⟨hp, by omega, by omega, by omega, by omega, by omega, by omega, hq, go h rfl _ ?_⟩
              unfold lz
              rw [if_neg (by omega), if_neg (by omega), if_neg (by omega), if_neg (by omega), if_neg (by omega)]
            · refine ⟨hq, by omega, by omega, go h rfl _ ?_⟩
              unfold lz
              rw [if_neg (by omega), if_neg (by omega), if_neg (by omega), if_neg (by omega), if_pos (by omega)]
    exact key (b - a + 1).toNat a h0 (by omega) (Int.le_refl a) hab (fun k t _ => rfl) (fun t z1 z2 => by omega)
  · have hn : 1 ≤ h0 11 l ∧ h0 11 l ≤ 5 := by rcases hlo with z | z | z | z | z <;> omega
    refine p_showMean hp hq (by omega) ha hab hb hn.1 hn.2 hv (fun h' g1 g2 => H h' g1 (fun i z1 z2 => ?_))
    rw [g2 i z1 z2]
    unfold lz
    rw [if_pos c2]
def CIn (I : IN) (h : HP) : Prop := h 3 2 = iN I ∧ (∀ i, 0 ≤ i → i < iN I → h 12 i = iR I i) ∧ (∀ j, 0 ≤ j → j < 4 → h 9 j = iS I j) ∧ (h 1 1 = iS I 4 ∧ h 1 2 = iS I 5 ∧ h 1 3 = iS I 6 ∧ h 1 4 = iS I 7) ∧ h 2 2 = iL I ∧ ∀ l, 0 ≤ l → l < iL I → h 10 l = iK I l ∧ h 11 l = iB I l
theorem p_endOf6 {X : Nat × (Int → Int)} {h : HP} {Q : Int → HP → Prop} {I : IN} (hI : OKI I) (hS : CS I h) {s : Int} (h0 : 0 ≤ s) (h1 : s < nS I) (H : Q (en9 I s) h) : Wd mX6_endOf X 0 [(2, 4), (0, s)] [] h Q := by
  have hns := nS_le hI
  obtain ⟨g1, g2, g3, g4, g5, g6, g7⟩ := SG_at hI.1.1 h0 h1
  obtain ⟨e1, e2⟩ := hS.2.2 s h0 h1
  have hN := hI.1
  refine vX6_endOf_0 ⟨h0, by omega, by omega, ?_⟩
  rw [e1, e2, show fr9 I s + (en9 I s - fr9 I s) = en9 I s by omega]
  exact H
/-- the class's rows, lens by lens -/
def CV (I : IN) (h : HP) : Prop := (∀ (l : Nat), (l : Int) ≤ iL I → ∀ k, 0 ≤ k → k < iN I → ¬ mM I k = -32768 → h (15 + (l : Int)) k = V I l k) ∧ h 4 1 = 15 + iL I
theorem p_lookThrough {X : Nat × (Int → Int)} {h0 : HP} {Q : Int → HP → Prop} {I : IN} (hI : OKI I) (hC : CIn I h0) (hS : CS I h0) (hV : ∀ k, 0 ≤ k → k < iN I → ¬ mM I k = -32768 → h0 15 k = mM I k)
    (H : ∀ h' : HP, (∀ k i, ¬ ((15 < k ∧ k < 20) ∨ (k = 4 ∧ i = 1)) → h' k i = h0 k i) → CV I h' → Q 0 h') :
    Wd mX6_lookThrough X 0 [(2, 4), (2, 2), (9, 0), (9, 0)] [] h0 Q := by
  have hN := hI.1
  have hLl := hI.2.2.2.2.2.2.2.2.2.2.1
  have hns := nS_le hI
  refine vX6_lookThrough_0 ?_
  have key : ∀ (d : Nat) (l : Nat) (h : HP), iL I - l < d → (l : Int) ≤ iL I → (∀ k i, ¬ (15 < k ∧ k < 20) → h k i = h0 k i) → (∀ (t : Nat), t ≤ l → ∀ k, 0 ≤ k → k < iN I → ¬ mM I k = -32768 → h (15 + (t : Int)) k = V I t k) → Wd mX6_lookThrough X 2 [(2, 4), (2, 2), (0, (l : Int)), (9, 0)] [] h Q := by
    intro d
    induction d with
    | zero => intro l h q1 q2; omega
    | succ d ih =>
      intro l h hd hl hf hv
      have e22 : h 2 2 = iL I := by rw [hf 2 2 (by omega)]; exact hC.2.2.2.2.1
      have hSh : CS I h := ⟨by rw [hf 4 6 (by omega)]; exact hS.1, fun k q1 q2 => by rw [hf 20 k (by omega)]; exact hS.2.1 k q1 q2, fun s q1 q2 => by rw [hf 21 s (by omega), hf 22 s (by omega)]; exact hS.2.2 s q1 q2⟩
      refine vX6_lookThrough_2 ⟨fun c => ⟨by omega, by omega, by omega, ?_⟩, fun c => ?_⟩
      · have e : (l : Int) = iL I := by omega
        rw [e22]
        refine H _ (fun k i q => by rw [xu_ne (by omega)]; exact hf k i (by omega)) ⟨fun t ht k q1 q2 q3 => by rw [xu_ne (by omega)]; exact hv t (by omega) k q1 q2 q3, xu_eq rfl rfl⟩
      · -- stretch by stretch
        have hll : (l : Int) < iL I := by omega
        have hkb := hC.2.2.2.2.2 (l : Int) (by omega) hll
        have hlo := hI.2.2.2.2.2.2.2.2.2.2.2 (l : Int) (by omega) hll
        have L12 : ∀ (d2 : Nat) (s : Int) (h2 : HP), nS I - s < d2 → 0 ≤ s → s ≤ nS I → (∀ k i, ¬ (15 < k ∧ k < 20) → h2 k i = h0 k i) → (∀ (t : Nat), t ≤ l → ∀ k, 0 ≤ k → k < iN I → ¬ mM I k = -32768 → h2 (15 + (t : Int)) k = V I t k) → (∀ k, 0 ≤ k → k < iN I → ¬ mM I k = -32768 → sO I k < s → h2 (15 + ((l : Int) + 1)) k = V I (l + 1) k) → Wd mX6_lookThrough X 12 [(2, 4), (2, 2), (0, (l : Int)), (0, s)] [] h2 Q := by
          intro d2
          induction d2 with
          | zero => intro s h2 q1 q2 q3; omega
          | succ d2 ih2 =>
            intro s h2 hd2 hs0 hs1 hf2 hv2 hw2
            have hSh2 : CS I h2 := ⟨by rw [hf2 4 6 (by omega)]; exact hS.1, fun k q1 q2 => by rw [hf2 20 k (by omega)]; exact hS.2.1 k q1 q2, fun s q1 q2 => by rw [hf2 21 s (by omega), hf2 22 s (by omega)]; exact hS.2.2 s q1 q2⟩
            have e46 : h2 4 6 = nS I := hSh2.1
            refine vX6_lookThrough_12 ⟨fun c2 => ⟨by omega, ?_⟩, fun c2 => ?_⟩
            · have := ih (l + 1) h2 (by omega) (by omega) hf2 (fun t ht k q1 q2 q3 => ?_)
              · rw [show (((l + 1 : Nat)) : Int) = (l : Int) + 1 by omega] at this
                exact this
              · by_cases e : t = l + 1
                · subst e
                  have hso := SG_of q1 q2 q3
                  rw [show (15 : Int) + ((l + 1 : Nat) : Int) = 15 + ((l : Int) + 1) by omega]
                  exact hw2 k q1 q2 q3 (by omega)
                · exact hv2 t (by omega) k q1 q2 q3
            · have hs2 : s < nS I := by omega
              have hg := SG_at hN.1 hs0 hs2
              have hg' := hg
              obtain ⟨g1, g2, g3, g4, g5, g6, g7⟩ := hg
              refine ⟨by omega, by omega, by omega, by omega, by omega, hs0, by omega, ?_⟩
              refine p_endOf6 hI hSh2 hs0 hs2 ?_
              rw [(hSh2.2.2 s hs0 hs2).1]
              have e10 : h2 10 (l : Int) = iK I l := by rw [hf2 10 l (by omega)]; exact hkb.1
              have e11 : h2 11 (l : Int) = iB I l := by rw [hf2 11 l (by omega)]; exact hkb.2
              have e22' : h2 2 2 = iL I := by rw [hf2 2 2 (by omega)]; exact hC.2.2.2.2.1
              refine p_show (by omega) (by omega) (by omega) g1 (by omega) (by omega) (by rw [e10, e11]; exact hlo) (fun j z1 z2 => ?_) (fun h3 g8 g9 => ⟨by omega, ?_⟩)
              · rw [hv2 l (Nat.le_refl l) j (by omega) (by omega) (g6 j z1 z2)]
                have := V_in hI l (by omega) j (by omega) (by omega) (g6 j z1 z2)
                have := bd_le3 l (by omega)
                omega
              · refine ih2 (s + 1) h3 (by omega) (by omega) (by omega) (fun k i q => by rw [g8 k i (by omega)]; exact hf2 k i q) (fun t ht k q1 q2 q3 => by rw [g8 _ k (by omega)]; exact hv2 t ht k q1 q2 q3) (fun k q1 q2 q3 q4 => ?_)
                by_cases e : sO I k = s
                · have hso := SG_of q1 q2 q3
                  rw [e] at hso
                  have := g9 k hso.2.2.2.1 hso.2.2.2.2
                  rw [this, e10, e11]
                  show _ = lz (iK I l) (iB I l) (V I l) (fr9 I (sO I k)) (en9 I (sO I k)) k
                  rw [e]
                  exact lz_congr hso.2.2.2.1 hso.2.2.2.2 (by rcases hlo with z | z | z | z | z <;> omega) (fun j z1 z2 => hv2 l (Nat.le_refl l) j (by omega) (by omega) (g6 j z1 z2))
                · rw [g8 _ k (fun z => ?_)]
                  · exact hw2 k q1 q2 q3 (by omega)
                  · exact e (SG_sO hg' z.2.1 z.2.2)
        exact L12 (nS I + 1).toNat 0 h (by omega) (by omega) (by omega) hf hv (fun k q1 q2 q3 q4 => by have := (SG_of q1 q2 q3).1; omega)
  have := key (iL I + 1).toNat 0 h0 (by omega) (by omega) (fun k i _ => rfl) (fun t ht k q1 q2 q3 => by
    have : t = 0 := by omega
    subst this
    exact hV k q1 q2 q3)
  exact this

/-! levels -/
def MID (f : Int → Int) (a b v : Int) : Prop := (∃ k, a ≤ k ∧ k < b ∧ f k = v) ∧ C (fun i => f i < v) a b ≤ (b - a - 1) / 2 ∧ (b - a - 1) / 2 < C (fun i => f i ≤ v) a b
theorem MID_unique {f : Int → Int} {a b v w : Int} (h1 : MID f a b v) (h2 : MID f a b w) : v = w := by
  rcases Int.lt_trichotomy v w with e | e | e
  · have := C_le (p := fun i => f i ≤ v) (q := fun i => f i < w) (a := a) (b := b) (fun i _ _ z => by have z : f i ≤ v := z; show f i < w; omega)
    have := h1.2.2
    have := h2.2.1
    omega
  · exact e
  · have := C_le (p := fun i => f i ≤ w) (q := fun i => f i < v) (a := a) (b := b) (fun i _ _ z => by have z : f i ≤ w := z; show f i < v; omega)
    have := h2.2.2
    have := h1.2.1
    omega
theorem MID_congr {f g : Int → Int} {a b v : Int} (h : ∀ i, a ≤ i → i < b → f i = g i) (h1 : MID f a b v) : MID g a b v := by
  obtain ⟨⟨k, q1, q2, q3⟩, h2, h3⟩ := h1
  refine ⟨⟨k, q1, q2, by rw [← h k q1 q2]; exact q3⟩, ?_, ?_⟩
  · rw [← C_congr (p := fun i => f i < v) (q := fun i => g i < v) (fun i z1 z2 => by rw [h i z1 z2])]; exact h2
  · rw [← C_congr (p := fun i => f i ≤ v) (q := fun i => g i ≤ v) (fun i z1 z2 => by rw [h i z1 z2])]; exact h3
theorem MID_ex {f : Int → Int} {a b B : Int} (hab : a < b) (hB : 0 ≤ B) (h : ∀ i, a ≤ i → i < b → -B ≤ f i ∧ f i ≤ B) : ∃ v, MID f a b v := by
  -- the first number that enough are not above
  have key : ∀ n : Nat, (b - a - 1) / 2 < C (fun i => f i ≤ -B - 1 + n) a b → ∃ t, C (fun i => f i ≤ t - 1) a b ≤ (b - a - 1) / 2 ∧ (b - a - 1) / 2 < C (fun i => f i ≤ t) a b := by
    intro n
    induction n with
    | zero =>
      intro q
      have : C (fun i => f i ≤ -B - 1 + ((0 : Nat) : Int)) a b = 0 := C_zero (fun i z1 z2 z3 => by
        have := h i z1 z2
        have z3 : f i ≤ -B - 1 + ((0 : Nat) : Int) := z3
        omega)
      omega
    | succ n ih =>
      intro q
      by_cases e : (b - a - 1) / 2 < C (fun i => f i ≤ -B - 1 + n) a b
      · exact ih e
      · refine ⟨-B - 1 + ((n + 1 : Nat) : Int), ?_, q⟩
        rw [show -B - 1 + ((n + 1 : Nat) : Int) - 1 = -B - 1 + n by omega]
        omega
  obtain ⟨t, q1, q2⟩ := key (2 * B + 1).toNat (by
    rw [C_all (by omega) (fun i z1 z2 => by have := h i z1 z2; show f i ≤ _; omega)]
    omega)
  refine ⟨t, ?_, ?_, q2⟩
  · rcases Classical.em (∃ k, a ≤ k ∧ k < b ∧ f k = t) with z | z
    · exact z
    · exfalso
      have := C_congr (p := fun i => f i ≤ t) (q := fun i => f i ≤ t - 1) (a := a) (b := b) (fun i z1 z2 => by
        have : ¬ f i = t := fun y => z ⟨i, z1, z2, y⟩
        show f i ≤ t ↔ f i ≤ t - 1
        omega)
      omega
  · rw [C_congr (p := fun i => f i < t) (q := fun i => f i ≤ t - 1) (fun i z1 z2 => by show f i < t ↔ f i ≤ t - 1; omega)]
    exact q1
noncomputable def sn (I : IN) : Int → Int := V I (iL I).toNat
noncomputable def LV (I : IN) (s : Int) : Int := if iS I 4 = 0 then iS I 5 else if iS I 4 = 2 then Classical.epsilon (MID (sn I) (fr9 I s) (en9 I s)) else S (sn I) (fr9 I s) (en9 I s) / (en9 I s - fr9 I s)
theorem sn_in {I : IN} (hI : OKI I) {k : Int} (h0 : 0 ≤ k) (h1 : k < iN I) (hk : ¬ mM I k = -32768) : -809919 ≤ sn I k ∧ sn I k ≤ 809919 := by
  have hL := hI.2.2.2.2.2.2.2.2.2.2.1
  have h2 := V_in hI (iL I).toNat (by omega) k h0 h1 hk
  have h3 := bd_le (iL I).toNat (by omega)
  unfold sn
  omega
theorem sn_seg {I : IN} (hI : OKI I) {s : Int} (h0 : 0 ≤ s) (h1 : s < nS I) : ∀ k, fr9 I s ≤ k → k < en9 I s → -809919 ≤ sn I k ∧ sn I k ≤ 809919 := fun k q1 q2 => by
  obtain ⟨g1, g2, g3, g4, g5, g6, g7⟩ := SG_at hI.1.1 h0 h1
  exact sn_in hI (by omega) (by omega) (g6 k q1 q2)
theorem LV_mid {I : IN} {s v : Int} (h4 : iS I 4 = 2) (h : MID (sn I) (fr9 I s) (en9 I s) v) : LV I s = v := by
  unfold LV
  rw [if_neg (by omega), if_pos h4]
  exact MID_unique (Classical.epsilon_spec (p := MID (sn I) (fr9 I s) (en9 I s)) ⟨v, h⟩) h
theorem LV_in {I : IN} (hI : OKI I) {s : Int} (h0 : 0 ≤ s) (h1 : s < nS I) : -809919 ≤ LV I s ∧ LV I s ≤ 809919 := by
  obtain ⟨g1, g2, g3, g4, g5, g6, g7⟩ := SG_at hI.1.1 h0 h1
  have hb := sn_seg hI h0 h1
  by_cases e0 : iS I 4 = 0
  · have := hI.2.2.2.2.2.2.2.1
    unfold LV
    rw [if_pos e0]; omega
  · by_cases e2 : iS I 4 = 2
    · obtain ⟨v, hv⟩ := MID_ex g2 (show (0 : Int) ≤ 809919 by omega) hb
      rw [LV_mid e2 hv]
      obtain ⟨⟨k, q1, q2, q3⟩, -⟩ := hv
      rw [← q3]; exact hb k q1 q2
    · unfold LV
      rw [if_neg e0, if_neg e2]
      have := avg_in (f := sn I) g2 (show (0 : Int) ≤ 809919 by omega) hb
      exact ⟨this.2.2.1, this.2.2.2⟩
theorem S_seg {f : Int → Int} {a b B : Int} (ha : 0 ≤ a) (hab : a ≤ b) (hb : b ≤ 600) (hB : B = 809919) (h : ∀ i, a ≤ i → i < b → -B ≤ f i ∧ f i ≤ B) : -500000000 ≤ S f a b ∧ S f a b ≤ 500000000 := by
  have := S_bound (f := f) (lo := -809919) (hi := 809919) hab (fun i q1 q2 => by have := h i q1 q2; omega)
  omega
theorem tdiv2 {m : Int} (h : 1 ≤ m) : Int.tdiv (m - 1) 2 = (m - 1) / 2 := Int.tdiv_eq_ediv_of_nonneg (by omega)
/-! the class -/
theorem p_meanOf {X : Nat × (Int → Int)} {h : HP} {Q : Int → HP → Prop} {I : IN} (hI : OKI I) (hS : CS I h) (hp : IA (h 4 1) 600) {s : Int} (h0 : 0 ≤ s) (h1 : s < nS I) (hv : ∀ k, fr9 I s ≤ k → k < en9 I s → h (h 4 1) k = sn I k) (H : Q (S (sn I) (fr9 I s) (en9 I s) / (en9 I s - fr9 I s)) h) : Wd mX6_meanOf X 0 [(2, 4), (0, s), (9, 0), (9, 0), (9, 0), (9, 0)] [] h Q := by
  have hN := hI.1
  have hns := nS_le hI
  obtain ⟨g1, g2, g3, g4, g5, g6, g7⟩ := SG_at hI.1.1 h0 h1
  have hb := sn_seg hI h0 h1
  obtain ⟨e1, e2⟩ := hS.2.2 s h0 h1
  refine vX6_meanOf_0 (p_endOf6 hI hS h0 h1 ⟨h0, by omega, ?_⟩)
  rw [e1]
  have key : ∀ (d : Nat) (x : Int), en9 I s - x < d → fr9 I s ≤ x → x ≤ en9 I s → Wd mX6_meanOf X 17 [(2, 4), (0, s), (1, S (sn I) (fr9 I s) x), (9, 0), (0, en9 I s), (0, x)] [] h Q := by
    intro d
    induction d with
    | zero => intro x q1 q2 q3; omega
    | succ d ih =>
      intro x q1 q2 q3
      have sb := S_seg (f := sn I) g1 q2 (show x ≤ 600 by omega) rfl (fun i z1 z2 => hb i z1 (by omega))
      refine vX6_meanOf_17 ⟨fun c => ⟨h0, by omega, ?_⟩, fun c => ?_⟩
      · rw [e2, show x = en9 I s by omega]
        have av := avg_in (f := sn I) g2 (show (0 : Int) ≤ 809919 by omega) hb
        have sb2 := S_seg (f := sn I) g1 (show fr9 I s ≤ en9 I s by omega) (show en9 I s ≤ 600 by omega) rfl hb
        exact p_meanDown (by omega) (by omega) (by omega) (by omega) (by omega) H
      · rw [hv x q2 (by omega)]
        have := hb x q2 (by omega)
        refine ⟨hp, by omega, by omega, by omega, by omega, ?_⟩
        rw [← S_succ q2]
        exact ih (x + 1) (by omega) (by omega) (by omega)
  have := key (en9 I s - fr9 I s + 1).toNat (fr9 I s) (by omega) (Int.le_refl _) (by omega)
  rw [S_nil (Int.le_refl _)] at this
  exact this
theorem C_shift {p : Int → Prop} {a : Int} : ∀ m : Nat, C (fun i => p (a + i)) 0 m = C p a (a + m)
  | 0 => by rw [C_nil (by omega), C_nil (by omega)]
  | m + 1 => by
    have ih := C_shift (p := p) (a := a) m
    rw [show ((m + 1 : Nat) : Int) = (m : Int) + 1 by omega, show a + ((m : Int) + 1) = a + m + 1 by omega]
    by_cases hp : p (a + m)
    · rw [C_succ (p := fun i => p (a + i)) (by omega) hp, C_succ (by omega) hp, ih]
    · rw [C_skip (p := fun i => p (a + i)) (by omega) hp, C_skip (by omega) hp, ih]
theorem p_middleOf {X : Nat × (Int → Int)} {h00 : HP} {Q : Int → HP → Prop} {I : IN} (hI : OKI I) (hS : CS I h00) (hso : SO h00) (hp : IA (h00 4 1) 600) (hp2 : 15 ≤ h00 4 1 ∧ h00 4 1 < 20) {s : Int} (h0 : 0 ≤ s) (h1 : s < nS I) (hv : ∀ k, fr9 I s ≤ k → k < en9 I s → h00 (h00 4 1) k = sn I k)
    (H : ∀ (v : Int) (h' : HP), (∀ k i, ¬ (k = 39 ∨ k = 40 ∨ (k = 8 ∧ (i = 0 ∨ i = 1 ∨ i = 2))) → h' k i = h00 k i) → SO h' → MID (sn I) (fr9 I s) (en9 I s) v → Q v h') : Wd mX6_middleOf X 0 [(2, 4), (0, s), (2, 8), (9, 0), (9, 0)] [] h00 Q := by
  have hN := hI.1
  have hns := nS_le hI
  obtain ⟨g1, g2, g3, g4, g5, g6, g7⟩ := SG_at hI.1.1 h0 h1
  have hb := sn_seg hI h0 h1
  have e41' : h00 4 1 = h00 4 1 := rfl
  refine vX6_middleOf_0 (p_clear ?_)
  have kS : ∀ h : HP, (∀ k i, ¬ (k = 39 ∨ k = 40 ∨ (k = 8 ∧ (i = 0 ∨ i = 1 ∨ i = 2))) → h k i = h00 k i) → CS I h := fun h f => ⟨by rw [f 4 6 (by omega)]; exact hS.1, fun k q1 q2 => by rw [f 20 k (by omega)]; exact hS.2.1 k q1 q2, fun s q1 q2 => by rw [f 21 s (by omega), f 22 s (by omega)]; exact hS.2.2 s q1 q2⟩
  have f1 : ∀ k i, ¬ (k = 39 ∨ k = 40 ∨ (k = 8 ∧ (i = 0 ∨ i = 1 ∨ i = 2))) → (xu h00 8 2 0) k i = h00 k i := fun k i q => xu_ne (by omega)
  refine p_endOf6 hI (kS _ f1) h0 h1 ⟨h0, by omega, ?_⟩
  rw [((kS _ f1).2.2 s h0 h1).1]
  have key : ∀ (d : Nat) (x : Int) (h : HP), en9 I s - x < d → fr9 I s ≤ x → x ≤ en9 I s → (∀ k i, ¬ (k = 39 ∨ k = 40 ∨ (k = 8 ∧ (i = 0 ∨ i = 1 ∨ i = 2))) → h k i = h00 k i) → SO h → h 8 2 = x - fr9 I s → (∀ i, 0 ≤ i → i < x - fr9 I s → h (h 8 0) i = sn I (fr9 I s + i)) → Wd mX6_middleOf X 18 [(2, 4), (0, s), (2, 8), (0, en9 I s), (0, x)] [] h Q := by
    intro d
    induction d with
    | zero => intro x h q1 q2 q3; omega
    | succ d ih =>
      intro x h hd q2 q3 f hso2 h82 hk
      have e41 : h 4 1 = h00 4 1 := f 4 1 (by omega)
      refine vX6_middleOf_18 ⟨fun c => ?_, fun c => ?_⟩
      · have ex : x = en9 I s := by omega
        subst ex
        refine p_sort hso2 h82 (by omega) (by omega) (fun h' s1 s2 s3 s4 => ?_)
        have f2 : ∀ k i, ¬ (k = 39 ∨ k = 40 ∨ (k = 8 ∧ (i = 0 ∨ i = 1 ∨ i = 2))) → h' k i = h00 k i := fun k i q => by rw [s2 k i (by omega)]; exact f k i q
        have e22 := ((kS _ f2).2.2 s h0 h1).2
        have e82 : h' 8 2 = en9 I s - fr9 I s := by rw [s2 8 2 (by omega)]; exact h82
        rw [e22, tdiv2 (by omega)]
        refine ⟨h0, by omega, by omega, by omega, ?_⟩
        refine p_keyAt s1 (by omega) (by omega) (by omega) ?_
        -- what stands in the middle
        generalize hv' : h' (h' 8 0) ((en9 I s - fr9 I s - 1) / 2) = v
        have cnt : ∀ w, C (fun i => h' (h' 8 0) i < w) 0 (en9 I s - fr9 I s) = C (fun i => sn I i < w) (fr9 I s) (en9 I s) := fun w => by
          rw [s4 w, C_congr (p := fun i => h (h 8 0) i < w) (q := fun i => sn I (fr9 I s + i) < w) (fun i z1 z2 => by rw [hk i z1 z2])]
          have := C_shift (p := fun i => sn I i < w) (a := fr9 I s) (en9 I s - fr9 I s).toNat
          rw [show (((en9 I s - fr9 I s).toNat : Nat) : Int) = en9 I s - fr9 I s by omega, show fr9 I s + (en9 I s - fr9 I s) = en9 I s by omega] at this
          exact this
        have c1 : C (fun i => sn I i < v) (fr9 I s) (en9 I s) ≤ (en9 I s - fr9 I s - 1) / 2 := by
          rw [← cnt v, C_app (p := fun i => h' (h' 8 0) i < v) (a := 0) (b := (en9 I s - fr9 I s - 1) / 2) (by omega) (by omega)]
          have z1 := (C_bound (p := fun i => h' (h' 8 0) i < v) (a := 0) (b := (en9 I s - fr9 I s - 1) / 2) (by omega)).2
          have z2 : C (fun i => h' (h' 8 0) i < v) ((en9 I s - fr9 I s - 1) / 2) (en9 I s - fr9 I s) = 0 := C_zero (fun i y1 y2 y3 => by
            have := s3 ((en9 I s - fr9 I s - 1) / 2) i (by omega) y1 y2
            have y3 : h' (h' 8 0) i < v := y3
            omega)
          omega
        have c2 : (en9 I s - fr9 I s - 1) / 2 < C (fun i => sn I i ≤ v) (fr9 I s) (en9 I s) := by
          rw [C_congr (p := fun i => sn I i ≤ v) (q := fun i => sn I i < v + 1) (fun i _ _ => by show sn I i ≤ v ↔ sn I i < v + 1; omega), ← cnt (v + 1), C_app (p := fun i => h' (h' 8 0) i < v + 1) (a := 0) (b := (en9 I s - fr9 I s - 1) / 2 + 1) (by omega) (by omega)]
          have z1 : C (fun i => h' (h' 8 0) i < v + 1) 0 ((en9 I s - fr9 I s - 1) / 2 + 1) = (en9 I s - fr9 I s - 1) / 2 + 1 - 0 := C_all (by omega) (fun i y1 y2 => by
            have := s3 i ((en9 I s - fr9 I s - 1) / 2) y1 (by omega) (by omega)
            show h' (h' 8 0) i < v + 1
            omega)
          have z2 := (C_bound (p := fun i => h' (h' 8 0) i < v + 1) (a := (en9 I s - fr9 I s - 1) / 2 + 1) (b := en9 I s - fr9 I s) (by omega)).1
          omega
        have hmid : MID (sn I) (fr9 I s) (en9 I s) v := by
          refine ⟨?_, c1, c2⟩
          rcases Classical.em (∃ k, fr9 I s ≤ k ∧ k < en9 I s ∧ sn I k = v) with z | z
          · exact z
          · exfalso
            have := C_congr (p := fun i => sn I i ≤ v) (q := fun i => sn I i < v) (a := fr9 I s) (b := en9 I s) (fun i z1 z2 => by
              have : ¬ sn I i = v := fun y => z ⟨i, z1, z2, y⟩
              show sn I i ≤ v ↔ sn I i < v
              omega)
            omega
        refine ⟨?_, H v h' f2 s1 hmid⟩
        obtain ⟨⟨k, q1, q2, q3⟩, -⟩ := hmid
        have := hb k q1 q2
        omega
      · have hvx : h (h 4 1) x = sn I x := by
          rw [e41, f _ x (by omega)]; exact hv x q2 (by omega)
        have hK : h 8 0 = 39 ∨ h 8 0 = 40 := by rcases hso2 with ⟨a, b⟩ | ⟨a, b⟩ <;> omega
        rw [hvx]
        refine ⟨by rw [e41]; exact hp, by omega, by omega, ?_⟩
        refine p_add5 hso2 (by omega) (by omega) ⟨by omega, ?_⟩
        have e80 : (xu (xu h (h 8 0) (h 8 2) (sn I x)) 8 2 (h 8 2 + 1)) 8 0 = h 8 0 := by rw [xu_ne (by omega), xu_ne (by omega)]
        have e81 : (xu (xu h (h 8 0) (h 8 2) (sn I x)) 8 2 (h 8 2 + 1)) 8 1 = h 8 1 := by rw [xu_ne (by omega), xu_ne (by omega)]
        refine ih (x + 1) _ (by omega) (by omega) (by omega) (fun k i q => by rw [xu_ne (by omega), xu_ne (by omega)]; exact f k i q) ?_ (by rw [xu_eq rfl rfl]; omega) (fun i z1 z2 => ?_)
        · unfold SO
          rw [e80, e81]; exact hso2
        · rw [e80]
          by_cases e : i = x - fr9 I s
          · rw [xu_ne (by omega), xu_eq rfl (by omega), e, show fr9 I s + (x - fr9 I s) = x by omega]
          · rw [xu_ne (by omega), xu_ne (by omega)]; exact hk i z1 (by omega)
  exact key (en9 I s - fr9 I s + 1).toNat (fr9 I s) _ (by omega) (Int.le_refl _) (by omega) f1 (by unfold SO; rw [xu_ne (by omega), xu_ne (by omega)]; exact hso) (by rw [xu_eq rfl rfl]; omega) (fun i z1 z2 => by omega)
theorem CV_sn {I : IN} (hI : OKI I) {h : HP} (hV : CV I h) : IA (h 4 1) 600 ∧ (15 ≤ h 4 1 ∧ h 4 1 < 20) ∧ ∀ k, 0 ≤ k → k < iN I → ¬ mM I k = -32768 → h (h 4 1) k = sn I k := by
  have hL := hI.2.2.2.2.2.2.2.2.2.2.1
  have e := hV.2
  refine ⟨by rw [e]; exact row_IA hL.1 (by omega), by omega, fun k q1 q2 q3 => ?_⟩
  have := hV.1 (iL I).toNat (by omega) k q1 q2 q3
  rw [show (((iL I).toNat : Nat) : Int) = iL I by omega] at this
  rw [e]; exact this
theorem p_findLevels {X : Nat × (Int → Int)} {h0 : HP} {Q : Int → HP → Prop} {I : IN} (hI : OKI I) (hC : CIn I h0) (hS : CS I h0) (hso : SO h0) (hV : CV I h0)
    (H : ∀ h' : HP, (∀ k i, ¬ (k = 23 ∨ k = 39 ∨ k = 40 ∨ (k = 8 ∧ (i = 0 ∨ i = 1 ∨ i = 2))) → h' k i = h0 k i) → SO h' → (∀ s, 0 ≤ s → s < nS I → h' 23 s = LV I s) → Q 0 h') : Wd mX6_findLevels X 0 [(2, 4), (2, 1), (2, 8), (9, 0)] [] h0 Q := by
  have hN := hI.1
  have hns := nS_le hI
  obtain ⟨hp, hp2, hsn⟩ := CV_sn hI hV
  refine vX6_findLevels_0 ?_
  have key : ∀ (d : Nat) (s : Int) (h : HP), nS I - s < d → 0 ≤ s → s ≤ nS I → (∀ k i, ¬ (k = 23 ∨ k = 39 ∨ k = 40 ∨ (k = 8 ∧ (i = 0 ∨ i = 1 ∨ i = 2))) → h k i = h0 k i) → SO h → (∀ t, 0 ≤ t → t < s → h 23 t = LV I t) → Wd mX6_findLevels X 2 [(2, 4), (2, 1), (2, 8), (0, s)] [] h Q := by
    intro d
    induction d with
    | zero => intro s h q1 q2 q3; omega
    | succ d ih =>
      intro s h hd hs0 hs1 f hso2 hl
      have hSh : CS I h := ⟨by rw [f 4 6 (by omega)]; exact hS.1, fun k q1 q2 => by rw [f 20 k (by omega)]; exact hS.2.1 k q1 q2, fun s q1 q2 => by rw [f 21 s (by omega), f 22 s (by omega)]; exact hS.2.2 s q1 q2⟩
      have e11 : h 1 1 = iS I 4 := by rw [f 1 1 (by omega)]; exact hC.2.2.2.1.1
      have e12 : h 1 2 = iS I 5 := by rw [f 1 2 (by omega)]; exact hC.2.2.2.1.2.1
      have e41 : h 4 1 = h0 4 1 := f 4 1 (by omega)
      have e46 := hSh.1
      refine vX6_findLevels_2 ⟨fun c => ?_, fun c => ?_⟩
      · exact H h f hso2 (fun t q1 q2 => hl t q1 (by omega))
      · have hs2 : s < nS I := by omega
        obtain ⟨g1, g2, g3, g4, g5, g6, g7⟩ := SG_at hI.1.1 hs0 hs2
        have hvv : ∀ k, fr9 I s ≤ k → k < en9 I s → h (h 4 1) k = sn I k := fun k q1 q2 => by
          rw [e41, f _ k (by omega)]
          exact hsn k (by omega) (by omega) (g6 k q1 q2)
        have hpp : IA (h 4 1) 600 := by rw [e41]; exact hp
        have go : ∀ (v : Int) (h2 : HP), v = LV I s → (∀ k i, ¬ (k = 39 ∨ k = 40 ∨ (k = 8 ∧ (i = 0 ∨ i = 1 ∨ i = 2))) → h2 k i = h k i) → SO h2 → 0 ≤ s ∧ s < 300 ∧ inI (s + 1) ∧ Wd mX6_findLevels X 2 [(2, 4), (2, 1), (2, 8), (0, s + 1)] [] (xu h2 23 s v) Q := fun v h2 ev f2 s2 => by
          refine ⟨hs0, by omega, by omega, ih (s + 1) _ (by omega) (by omega) (by omega) (fun k i q => by rw [xu_ne (by omega), f2 k i (by omega)]; exact f k i q) (by unfold SO; rw [xu_ne (by omega), xu_ne (by omega)]; exact s2) (fun t z1 z2 => ?_)⟩
          by_cases e : t = s
          · rw [xu_eq rfl e, e, ev]
          · rw [xu_ne (by omega), f2 23 t (by omega)]; exact hl t z1 (by omega)
        rw [e11, e12]
        have h4 := hI.2.2.2.2.2.2.1
        refine ⟨fun c1 => go _ h ?_ (fun k i _ => rfl) hso2, fun c1 => ?_, fun c1 => ?_⟩
        · unfold LV; rw [if_pos (by omega)]
        · refine p_meanOf hI hSh hpp hs0 hs2 hvv (go _ h ?_ (fun k i _ => rfl) hso2)
          unfold LV; rw [if_neg (by omega), if_neg (by omega)]
        · refine p_middleOf hI hSh hso2 hpp (by rw [e41]; exact hp2) hs0 hs2 hvv (fun v h' z1 z2 z3 => go v h' ?_ z1 z2)
          exact (LV_mid c1 z3).symm
  exact key (nS I + 1).toNat 0 h0 (by omega) (by omega) (by omega) (fun k i _ => rfl) hso (fun t q1 q2 => by omega)
/-! the model -/
theorem p_fewer {X : Nat × (Int → Int)} {h : HP} {Q : Int → HP → Prop} {I : IN} (hI : OKI I) (hM : MS I h) {s v lk : Int} (h0 : 0 ≤ s) (h1 : s < nS I) (he : h 41 14 = en9 I s) (hv : ∀ k, fr9 I s ≤ k → k < en9 I s → h 50 k = sn I k) (H0 : lk = 0 → Q (C (fun i => sn I i < v) (fr9 I s) (en9 I s)) h) (H1 : ¬ lk = 0 → Q (C (fun i => sn I i ≤ v) (fr9 I s) (en9 I s)) h) : Wd mX9_fewer X 0 [(2, 41), (0, s), (0, v), (0, lk), (9, 0), (9, 0)] [] h Q := by
  have hN := hI.1
  have hns := nS_le hI
  obtain ⟨g1, g2, g3, g4, g5, g6, g7⟩ := SG_at hI.1.1 h0 h1
  refine vX9_fewer_0 ⟨h0, by omega, ?_⟩
  rw [MS_from hI hM h0 h1]
  have key : ∀ (d : Nat) (n x : Int), en9 I s - x < d → fr9 I s ≤ x → x ≤ en9 I s → (lk = 0 → n = C (fun i => sn I i < v) (fr9 I s) x) → (¬ lk = 0 → n = C (fun i => sn I i ≤ v) (fr9 I s) x) → 0 ≤ n → n ≤ x - fr9 I s → Wd mX9_fewer X 11 [(2, 41), (9, 0), (0, v), (0, lk), (0, n), (0, x)] [] h Q := by
    intro d
    induction d with
    | zero => intro n x q1 q2 q3; omega
    | succ d ih =>
      intro n x hd q2 q3 n0 n1 b0 b1
      refine vX9_fewer_11 ⟨fun c => ?_, fun c => ?_⟩
      · have e : x = en9 I s := by omega
        subst e
        by_cases z : lk = 0
        · rw [n0 z]; exact H0 z
        · rw [n1 z]; exact H1 z
      · rw [hv x q2 (by omega)]
        refine ⟨by omega, by omega, fun c1 => ⟨by omega, by omega, ?_⟩, fun c1 => ⟨fun c2 => ⟨by omega, by omega, ?_⟩, fun c2 => ⟨fun c3 => ⟨by omega, by omega, ?_⟩, fun c3 => ⟨by omega, by omega, ?_⟩⟩⟩⟩
        · refine ih (n + 1) (x + 1) (by omega) (by omega) (by omega) (fun z => ?_) (fun z => ?_) (by omega) (by omega)
          · rw [C_succ (p := fun i => sn I i < v) q2 c1, n0 z]
          · rw [C_succ (p := fun i => sn I i ≤ v) q2 (by show sn I x ≤ v; omega), n1 z]
        · refine ih (n + 0) (x + 1) (by omega) (by omega) (by omega) (fun z => ?_) (fun z => absurd c2 z) (by omega) (by omega)
          rw [C_skip (p := fun i => sn I i < v) q2 c1, n0 z]; omega
        · refine ih (n + 0) (x + 1) (by omega) (by omega) (by omega) (fun z => absurd z c2) (fun z => ?_) (by omega) (by omega)
          rw [C_skip (p := fun i => sn I i ≤ v) q2 (by show ¬ sn I x ≤ v; omega), n1 z]; omega
        · refine ih (n + 1) (x + 1) (by omega) (by omega) (by omega) (fun z => absurd z c2) (fun z => ?_) (by omega) (by omega)
          rw [C_succ (p := fun i => sn I i ≤ v) q2 (by show sn I x ≤ v; omega), n1 z]
  exact key (en9 I s - fr9 I s + 1).toNat 0 (fr9 I s) (by omega) (Int.le_refl _) (by omega) (fun _ => by rw [C_nil (Int.le_refl _)]) (fun _ => by rw [C_nil (Int.le_refl _)]) (by omega) (by omega)
theorem p_level9 {X : Nat × (Int → Int)} {h0 : HP} {Q : Int → HP → Prop} {I : IN} (hI : OKI I) (hMi : MIn I h0) (hM : MS I h0) (hV : ∀ k, 0 ≤ k → k < iN I → ¬ mM I k = -32768 → h0 50 k = sn I k) {s : Int} (hs0 : 0 ≤ s) (hs1 : s < nS I)
    (H : ∀ h' : HP, (∀ k i, ¬ (k = 41 ∧ i = 14) → h' k i = h0 k i) → Q (LV I s) h') : Wd mX9_level_ X 0 [(2, 41), (0, s), (9, 0), (9, 0), (9, 0), (9, 0)] [] h0 Q := by
  have hN := hI.1
  have hns := nS_le hI
  have h4 := hI.2.2.2.2.2.2.1
  obtain ⟨g1, g2, g3, g4, g5, g6, g7⟩ := SG_at hI.1.1 hs0 hs1
  have hb := sn_seg hI hs0 hs1
  have e4 := hMi.2.2.1 4 (by omega) (by omega)
  have e5 := hMi.2.2.1 5 (by omega) (by omega)
  refine vX9_level__0 ⟨fun c => ?_, fun c => ?_⟩
  · refine p_endOf9 hI hMi.1 hM hs0 hs1 ⟨hs0, by omega, ?_⟩
    rw [MS_from hI hM hs0 hs1]
    refine ⟨by omega, ?_⟩
    generalize hh : xu h0 41 14 (en9 I s) = h
    have f : ∀ k i, ¬ (k = 41 ∧ i = 14) → h k i = h0 k i := fun k i q => by rw [← hh]; exact xu_ne q
    have e14 : h 41 14 = en9 I s := by rw [← hh]; exact xu_eq rfl rfl
    have hMh : MS I h := ⟨fun k q1 q2 => by rw [f 47 k (by omega), f 48 k (by omega)]; exact hM.1 k q1 q2, by rw [f 41 12 (by omega)]; exact hM.2.1, fun a q1 q2 q3 => by rw [f 49 _ (by omega)]; exact hM.2.2.1 a q1 q2 q3, by rw [f 41 13 (by omega)]; exact hM.2.2.2⟩
    have hv : ∀ k, fr9 I s ≤ k → k < en9 I s → h 50 k = sn I k := fun k q1 q2 => by rw [f 50 k (by omega)]; exact hV k (by omega) (by omega) (g6 k q1 q2)
    have e43 : h 43 4 = iS I 4 := by rw [f 43 4 (by omega)]; exact e4
    have key : ∀ (d : Nat) (x : Int), en9 I s - x < d → fr9 I s ≤ x → x ≤ en9 I s → (iS I 4 = 2 → ∃ k, x ≤ k ∧ k < en9 I s ∧ MID (sn I) (fr9 I s) (en9 I s) (sn I k)) → Wd mX9_level_ X 47 [(2, 41), (0, s), (0, en9 I s - fr9 I s), (1, S (sn I) (fr9 I s) x), (9, 0), (0, x)] [] h Q := by
      intro d
      induction d with
      | zero => intro x q1 q2 q3; omega
      | succ d ih =>
        intro x hd q2 q3 hm
        have sb := S_seg (f := sn I) g1 q2 (show x ≤ 600 by omega) rfl (fun i z1 z2 => hb i z1 (by omega))
        refine vX9_level__47 ⟨fun c1 => ?_, fun c1 => ?_⟩
        · have ex : x = en9 I s := by omega
          rw [ex]
          have av := avg_in (f := sn I) g2 (show (0 : Int) ≤ 809919 by omega) hb
          have sb2 := S_seg (f := sn I) g1 (show fr9 I s ≤ en9 I s by omega) (show en9 I s ≤ 600 by omega) rfl hb
          have h42 : ¬ iS I 4 = 2 := fun z => by obtain ⟨k, y1, y2, -⟩ := hm z; omega
          refine p_down (by omega) (by omega) (by omega) ⟨by omega, ?_⟩
          have := H h f
          unfold LV at this
          rw [if_neg (by rw [← e4]; exact c), if_neg h42] at this
          exact this
        · rw [hv x q2 (by omega), e43, ← S_succ q2]
          have hbx := hb x q2 (by omega)
          have sb3 := S_seg (f := sn I) g1 (show fr9 I s ≤ x + 1 by omega) (show x + 1 ≤ 600 by omega) rfl (fun i z1 z2 => hb i z1 (by omega))
          refine ⟨by omega, by omega, by omega, fun c2 => ⟨by omega, ih (x + 1) (by omega) (by omega) (by omega) (fun z => absurd z c2)⟩, fun c2 => ?_⟩
          refine p_fewer hI hMh hs0 hs1 e14 hv (fun _ => ?_) (fun z => absurd rfl z)
          rw [tdiv2 (by omega)]
          have nx : ¬ MID (sn I) (fr9 I s) (en9 I s) (sn I x) → inI (x + 1) ∧ Wd mX9_level_ X 47 [(2, 41), (0, s), (0, en9 I s - fr9 I s), (1, S (sn I) (fr9 I s) (x + 1)), (9, 0), (0, x + 1)] [] h Q := fun z => by
            refine ⟨by omega, ih (x + 1) (by omega) (by omega) (by omega) (fun z2 => ?_)⟩
            obtain ⟨k, y1, y2, y3⟩ := hm z2
            refine ⟨k, ?_, y2, y3⟩
            by_cases e : k = x
            · rw [e] at y3; exact absurd y3 z
            · omega
          refine ⟨by omega, by omega, fun c3 => nx (fun z => ?_), fun c3 => ?_⟩
          · have := z.2.1; omega
          · rw [hv x q2 (by omega)]
            refine p_fewer hI hMh hs0 hs1 e14 hv (fun z => absurd z (by decide)) (fun _ => ⟨fun c4 => nx (fun z => ?_), fun c4 => ?_⟩)
            · have := z.2.2; omega
            · have hmid : MID (sn I) (fr9 I s) (en9 I s) (sn I x) := ⟨⟨x, q2, by omega, rfl⟩, by omega, by omega⟩
              have := H h f
              rw [LV_mid c2 hmid] at this
              rw [hv x q2 (by omega)]
              exact this
    have := key (en9 I s - fr9 I s + 1).toNat (fr9 I s) (by omega) (Int.le_refl _) (by omega) (fun z => by
      obtain ⟨v, hv2⟩ := MID_ex g2 (show (0 : Int) ≤ 809919 by omega) hb
      obtain ⟨⟨k, y1, y2, y3⟩, -⟩ := id hv2
      exact ⟨k, y1, y2, by rw [y3]; exact hv2⟩)
    rw [S_nil (Int.le_refl _)] at this
    exact this
  · have := H h0 (fun k i _ => rfl)
    unfold LV at this
    rw [if_pos (by rw [← e4]; exact c)] at this
    rw [e5]
    exact this

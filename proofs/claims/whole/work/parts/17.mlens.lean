/-! the model's lenses -/
theorem p_mean9 {X : Nat × (Int → Int)} {h : HP} {Q : Int → HP → Prop} {I : IN} (hI : OKI I) (hn : h 41 5 = iN I) (hM : MS I h) {k n : Int} (h0 : 0 ≤ k) (h1 : k < iN I) (hk : ¬ mM I k = -32768) (hn1 : 1 ≤ n) (hn2 : n ≤ 5) (hv : ∀ j, fr9 I (sO I k) ≤ j → j < en9 I (sO I k) → -269973 ≤ h 51 j ∧ h 51 j ≤ 269973)
    (H : Q (S (h 51) (max (fr9 I (sO I k)) (k - n)) (min (en9 I (sO I k)) (k + n + 1)) / (min (en9 I (sO I k)) (k + n + 1) - max (fr9 I (sO I k)) (k - n))) h) : Wd mX9_mean X 0 [(2, 41), (0, k), (0, n), (9, 0), (9, 0), (9, 0), (9, 0)] [] h Q := by
  have hN := hI.1
  obtain ⟨a1, a2, hg, a4, a5⟩ := SG_of h0 h1 hk
  have hg' := hg
  obtain ⟨g1, g2, g3, g4, g5, g6, g7⟩ := hg
  generalize fr9 I (sO I k) = a at *
  generalize en9 I (sO I k) = b at *
  have sb : ∀ r, max a (k - n) ≤ r → r ≤ min b (k + n + 1) → -200000000 ≤ S (h 51) (max a (k - n)) r ∧ S (h 51) (max a (k - n)) r ≤ 200000000 := fun r q1 q2 => by
    have := S_bound (f := h 51) (lo := -269973) (hi := 269973) q1 (fun j z1 z2 => hv j (by omega) (by omega))
    omega
  refine vX9_mean_0 ⟨by omega, ?_⟩
  have key : ∀ (d : Nat) (i : Int), k + n + 1 - i < d → k - n ≤ i → i ≤ k + n + 1 → Wd mX9_mean X 10 [(2, 41), (0, k), (0, n), (1, S (h 51) (max a (k - n)) (max (max a (k - n)) (min (min b (k + n + 1)) i))), (9, 0), (0, max (max a (k - n)) (min (min b (k + n + 1)) i) - max a (k - n)), (0, i)] [] h Q := by
    intro d
    induction d with
    | zero => intro i q1 q2 q3; omega
    | succ d ih =>
      intro i hd hi1 hi2
      refine vX9_mean_10 ⟨by omega, fun c => ?_, fun c => ⟨by omega, ?_⟩⟩
      · rw [show max (max a (k - n)) (min (min b (k + n + 1)) i) = min b (k + n + 1) by omega]
        have s2 := sb (min b (k + n + 1)) (by omega) (by omega)
        have av := avg_in (f := h 51) (a := max a (k - n)) (b := min b (k + n + 1)) (B := 269973) (by omega) (by omega) (fun j z1 z2 => hv j (by omega) (by omega))
        exact p_down (by omega) (by omega) (by omega) ⟨by omega, H⟩
      · have out : (i < a ∨ b ≤ i) → inI (i + 1) ∧ Wd mX9_mean X 10 [(2, 41), (0, k), (0, n), (1, S (h 51) (max a (k - n)) (max (max a (k - n)) (min (min b (k + n + 1)) i))), (9, 0), (0, max (max a (k - n)) (min (min b (k + n + 1)) i) - max a (k - n)), (0, i + 1)] [] h Q := fun z => by
          refine ⟨by omega, ?_⟩
          have := ih (i + 1) (by omega) (by omega) (by omega)
          rw [show max (max a (k - n)) (min (min b (k + n + 1)) (i + 1)) = max (max a (k - n)) (min (min b (k + n + 1)) i) by omega] at this
          exact this
        refine p_isIn (fun q1 q2 => ⟨fun z => by omega, fun _ => ?_⟩) (fun q1 => ⟨fun _ => out (by omega), fun z => by omega⟩)
        have e1 := (hM.1 i q1 (by omega)).2
        have e2 := (hM.1 k h0 h1).2
        refine ⟨q1, by omega, h0, by omega, fun c2 => ?_, fun c2 => ?_⟩
        · have hin : a ≤ i ∧ i < b := by
            rw [e1, e2] at c2
            by_cases hki : mM I i = -32768
            · rw [sO_ref hki] at c2; omega
            · obtain ⟨b1, b2, b3, b4, b5⟩ := SG_of q1 (by omega) hki
              rw [c2] at b3 b4 b5
              obtain ⟨u1, u2⟩ := SG_uniq b3 hg'
              omega
          have s2 := sb i (by omega) (by omega)
          have s3 := hv i hin.1 hin.2
          rw [show max (max a (k - n)) (min (min b (k + n + 1)) i) = i by omega]
          refine ⟨by omega, by omega, by omega, ?_⟩
          have := ih (i + 1) (by omega) (by omega) (by omega)
          rw [show max (max a (k - n)) (min (min b (k + n + 1)) (i + 1)) = i + 1 by omega, S_succ (by omega)] at this
          rw [show i - max a (k - n) + 1 = i + 1 - max a (k - n) by omega]
          exact this
        · refine out ?_
          rcases Int.lt_or_le i a with z | z
          · exact Or.inl z
          · rcases Int.lt_or_le i b with z2 | z2
            · exfalso
              rw [e1, e2] at c2
              exact c2 (SG_sO hg' z z2)
            · exact Or.inr z2
  have := key (2 * n + 2).toNat (k - n) (by omega) (by omega) (by omega)
  rw [show max (max a (k - n)) (min (min b (k + n + 1)) (k - n)) = max a (k - n) by omega, S_nil (Int.le_refl _), show max a (k - n) - max a (k - n) = 0 by omega] at this
  exact this
theorem p_shownBy {X : Nat × (Int → Int)} {h : HP} {Q : Int → HP → Prop} {I : IN} (hI : OKI I) (hMi : MIn I h) (hM : MS I h) (l : Nat) (hl : (l : Int) < iL I) {k : Int} (h0 : 0 ≤ k) (h1 : k < iN I) (hk : ¬ mM I k = -32768) (hv : ∀ j, 0 ≤ j → j < iN I → ¬ mM I j = -32768 → h 51 j = V I l j)
    (H : inI (V I (l + 1) k) → Q (V I (l + 1) k) h) : Wd mX9_shownBy X 0 [(2, 41), (0, (l : Int)), (0, k), (9, 0), (9, 0), (9, 0)] [] h Q := by
  have hN := hI.1
  have hLl := hI.2.2.2.2.2.2.2.2.2.2.1
  have hns := nS_le hI
  obtain ⟨a1, a2, hg, a4, a5⟩ := SG_of h0 h1 hk
  have hg' := hg
  obtain ⟨g1, g2, g3, g4, g5, g6, g7⟩ := hg
  have hb4 := V_in hI (l + 1) (by omega) k h0 h1 hk
  have hb5 := bd_le (l + 1) (by omega)
  have H := H (by omega)
  have e48 : h 48 k = sO I k := (hM.1 k h0 h1).2
  have e49 : h 49 (sO I k) = fr9 I (sO I k) := MS_from hI hM a1 a2
  have hkb := hMi.2.2.2.2 (l : Int) (by omega) hl
  have hlo := hI.2.2.2.2.2.2.2.2.2.2.2 (l : Int) (by omega) hl
  have hvj : ∀ j, fr9 I (sO I k) ≤ j → j < en9 I (sO I k) → h 51 j = V I l j := fun j z1 z2 => hv j (by omega) (by omega) (g6 j z1 z2)
  have hvb : ∀ j, fr9 I (sO I k) ≤ j → j < en9 I (sO I k) → -269973 ≤ h 51 j ∧ h 51 j ≤ 269973 := fun j z1 z2 => by
    rw [hvj j z1 z2]
    have := V_in hI l (by omega) j (by omega) (by omega) (g6 j z1 z2)
    have := bd_le3 l (by omega)
    omega
  have hvk := hvb k a4 a5
  have eV : V I (l + 1) k = lz (iK I l) (iB I l) (h 51) (fr9 I (sO I k)) (en9 I (sO I k)) k := by
    show lz (iK I l) (iB I l) (V I l) (fr9 I (sO I k)) (en9 I (sO I k)) k = _
    exact (lz_congr a4 a5 (by rcases hlo with z | z | z | z | z <;> omega) hvj).symm
  rw [eV] at H
  refine vX9_shownBy_0 ?_
  rw [e48, e49, hkb.1, hkb.2]
  refine ⟨h0, by omega, a1, by omega, by omega, by omega, fun c => ⟨by omega, fun c2 => ?_, fun c2 => ?_⟩, fun c => ?_, fun c => ⟨?_, fun c2 => ⟨fun c3 => ?_, fun c3 => ?_⟩, fun c2 => ?_⟩, fun c => ⟨by omega, ?_⟩, fun c => ?_⟩
  · have hn : 1 ≤ iB I l ∧ iB I l ≤ 9 ∧ iK I l = 4 := by rcases hlo with z | z | z | z | z <;> omega
    have hv2 := hvb (k - iB I l) (by omega) (by omega)
    refine ⟨by omega, by omega, by omega, by omega, ?_⟩
    unfold lz at H
    rw [if_neg (by omega), if_neg (by omega), if_neg (by omega), if_neg (by omega), if_neg (by omega)] at H
    exact H
  · have hn : 1 ≤ iB I l ∧ iB I l ≤ 9 ∧ iK I l = 4 := by rcases hlo with z | z | z | z | z <;> omega
    unfold lz at H
    rw [if_neg (by omega), if_neg (by omega), if_neg (by omega), if_neg (by omega), if_pos (by omega)] at H
    exact H
  · have hn : 1 ≤ iB I l ∧ iB I l ≤ 5 := by rcases hlo with z | z | z | z | z <;> omega
    unfold lz at H
    rw [if_pos c] at H
    exact p_mean9 hI hMi.1 hM h0 h1 hk hn.1 hn.2 hvb H
  · have hn : 0 ≤ iB I l ∧ iB I l ≤ 9999 := by rcases hlo with z | z | z | z | z <;> omega
    omega
  · unfold lz at H
    rw [if_neg (by omega), if_pos c, if_neg (by omega), if_neg (by omega)] at H
    exact H
  · unfold lz at H
    rw [if_neg (by omega), if_pos c, if_neg (by omega), if_pos (by omega)] at H
    exact H
  · unfold lz at H
    rw [if_neg (by omega), if_pos c, if_pos (by omega)] at H
    exact H
  · unfold lz at H
    rw [if_neg (by omega), if_neg (by omega), if_pos c] at H
    exact H
  · have hn : 1 ≤ iB I l ∧ iB I l ≤ 30 := by rcases hlo with z | z | z | z | z <;> omega
    have e1 : -(30 * 269973) ≤ h 51 k * iB I l := by
      have q1 : -269973 * iB I l ≤ h 51 k * iB I l := Int.mul_le_mul_of_nonneg_right hvk.1 (by omega)
      omega
    have e2 : h 51 k * iB I l ≤ 30 * 269973 := by
      have q1 : h 51 k * iB I l ≤ 269973 * iB I l := Int.mul_le_mul_of_nonneg_right hvk.2 (by omega)
      omega
    unfold lz at H
    rw [if_neg (by omega), if_neg (by omega), if_neg (by omega), if_pos c] at H
    exact ⟨by omega, p_down (by omega) (by omega) (by omega) ⟨by omega, H⟩⟩
/-- the model's shown samples behind so many lenses -/
def MV (I : IN) (l : Nat) (h : HP) : Prop := ∀ k, 0 ≤ k → k < iN I → (¬ mM I k = -32768 → h 50 k = V I l k) ∧ (mM I k = -32768 → h 50 k = -32768)
theorem p_laysShown {X : Nat × (Int → Int)} {h0 : HP} {Q : Int → HP → Prop} {I : IN} (hI : OKI I) (hM : MIn I h0) (m : Nat) (hm : (m : Int) ≤ iL I)
    (H : ∀ h' : HP, (∀ k i, ¬ ((47 ≤ k ∧ k ≤ 51) ∨ (k = 41 ∧ (i = 12 ∨ i = 13))) → h' k i = h0 k i) → MS I h' → MV I m h' → Q 0 h') :
    Wd mX9_laysShown X 0 [(2, 41), (0, (m : Int)), (9, 0), (9, 0)] [] h0 Q := by
  have hN := hI.1
  have hLl := hI.2.2.2.2.2.2.2.2.2.2.1
  refine vX9_laysShown_0 (p_laysStretches hI hM (fun h1 f1 hS1 => ?_))
  have hM1 : MIn I h1 := hM.keep (fun k i q => f1 k i (by omega))
  -- what later loops keep
  have kS : ∀ h : HP, (∀ k i, ¬ (k = 50 ∨ k = 51) → h k i = h1 k i) → MS I h := fun h f => ⟨fun k q1 q2 => by rw [f 47 k (by omega), f 48 k (by omega)]; exact hS1.1 k q1 q2, by rw [f 41 12 (by omega)]; exact hS1.2.1, fun a q1 q2 q3 => by rw [f 49 _ (by omega)]; exact hS1.2.2.1 a q1 q2 q3, by rw [f 41 13 (by omega)]; exact hS1.2.2.2⟩
  have kM : ∀ h : HP, (∀ k i, ¬ (k = 50 ∨ k = 51) → h k i = h1 k i) → MIn I h := fun h f => hM1.keep (fun k i q => f k i (by omega))
  have L34 : ∀ (d : Nat) (l : Nat) (h : HP), (m : Int) - l < d → l ≤ m → (∀ k i, ¬ (k = 50 ∨ k = 51) → h k i = h1 k i) → MV I l h → Wd mX9_laysShown X 34 [(2, 41), (0, (m : Int)), (0, (l : Int)), (9, 0)] [] h Q := by
    intro d
    induction d with
    | zero => intro l h q1 q2; omega
    | succ d ih =>
      intro l h hd hl f hv
      refine vX9_laysShown_34 ⟨fun c => ?_, fun c => ?_⟩
      · have e : l = m := by omega
        subst e
        exact H h (fun k i q => by rw [f k i (by omega)]; exact f1 k i (by omega)) (kS h f) hv
      · have L69 : ∀ (d2 : Nat) (x : Int) (h2 : HP), iN I - x < d2 → 0 ≤ x → x ≤ iN I → (∀ k i, ¬ (k = 50 ∨ k = 51) → h2 k i = h1 k i) → (∀ j, 0 ≤ j → j < iN I → ¬ mM I j = -32768 → h2 51 j = V I l j) → (∀ j, 0 ≤ j → j < iN I → mM I j = -32768 → h2 50 j = -32768) → (∀ j, 0 ≤ j → j < x → ¬ mM I j = -32768 → h2 50 j = V I (l + 1) j) → Wd mX9_laysShown X 69 [(2, 41), (0, (m : Int)), (0, (l : Int)), (0, x)] [] h2 Q := by
          intro d2
          induction d2 with
          | zero => intro x h2 q1 q2 q3; omega
          | succ d2 ih2 =>
            intro x h2 hd2 hx0 hx1 f2 h51 h50 h50'
            have hMi2 := kM h2 f2
            have e5 := hMi2.1
            refine vX9_laysShown_69 ⟨fun c2 => ⟨by omega, ?_⟩, fun c2 => ?_⟩
            · have := ih (l + 1) h2 (by omega) (by omega) f2 (fun k q1 q2 => ⟨fun q3 => h50' k q1 (by omega) q3, fun q3 => h50 k q1 q2 q3⟩)
              rw [show (((l + 1 : Nat)) : Int) = (l : Int) + 1 by omega] at this
              exact this
            · have hxn : x < iN I := by omega
              have e48 := ((kS h2 f2).1 x hx0 hxn).2
              refine ⟨hx0, by omega, fun c3 => ⟨by omega, ?_⟩, fun c3 => ?_⟩
              · have hr : mM I x = -32768 := by
                  by_cases z : mM I x = -32768
                  · exact z
                  · have := (SG_of hx0 hxn z).1; omega
                refine ih2 (x + 1) h2 (by omega) (by omega) (by omega) f2 h51 h50 (fun j q1 q2 q3 => h50' j q1 ?_ q3)
                rcases Int.lt_or_le j x with z | z
                · exact z
                · have : j = x := by omega
                  rw [this] at q3; exact absurd hr q3
              · have hr : ¬ mM I x = -32768 := fun z => c3 (by rw [e48, sO_ref z])
                refine p_shownBy hI hMi2 (kS h2 f2) l (by omega) hx0 hxn hr h51 (fun _ => ⟨by omega, ?_⟩)
                refine ih2 (x + 1) _ (by omega) (by omega) (by omega) (fun k i q => by rw [xu_ne (by omega)]; exact f2 k i q) (fun j q1 q2 q3 => by rw [xu_ne (by omega)]; exact h51 j q1 q2 q3) (fun j q1 q2 q3 => ?_) (fun j q1 q2 q3 => ?_)
                · by_cases e : j = x
                  · rw [e] at q3; exact absurd q3 hr
                  · rw [xu_ne (by omega)]; exact h50 j q1 q2 q3
                · by_cases e : j = x
                  · rw [xu_eq rfl e, e]
                  · rw [xu_ne (by omega)]; exact h50' j q1 (by omega) q3
        have L41 : ∀ (d2 : Nat) (x : Int) (h2 : HP), iN I - x < d2 → 0 ≤ x → x ≤ iN I → (∀ k i, ¬ (k = 50 ∨ k = 51) → h2 k i = h1 k i) → (∀ j, h2 50 j = h 50 j) → (∀ j, 0 ≤ j → j < x → h2 51 j = h 50 j) → Wd mX9_laysShown X 41 [(2, 41), (0, (m : Int)), (0, (l : Int)), (0, x)] [] h2 Q := by
          intro d2
          induction d2 with
          | zero => intro x h2 q1 q2 q3; omega
          | succ d2 ih2 =>
            intro x h2 hd2 hx0 hx1 f2 h50 h51
            have e5 := (kM h2 f2).1
            refine vX9_laysShown_41 ⟨fun c2 => ?_, fun c2 => ⟨hx0, by omega, by omega, ?_⟩⟩
            · refine L69 (iN I + 1).toNat 0 h2 (by omega) (by omega) (by omega) f2 (fun j q1 q2 q3 => by rw [h51 j q1 (by omega)]; exact (hv j q1 q2).1 q3) (fun j q1 q2 q3 => by rw [h50 j]; exact (hv j q1 q2).2 q3) (fun j q1 q2 => by omega)
            · refine ih2 (x + 1) _ (by omega) (by omega) (by omega) (fun k i q => by rw [xu_ne (by omega)]; exact f2 k i q) (fun j => by rw [xu_ne (by omega)]; exact h50 j) (fun j q1 q2 => ?_)
              by_cases e : j = x
              · rw [xu_eq rfl e, e, h50 x]
              · rw [xu_ne (by omega)]; exact h51 j q1 (by omega)
        exact L41 (iN I + 1).toNat 0 h (by omega) (by omega) (by omega) f (fun j => rfl) (fun j q1 q2 => by omega)
  have L6 : ∀ (d : Nat) (x : Int) (h : HP), iN I - x < d → 0 ≤ x → x ≤ iN I → (∀ k i, ¬ (k = 50 ∨ k = 51) → h k i = h1 k i) → (∀ j, 0 ≤ j → j < x → h 50 j = mM I j) → Wd mX9_laysShown X 6 [(2, 41), (0, (m : Int)), (0, x), (9, 0)] [] h Q := by
    intro d
    induction d with
    | zero => intro x h q1 q2 q3; omega
    | succ d ih =>
      intro x h hd hx0 hx1 f h50
      have e5 := (kM h f).1
      refine vX9_laysShown_6 ⟨fun c => ?_, fun c => ⟨hx0, by omega, by omega, ?_⟩⟩
      · exact L34 (m + 1) 0 h (by omega) (Nat.zero_le m) f (fun k q1 q2 => ⟨fun _ => h50 k q1 (by omega), fun q3 => by rw [h50 k q1 (by omega)]; exact q3⟩)
      · refine ih (x + 1) _ (by omega) (by omega) (by omega) (fun k i q => by rw [xu_ne (by omega)]; exact f k i q) (fun j q1 q2 => ?_)
        by_cases e : j = x
        · rw [xu_eq rfl e, e]; exact ((kS h f).1 x hx0 (by omega)).1
        · rw [xu_ne (by omega)]; exact h50 j q1 (by omega)
  exact L6 (iN I + 1).toNat 0 h1 (by omega) (by omega) (by omega) (fun k i _ => rfl) (fun j q1 q2 => by omega)

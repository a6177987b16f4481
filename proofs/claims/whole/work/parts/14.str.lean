/-! stretches: where they begin; the model's laysStretches, the class's split -/
def isS (M : Int → Int) (k : Int) : Prop := ¬ M k = -32768 ∧ (k = 0 ∨ M (k - 1) = -32768)
theorem st_start {M : Int → Int} {k : Int} (h0 : 0 ≤ k) (hk : ¬ M k = -32768) : ∃ a, 0 ≤ a ∧ a ≤ k ∧ isS M a ∧ ∀ j, a ≤ j → j ≤ k → ¬ M j = -32768 := by
  obtain ⟨n, rfl⟩ : ∃ n : Nat, k = n := ⟨k.toNat, by omega⟩
  clear h0
  induction n with
  | zero => exact ⟨0, by omega, by omega, ⟨hk, Or.inl rfl⟩, fun j q1 q2 => by rw [show j = ((0 : Nat) : Int) by omega]; exact hk⟩
  | succ n ih =>
    by_cases e : M (n : Int) = -32768
    · exact ⟨((n + 1 : Nat) : Int), by omega, by omega, ⟨hk, Or.inr (by rw [show ((n + 1 : Nat) : Int) - 1 = n by omega]; exact e)⟩, fun j q1 q2 => by rw [show j = ((n + 1 : Nat) : Int) by omega]; exact hk⟩
    · obtain ⟨a, q1, q2, q3, q4⟩ := ih e
      exact ⟨a, q1, by omega, q3, fun j z1 z2 => by
        by_cases e2 : j = ((n + 1 : Nat) : Int)
        · rw [e2]; exact hk
        · exact q4 j z1 (by omega)⟩
theorem st_in {M : Int → Int} {a k : Int} (h0 : 0 ≤ a) (hak : a ≤ k) (ha : isS M a) (hk : ∀ j, a ≤ j → j ≤ k → ¬ M j = -32768) : C (isS M) 0 (k + 1) = C (isS M) 0 a + 1 := by
  rw [C_app (a := 0) (b := a + 1) (c := k + 1) (by omega) (by omega), C_succ h0 ha]
  have : C (isS M) (a + 1) (k + 1) = 0 := C_zero (fun i q1 q2 q3 => by
    rcases q3.2 with z | z
    · omega
    · exact hk (i - 1) (by omega) (by omega) z)
  omega
theorem st_mono {M : Int → Int} {a b : Int} (h0 : 0 ≤ a) (hab : a < b) (ha : isS M a) : C (isS M) 0 a < C (isS M) 0 b := by
  rw [C_app (a := 0) (b := a + 1) (c := b) (by omega) (by omega), C_succ h0 ha]
  have := (C_bound (p := isS M) (a := a + 1) (b := b) (by omega)).1
  omega
theorem st_half {M : Int → Int} {k : Int} (h0 : 0 ≤ k) : 2 * C (isS M) 0 k ≤ k + 1 ∧ ((k = 0 ∨ M (k - 1) = -32768) → 2 * C (isS M) 0 k ≤ k) := by
  obtain ⟨n, rfl⟩ : ∃ n : Nat, k = n := ⟨k.toNat, by omega⟩
  clear h0
  induction n with
  | zero => rw [C_nil (by omega)]; omega
  | succ n ih =>
    rw [show ((n + 1 : Nat) : Int) = (n : Int) + 1 by omega]
    by_cases e : isS M (n : Int)
    · rw [C_succ (by omega) e]
      have := ih.2 e.2
      refine ⟨by omega, fun q => ?_⟩
      rcases q with q | q
      · omega
      · rw [show (n : Int) + 1 - 1 = n by omega] at q; exact absurd q e.1
    · rw [C_skip (by omega) e]
      omega
/-- the number of the stretch of a sample -/
noncomputable def sO (I : IN) (k : Int) : Int := @ite Int (mM I k = -32768) (Int.instDecidableEq _ _) (-1) (C (isS (mM I)) 0 (k + 1) - 1)
theorem sO_ref {I : IN} {k : Int} (h : mM I k = -32768) : sO I k = -1 := by unfold sO; rw [if_pos h]
theorem sO_in {I : IN} {k : Int} (h : ¬ mM I k = -32768) : sO I k = C (isS (mM I)) 0 (k + 1) - 1 := by unfold sO; rw [if_neg h]
noncomputable def nS (I : IN) : Int := C (isS (mM I)) 0 (iN I)
/-- a stretch: its number, its first sample, its end -/
def SG (I : IN) (s a b : Int) : Prop := 0 ≤ a ∧ a < b ∧ b ≤ iN I ∧ isS (mM I) a ∧ C (isS (mM I)) 0 a = s ∧ (∀ k, a ≤ k → k < b → ¬ mM I k = -32768) ∧ (b = iN I ∨ mM I b = -32768)
/-- the model's stretches -/
def MS (I : IN) (h : HP) : Prop := (∀ k, 0 ≤ k → k < iN I → h 47 k = mM I k ∧ h 48 k = sO I k) ∧ h 41 12 = nS I ∧ (∀ a, 0 ≤ a → a < iN I → isS (mM I) a → h 49 (C (isS (mM I)) 0 a) = a) ∧ h 41 13 = C (fun k => iR I k = -32768 ∧ ¬ mM I k = -32768) 0 (iN I)
def MIn (I : IN) (h : HP) : Prop := h 41 5 = iN I ∧ (∀ i, 0 ≤ i → i < iN I → h 42 i = iR I i) ∧ (∀ j, 0 ≤ j → j < 8 → h 43 j = iS I j) ∧ h 41 6 = iL I ∧ ∀ l, 0 ≤ l → l < iL I → h 44 l = iK I l ∧ h 45 l = iB I l
theorem MIn.keep {I : IN} {h h' : HP} (H : MIn I h) (hf : ∀ k i, (k = 42 ∨ k = 43 ∨ k = 44 ∨ k = 45 ∨ (k = 41 ∧ (i = 5 ∨ i = 6))) → h' k i = h k i) : MIn I h' := by
  obtain ⟨a1, a2, a3, a4, a5⟩ := H
  refine ⟨by rw [hf 41 5 (by omega)]; exact a1, fun i q1 q2 => by rw [hf 42 i (by omega)]; exact a2 i q1 q2, fun i q1 q2 => by rw [hf 43 i (by omega)]; exact a3 i q1 q2, by rw [hf 41 6 (by omega)]; exact a4, fun i q1 q2 => by rw [hf 44 i (by omega), hf 45 i (by omega)]; exact a5 i q1 q2⟩
theorem p_laysStretches {X : Nat × (Int → Int)} {h0 : HP} {Q : Int → HP → Prop} {I : IN} (hI : OKI I) (hM : MIn I h0)
    (H : ∀ h' : HP, (∀ k i, ¬ (k = 47 ∨ k = 48 ∨ k = 49 ∨ (k = 41 ∧ (i = 12 ∨ i = 13))) → h' k i = h0 k i) → MS I h' → Q 0 h') :
    Wd mX9_laysStretches X 0 [(2, 41), (9, 0), (9, 0), (9, 0), (9, 0)] [] h0 Q := by
  have hN := hI.1
  have hmd := hI.2.2.1
  -- the frame
  have key : ∀ (P : HP → Prop), (∀ h : HP, P h ↔ ∀ k i, ¬ (k = 47 ∨ k = 48 ∨ k = 49 ∨ (k = 41 ∧ (i = 12 ∨ i = 13))) → h k i = h0 k i) → Wd mX9_laysStretches X 0 [(2, 41), (9, 0), (9, 0), (9, 0), (9, 0)] [] h0 Q := by
    intro P hP
    have pn : ∀ h : HP, P h → h 41 5 = iN I ∧ (∀ i, 0 ≤ i → i < iN I → h 42 i = iR I i) ∧ h 43 0 = iS I 0 := fun h hp => by
      have hp := (hP h).mp hp
      exact ⟨by rw [hp 41 5 (by omega)]; exact hM.1, fun i q1 q2 => by rw [hp 42 i (by omega)]; exact hM.2.1 i q1 q2, by rw [hp 43 0 (by omega)]; exact hM.2.2.1 0 (by omega) (by omega)⟩
    have pk : ∀ (h : HP) (k i v : Int), P h → (k = 47 ∨ k = 48 ∨ k = 49 ∨ (k = 41 ∧ (i = 12 ∨ i = 13))) → P (xu h k i v) := fun h k i v hp hk => (hP _).mpr (fun k2 i2 q => by rw [xu_ne (by omega)]; exact (hP h).mp hp k2 i2 q)
    -- the last loop: where stretches begin
    have L219 : ∀ (d : Nat) (x : Int) (h : HP), iN I - x < d → 0 ≤ x → x ≤ iN I → P h → (∀ k, 0 ≤ k → k < iN I → h 47 k = mM I k) → (∀ k, 0 ≤ k → k < x → h 48 k = sO I k) → h 41 12 = C (isS (mM I)) 0 x → (∀ a, 0 ≤ a → a < x → isS (mM I) a → h 49 (C (isS (mM I)) 0 a) = a) → h 41 13 = C (fun k => iR I k = -32768 ∧ ¬ mM I k = -32768) 0 (iN I) →
        Wd mX9_laysStretches X 219 [(2, 41), (0, x), (9, 0), (9, 0), (9, 0)] [] h Q := by
      intro d
      induction d with
      | zero => intro x h q1 q2 q3; omega
      | succ d ih =>
        intro x h hd hx0 hx1 hp h47 h48 h12 h49 h13
        obtain ⟨pn1, pn2, -⟩ := pn h hp
        have hc := C_bound (p := isS (mM I)) (a := 0) (b := x) hx0
        refine vX9_laysStretches_219 ⟨fun c => ?_, fun c => ?_⟩
        · have e : x = iN I := by omega
          subst e
          exact H h ((hP h).mp hp) ⟨fun k q1 q2 => ⟨h47 k q1 q2, h48 k q1 q2⟩, h12, h49, h13⟩
        · have hxn : x < iN I := by omega
          have e47 := h47 x hx0 hxn
          have start : isS (mM I) x → 0 ≤ h 41 12 ∧ h 41 12 < 601 ∧ inI (h 41 12 + 1) ∧ inI (h 41 12 + 1 - 1) ∧ inI (x + 1) ∧ Wd mX9_laysStretches X 219 [(2, 41), (0, x + 1), (9, 0), (9, 0), (9, 0)] [] (xu (xu (xu (xu h 48 x (-1)) 49 (h 41 12) x) 41 12 (h 41 12 + 1)) 48 x (h 41 12 + 1 - 1)) Q := fun hs => by
            have es := C_succ (p := isS (mM I)) hx0 hs
            refine ⟨by omega, by omega, by omega, by omega, by omega, ?_⟩
            refine ih (x + 1) _ (by omega) (by omega) (by omega) (pk _ _ _ _ (pk _ _ _ _ (pk _ _ _ _ (pk _ _ _ _ hp (by omega)) (by omega)) (by omega)) (by omega)) (fun k q1 q2 => by rw [xu_ne (by omega), xu_ne (by omega), xu_ne (by omega), xu_ne (by omega)]; exact h47 k q1 q2) (fun k q1 q2 => ?_) (by rw [xu_ne (by omega), xu_eq rfl rfl, h12, es]) (fun a q1 q2 q3 => ?_) (by rw [xu_ne (by omega), xu_ne (by omega), xu_ne (by omega), xu_ne (by omega)]; exact h13)
            · by_cases e : k = x
              · subst e
                rw [xu_eq rfl rfl, sO_in hs.1, es, h12]
              · rw [xu_ne (by omega), xu_ne (by omega), xu_ne (by omega), xu_ne (by omega)]; exact h48 k q1 (by omega)
            · by_cases e : a = x
              · subst e
                rw [xu_ne (by omega), xu_ne (by omega), xu_eq rfl h12.symm]
              · have := st_mono q1 (show a < x by omega) q3
                rw [xu_ne (by omega), xu_ne (by omega), xu_ne (by omega), xu_ne (by omega)]; exact h49 a q1 (by omega) q3
          refine ⟨hx0, by omega, fun c1 => ?_, fun c1 => ?_⟩
          · rw [e47] at c1
            refine ⟨fun c2 => start ⟨c1, Or.inl c2⟩, fun c2 => ⟨by omega, by omega, by omega, fun c3 => ?_, fun c3 => ?_⟩⟩
            · rw [h47 (x - 1) (by omega) (by omega)] at c3
              have hns : ¬ isS (mM I) x := fun z => by
                rcases z.2 with z | z
                · exact c2 z
                · exact c3 z
              have es := C_skip (p := isS (mM I)) hx0 hns
              refine ⟨by omega, by omega, ?_⟩
              refine ih (x + 1) _ (by omega) (by omega) (by omega) (pk _ _ _ _ (pk _ _ _ _ hp (by omega)) (by omega)) (fun k q1 q2 => by rw [xu_ne (by omega), xu_ne (by omega)]; exact h47 k q1 q2) (fun k q1 q2 => ?_) (by rw [xu_ne (by omega), xu_ne (by omega), h12, es]) (fun a q1 q2 q3 => ?_) (by rw [xu_ne (by omega), xu_ne (by omega)]; exact h13)
              · by_cases e : k = x
                · subst e
                  rw [xu_eq rfl rfl, sO_in c1, es, h12]
                · rw [xu_ne (by omega), xu_ne (by omega)]; exact h48 k q1 (by omega)
              · by_cases e : a = x
                · subst e; exact absurd q3 hns
                · rw [xu_ne (by omega), xu_ne (by omega)]; exact h49 a q1 (by omega) q3
            · rw [h47 (x - 1) (by omega) (by omega)] at c3
              exact start ⟨c1, Or.inr c3⟩
          · rw [e47] at c1
            have hns : ¬ isS (mM I) x := fun z => z.1 c1
            have es := C_skip (p := isS (mM I)) hx0 hns
            refine ⟨by omega, ?_⟩
            refine ih (x + 1) _ (by omega) (by omega) (by omega) (pk _ _ _ _ hp (by omega)) (fun k q1 q2 => by rw [xu_ne (by omega)]; exact h47 k q1 q2) (fun k q1 q2 => ?_) (by rw [xu_ne (by omega), h12, es]) (fun a q1 q2 q3 => ?_) (by rw [xu_ne (by omega)]; exact h13)
            · by_cases e : k = x
              · subst e; rw [xu_eq rfl rfl, sO_ref c1]
              · rw [xu_ne (by omega)]; exact h48 k q1 (by omega)
            · by_cases e : a = x
              · subst e; exact absurd q3 hns
              · rw [xu_ne (by omega)]; exact h49 a q1 (by omega) q3
    -- the middle loop: gaps
    have L35 : ∀ (d : Nat) (x y : Int) (h : HP), iN I - x < d → 0 ≤ x → x ≤ y → y ≤ iN I → P h → (∀ t, x ≤ t → t < y → iR I t = -32768) → (x < y → 0 < x ∧ iR I (x - 1) = -32768) → (0 < x → iR I (x - 1) = -32768 → y = iN I ∨ ¬ iR I y = -32768) → (∀ j, 0 ≤ j → j < y → h 47 j = mM I j) → (∀ j, y ≤ j → j < iN I → h 47 j = iR I j) → h 41 13 = C (fun k => iR I k = -32768 ∧ ¬ mM I k = -32768) 0 y →
        Wd mX9_laysStretches X 35 [(2, 41), (0, x), (9, 0), (9, 0), (9, 0)] [] h Q := by
      intro d
      induction d with
      | zero => intro x y h q1 q2 q3 q4; omega
      | succ d ih =>
        intro x y h hd hx0 hxy hyn hp hgap hy1 hy2 hdone hrest h13
        obtain ⟨pn1, pn2, pn3⟩ := pn h hp
        refine vX9_laysStretches_35 ⟨fun c => ?_, fun c => ?_⟩
        · have e : y = iN I := by omega
          refine L219 (iN I + 1).toNat 0 _ (by omega) (by omega) (by omega) (pk _ _ _ _ hp (by omega)) (fun k q1 q2 => by rw [xu_ne (by omega)]; exact hdone k q1 (by omega)) (fun k q1 q2 => by omega) (by rw [xu_eq rfl rfl, C_nil (Int.le_refl 0)]) (fun a q1 q2 => by omega) (by rw [xu_ne (by omega), h13, e])
        · have hxn : x < iN I := by omega
          rw [pn2 x hx0 hxn]
          -- a row of gaps from x on
          have L78 : iR I x = -32768 → (x ≤ 0 ∨ ¬ iR I (x - 1) = -32768) → ∀ (d2 : Nat) (to : Int), iN I - to < d2 → x ≤ to → to ≤ iN I → (∀ t, x ≤ t → t < to → iR I t = -32768) → Wd mX9_laysStretches X 78 [(2, 41), (0, x), (0, to), (9, 0), (9, 0)] [] h Q := by
            intro hgx hfirst
            have hyx : y = x := by
              rcases Int.lt_or_le x y with z | z
              · have := hy1 z
                rcases hfirst with z2 | z2
                · omega
                · exact absurd this.2 z2
              · omega
            -- none of them is mended
            have refd : ∀ to, x < to → to ≤ iN I → (∀ t, x ≤ t → t < to → iR I t = -32768) → (to = iN I ∨ ¬ iR I to = -32768) → (x = 0 ∨ to = iN I ∨ iS I 0 < to - x) → Wd mX9_laysStretches X 35 [(2, 41), (0, x + 1), (9, 0), (9, 0), (9, 0)] [] h Q := by
              intro to h1 h2 h3 h4 h5
              have hm : ∀ j, x ≤ j → j < to → mM I j = -32768 := fun j q1 q2 => mM_ref (h3 j q1 q2) (fun a2 b2 z1 z2 z3 z4 z5 z6 z7 => by
                have e1 : a2 < x := by
                  rcases Int.lt_or_le a2 x with z | z
                  · exact z
                  · exact absurd (h3 a2 z (by omega)) z5
                have e2 : to ≤ b2 := by
                  rcases Int.lt_or_le b2 to with z | z
                  · exact absurd (h3 b2 (by omega) z) z6
                  · exact z
                rcases h5 with z | z | z
                · omega
                · omega
                · omega)
              refine ih (x + 1) to h (by omega) (by omega) (by omega) h2 hp (fun t q1 q2 => h3 t (by omega) q2) (fun q => ⟨by omega, by rw [show x + 1 - 1 = x by omega]; exact hgx⟩) (fun _ _ => h4) (fun j q1 q2 => ?_) (fun j q1 q2 => hrest j (by omega) q2) ?_
              · by_cases e : j < x
                · exact hdone j q1 (by omega)
                · rw [hrest j (by omega) (by omega), h3 j (by omega) q2, hm j (by omega) q2]
              · rw [h13, hyx, C_app (a := 0) (b := x) (c := to) (by omega) (by omega)]
                have : C (fun k => iR I k = -32768 ∧ ¬ mM I k = -32768) x to = 0 := C_zero (fun i q1 q2 q3 => q3.2 (hm i q1 q2))
                omega
            -- they are
            have L136 : ∀ to, x < to → to < iN I → 0 < x → ¬ iR I (x - 1) = -32768 → (∀ t, x ≤ t → t < to → iR I t = -32768) → ¬ iR I to = -32768 → to - x ≤ iS I 0 → ∀ (d3 : Nat) (i : Int) (h2 : HP), to - x + 1 - i < d3 → 1 ≤ i → i ≤ to - x + 1 → P h2 → (∀ j, 0 ≤ j → j < x + i - 1 → h2 47 j = mM I j) → (∀ j, x + i - 1 ≤ j → j < iN I → h2 47 j = iR I j) → h2 41 13 = h 41 13 → Wd mX9_laysStretches X 136 [(2, 41), (0, x), (0, to), (0, to - x), (0, i)] [] h2 Q := by
              intro to h1 h2 h3 h4 h5 h6 h7 d3
              have hva := hI.2.1 (x - 1) (by omega) (by omega)
              have hvb := hI.2.1 to (by omega) (by omega)
              have hmm : ∀ j, x ≤ j → j < to → mM I j = (iR I (x - 1) * (to - j) + iR I to * (j - (x - 1))) / (to - (x - 1)) := fun j q1 q2 => mM_mend (h5 j q1 q2) (by omega) (by omega) q2 h2 h4 h6 (fun t z1 z2 => h5 t (by omega) z2) (by omega)
              induction d3 with
              | zero => intro i h9 q1 q2 q3; omega
              | succ d3 ih3 =>
                intro i h9 hd3 hi1 hi2 hp9 hdn hrs hm9
                obtain ⟨r1, r2, -⟩ := pn h9 hp9
                have cb := C_bound (p := fun k => iR I k = -32768 ∧ ¬ mM I k = -32768) (a := 0) (b := y) (by omega)
                refine vX9_laysStretches_136 ⟨fun c => ?_, fun c => ?_⟩
                · have e : i = to - x + 1 := by omega
                  refine ⟨by omega, by omega, ?_⟩
                  refine ih (x + 1) to _ (by omega) (by omega) (by omega) (by omega) (pk _ _ _ _ hp9 (by omega)) (fun t q1 q2 => h5 t (by omega) q2) (fun q => ⟨by omega, by rw [show x + 1 - 1 = x by omega]; exact hgx⟩) (fun _ _ => Or.inr h6) (fun j q1 q2 => by rw [xu_ne (by omega)]; exact hdn j q1 (by omega)) (fun j q1 q2 => by rw [xu_ne (by omega)]; exact hrs j (by omega) q2) ?_
                  rw [xu_eq rfl rfl, hm9, h13, hyx, C_app (a := 0) (b := x) (c := to) (by omega) (by omega)]
                  have : C (fun k => iR I k = -32768 ∧ ¬ mM I k = -32768) x to = to - x := C_all (by omega) (fun j q1 q2 => ⟨h5 j q1 q2, by
                    have w := wmean (a := iR I (x - 1)) (b := iR I to) (p := to - j) (q := j - (x - 1)) (by omega) (by omega) (by omega) (by rcases hva with z | z <;> omega) (by rcases hvb with z | z <;> omega)
                    rw [show to - j + (j - (x - 1)) = to - (x - 1) by omega] at w
                    rw [hmm j q1 q2]; omega⟩)
                  omega
                · rw [r2 (x - 1) (by omega) (by omega), r2 to (by omega) (by omega)]
                  have w := wmean (a := iR I (x - 1)) (b := iR I to) (p := to - x + 1 - i) (q := i) (by omega) (by omega) (by omega) (by rcases hva with z | z <;> omega) (by rcases hvb with z | z <;> omega)
                  have w1 := wmean (a := iR I (x - 1)) (b := 0) (p := to - x + 1 - i) (q := i) (by omega) (by omega) (by omega) (by rcases hva with z | z <;> omega) (by omega)
                  have w2 := wmean (a := 0) (b := iR I to) (p := to - x + 1 - i) (q := i) (by omega) (by omega) (by omega) (by omega) (by rcases hvb with z | z <;> omega)
                  rw [show to - x + 1 - i + i = to - x + 1 by omega] at w w1 w2
                  rw [Int.zero_mul] at w1 w2
                  refine ⟨by omega, by omega, by omega, by omega, by omega, by omega, by omega, by omega, by omega, by omega, by omega, by omega, ?_⟩
                  refine p_down (by omega) (by omega) (by omega) ?_
                  refine ⟨by omega, by omega, by omega, by omega, ?_⟩
                  refine ih3 (i + 1) _ (by omega) (by omega) (by omega) (pk _ _ _ _ hp9 (by omega)) (fun j q1 q2 => ?_) (fun j q1 q2 => by rw [xu_ne (by omega)]; exact hrs j (by omega) q2) (by rw [xu_ne (by omega)]; exact hm9)
                  by_cases e : j = x + i - 1
                  · rw [xu_eq rfl e, hmm j (by omega) (by omega), e, show to - (x + i - 1) = to - x + 1 - i by omega, show x + i - 1 - (x - 1) = i by omega, show to - (x - 1) = to - x + 1 by omega]
                  · rw [xu_ne (by omega)]; exact hdn j q1 (by omega)
            intro d2
            induction d2 with
            | zero => intro to q1 q2 q3; omega
            | succ d2 ih2 =>
              intro to hd2 ht1 ht2 ht3
              -- the row has its end
              have fin : x < to → (to = iN I ∨ ¬ iR I to = -32768) → inI (to - x) ∧ ((x = 0 → inI (x + 1) ∧ Wd mX9_laysStretches X 35 [(2, 41), (0, x + 1), (9, 0), (9, 0), (9, 0)] [] h Q) ∧ (¬ x = 0 → ((to = h 41 5 → inI (x + 1) ∧ Wd mX9_laysStretches X 35 [(2, 41), (0, x + 1), (9, 0), (9, 0), (9, 0)] [] h Q) ∧ (¬ to = h 41 5 → ((to - x ≤ h 43 0 → Wd mX9_laysStretches X 136 [(2, 41), (0, x), (0, to), (0, to - x), (0, 1)] [] h Q) ∧ (¬ (to - x ≤ h 43 0) → inI (x + 1) ∧ Wd mX9_laysStretches X 35 [(2, 41), (0, x + 1), (9, 0), (9, 0), (9, 0)] [] h Q)))))) := by
                intro h1 h2
                refine ⟨by omega, fun c1 => ⟨by omega, refd to h1 ht2 ht3 h2 (Or.inl c1)⟩, fun c1 => ⟨fun c2 => ⟨by omega, refd to h1 ht2 ht3 h2 (Or.inr (Or.inl (by omega)))⟩, fun c2 => ⟨fun c3 => ?_, fun c3 => ⟨by omega, refd to h1 ht2 ht3 h2 (Or.inr (Or.inr (by omega)))⟩⟩⟩⟩
                have hf2 : ¬ iR I (x - 1) = -32768 := hfirst.elim (fun z => by omega) id
                have hb2 : ¬ iR I to = -32768 := h2.elim (fun z => by omega) id
                refine L136 to h1 (by omega) (by omega) hf2 ht3 hb2 (by omega) (to - x + 1).toNat 1 h (by omega) (by omega) (by omega) hp (fun j q1 q2 => hdone j q1 (by omega)) (fun j q1 q2 => hrest j (by omega) q2) rfl
              refine vX9_laysStretches_78 ⟨fun c => ?_, fun c => ?_⟩
              · exact fin (by omega) (Or.inl (by omega))
              · refine ⟨by omega, by omega, fun c1 => ?_, fun c1 => ?_⟩
                · rw [pn2 to (by omega) (by omega)] at c1
                  have : x < to := by
                    rcases Int.lt_or_le x to with z | z
                    · exact z
                    · have e : to = x := by omega
                      rw [e] at c1; exact absurd hgx c1
                  exact fin this (Or.inr c1)
                · rw [pn2 to (by omega) (by omega)] at c1
                  refine ⟨by omega, ih2 (to + 1) (by omega) (by omega) (by omega) (fun t q1 q2 => ?_)⟩
                  by_cases e : t = to
                  · rw [e]; exact c1
                  · exact ht3 t q1 (by omega)
          refine ⟨hx0, by omega, fun c1 => ⟨by omega, ?_⟩, fun c1 => ⟨fun c2 => ?_, fun c2 => ⟨by omega, by omega, by omega, ?_⟩⟩⟩
          · have hyx : y = x := by
              rcases Int.lt_or_le x y with z | z
              · exact absurd (hgap x (Int.le_refl x) z) c1
              · omega
            refine ih (x + 1) (x + 1) h (by omega) (by omega) (by omega) (by omega) hp (fun t q1 q2 => by omega) (fun q => by omega) (fun _ q => by rw [show x + 1 - 1 = x by omega] at q; exact absurd q c1) (fun j q1 q2 => ?_) (fun j q1 q2 => hrest j (by omega) q2) ?_
            · by_cases e : j = x
              · rw [e, hrest x (by omega) hxn, mM_raw c1]
              · exact hdone j q1 (by omega)
            · rw [h13, hyx, C_skip (p := fun k => iR I k = -32768 ∧ ¬ mM I k = -32768) hx0 (fun z => c1 z.1)]
          · exact L78 c1 (Or.inl c2) (iN I + 1).toNat x (by omega) (by omega) (by omega) (fun t q1 q2 => by omega)
          · rw [pn2 (x - 1) (by omega) (by omega)]
            refine ⟨fun c3 => L78 c1 (Or.inr c3) (iN I + 1).toNat x (by omega) (by omega) (by omega) (fun t q1 q2 => by omega), fun c3 => ⟨by omega, ?_⟩⟩
            have hyy := hy2 (by omega) c3
            have hlt : x < y := by
              rcases Int.lt_or_le x y with z | z
              · exact z
              · have e : y = x := by omega
                rw [e] at hyy
                rcases hyy with z2 | z2
                · omega
                · exact absurd c1 z2
            exact ih (x + 1) y h (by omega) (by omega) (by omega) hyn hp (fun t q1 q2 => hgap t (by omega) q2) (fun q => ⟨by omega, by rw [show x + 1 - 1 = x by omega]; exact c1⟩) (fun _ _ => hyy) hdone hrest h13
    -- the first loop
    have L7 : ∀ (d : Nat) (x : Int) (h : HP), iN I - x < d → 0 ≤ x → x ≤ iN I → P h → (∀ j, 0 ≤ j → j < x → h 47 j = iR I j) → h 41 13 = 0 → Wd mX9_laysStretches X 7 [(2, 41), (0, x), (9, 0), (9, 0), (9, 0)] [] h Q := by
      intro d
      induction d with
      | zero => intro x h q1 q2 q3; omega
      | succ d ih =>
        intro x h hd hx0 hx1 hp h47 h13
        obtain ⟨pn1, pn2, -⟩ := pn h hp
        refine vX9_laysStretches_7 ⟨fun c => ?_, fun c => ⟨hx0, by omega, by omega, ?_⟩⟩
        · exact L35 (iN I + 1).toNat 0 0 h (by omega) (by omega) (by omega) (by omega) hp (fun t q1 q2 => by omega) (fun q => by omega) (fun q => by omega) (fun j q1 q2 => by omega) (fun j q1 q2 => h47 j q1 (by omega)) (by rw [h13, C_nil (Int.le_refl 0)])
        · rw [pn2 x hx0 (by omega)]
          refine ih (x + 1) _ (by omega) (by omega) (by omega) (pk _ _ _ _ hp (by omega)) (fun j q1 q2 => ?_) (by rw [xu_ne (by omega)]; exact h13)
          by_cases e : j = x
          · rw [xu_eq rfl e, e]
          · rw [xu_ne (by omega)]; exact h47 j q1 (by omega)
    refine vX9_laysStretches_0 ?_
    refine L7 (iN I + 1).toNat 0 _ (by omega) (by omega) (by omega) ((hP _).mpr (fun k i q => by rw [xu_ne (by omega)])) (fun j q1 q2 => by omega) (xu_eq rfl rfl)
  exact key (fun h => ∀ k i, ¬ (k = 47 ∨ k = 48 ∨ k = 49 ∨ (k = 41 ∧ (i = 12 ∨ i = 13))) → h k i = h0 k i) (fun h => Iff.rfl)

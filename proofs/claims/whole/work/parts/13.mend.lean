/-! the class: mendGaps -/
theorem p_mendBetween {X : Nat × (Int → Int)} {h0 : HP} {Q : Int → HP → Prop} {a b : Int} (ha : 0 ≤ a) (hab : a < b) (hb : b < 600) (hg : b - a - 1 ≤ 20) (va : -9999 ≤ h0 15 a ∧ h0 15 a ≤ 9999) (vb : -9999 ≤ h0 15 b ∧ h0 15 b ≤ 9999) (hm : 0 ≤ h0 4 8 ∧ h0 4 8 ≤ 600)
    (H : ∀ h' : HP, (∀ k i, ¬ (((k = 15 ∨ k = 20) ∧ a < i ∧ i < b) ∨ (k = 4 ∧ i = 8)) → h' k i = h0 k i) → (∀ j, a < j → j < b → h' 20 j = 0 ∧ h' 15 j = (h0 15 a * (b - j) + h0 15 b * (j - a)) / (b - a)) → h' 4 8 = h0 4 8 + (b - a - 1) → Q 0 h') :
    Wd mX6_mendBetween X 0 [(2, 4), (0, a), (0, b), (9, 0), (9, 0), (9, 0), (9, 0)] [] h0 Q := by
  refine vX6_mendBetween_0 ⟨by omega, by omega, by omega, by omega, by omega, ?_⟩
  have key : ∀ (d : Nat) (x : Int) (h : HP), b - a - x < d → 1 ≤ x → x ≤ b - a → (∀ k i, ¬ (((k = 15 ∨ k = 20) ∧ a < i ∧ i < a + x) ∨ (k = 4 ∧ i = 8)) → h k i = h0 k i) → (∀ j, a < j → j < a + x → h 20 j = 0 ∧ h 15 j = (h0 15 a * (b - j) + h0 15 b * (j - a)) / (b - a)) → h 4 8 = h0 4 8 + (x - 1) → Wd mX6_mendBetween X 27 [(2, 4), (0, a), (9, 0), (0, b - a), (0, h0 15 a), (0, h0 15 b), (0, x)] [] h Q := by
    intro d
    induction d with
    | zero => intro x h q1 q2 q3; omega
    | succ d ih =>
      intro x h hd hx1 hx2 hf hc hn
      refine vX6_mendBetween_27 ⟨fun c => ?_, fun c => ?_⟩
      · have e : x = b - a := by omega
        subst e
        exact H h (fun k i q => hf k i (by omega)) (fun j q1 q2 => hc j q1 (by omega)) (by omega)
      · have w := wmean (a := h0 15 a) (b := h0 15 b) (p := b - a - x) (q := x) (by omega) (by omega) (by omega) va vb
        rw [show b - a - x + x = b - a by omega] at w
        have w1 := wmean (a := h0 15 a) (b := 0) (p := b - a - x) (q := x) (by omega) (by omega) (by omega) va (by omega)
        have w2 := wmean (a := 0) (b := h0 15 b) (p := b - a - x) (q := x) (by omega) (by omega) (by omega) (by omega) vb
        rw [show b - a - x + x = b - a by omega] at w1 w2
        rw [Int.zero_mul] at w1 w2
        refine ⟨by omega, by omega, by omega, by omega, by omega, ?_⟩
        refine p_meanDown (by omega) (by omega) (by omega) (by omega) (by omega) ?_
        refine vX6_keep_0 ⟨by omega, by omega, ?_⟩
        have e48 : (xu (xu h 15 (a + x) ((h0 15 a * (b - a - x) + h0 15 b * x) / (b - a))) 20 (a + x) 0) 4 8 = h 4 8 := by rw [xu_ne (by omega), xu_ne (by omega)]
        refine ⟨by rw [e48]; omega, by omega, ?_⟩
        refine ih (x + 1) _ (by omega) (by omega) (by omega) (fun k i q => ?_) (fun j q1 q2 => ?_) ?_
        · rw [xu_ne (by omega), xu_ne (by omega), xu_ne (by omega)]
          exact hf k i (by omega)
        · by_cases e : j = a + x
          · refine ⟨?_, ?_⟩
            · rw [xu_ne (by omega), xu_eq rfl e]
            · rw [xu_ne (by omega), xu_ne (by omega), xu_eq rfl e, e]
              rw [show b - (a + x) = b - a - x by omega, show a + x - a = x by omega]
          · have := hc j q1 (by omega)
            rw [xu_ne (by omega), xu_ne (by omega), xu_ne (by omega), xu_ne (by omega), xu_ne (by omega), xu_ne (by omega)]
            exact this
        · rw [xu_eq rfl rfl, e48]; omega
  exact key (b - a).toNat 1 h0 (by omega) (by omega) (by omega) (fun k i _ => rfl) (fun j q1 q2 => by omega) (by omega)
/-- the class's samples, mended: where they are kept, what they are, how many gaps -/
def CM (I : IN) (h : HP) : Prop := (∀ k, 0 ≤ k → k < iN I → (h 20 k = -1 ∧ mM I k = -32768) ∨ (h 20 k = 0 ∧ ¬ mM I k = -32768 ∧ h 15 k = mM I k)) ∧ h 4 7 = C (fun k => iR I k = -32768) 0 (iN I) ∧ h 4 8 = C (fun k => iR I k = -32768 ∧ ¬ mM I k = -32768) 0 (iN I)
theorem p_mendGaps {X : Nat × (Int → Int)} {h0 : HP} {Q : Int → HP → Prop} {I : IN} (hI : OKI I) (hn : h0 3 2 = iN I) (hr : ∀ i, 0 ≤ i → i < iN I → h0 12 i = iR I i)
    (H : ∀ h' : HP, (∀ k i, ¬ (k = 15 ∨ k = 20 ∨ (k = 4 ∧ (i = 7 ∨ i = 8))) → h' k i = h0 k i) → CM I h' → Q 0 h') :
    Wd mX6_mendGaps X 0 [(2, 4), (2, 3), (0, iS I 0), (9, 0), (9, 0)] [] h0 Q := by
  have hN := hI.1
  have hmd := hI.2.2.1
  refine vX6_mendGaps_0 ?_
  have key : ∀ (d : Nat) (a x : Int) (h : HP), iN I - x < d → 0 ≤ x → x ≤ iN I → -1 ≤ a → a < x → (0 ≤ a → ¬ iR I a = -32768 ∧ h 15 a = iR I a) → (∀ j, a < j → j < x → iR I j = -32768 ∧ h 20 j = -1) →
      (∀ j, 0 ≤ j → j ≤ a → (h 20 j = -1 ∧ mM I j = -32768) ∨ (h 20 j = 0 ∧ ¬ mM I j = -32768 ∧ h 15 j = mM I j)) → h 4 7 = C (fun k => iR I k = -32768) 0 x → h 4 8 = C (fun k => iR I k = -32768 ∧ ¬ mM I k = -32768) 0 (a + 1) → (∀ k i, ¬ (k = 15 ∨ k = 20 ∨ (k = 4 ∧ (i = 7 ∨ i = 8))) → h k i = h0 k i) →
      Wd mX6_mendGaps X 15 [(2, 4), (2, 3), (0, iS I 0), (0, a), (0, x)] [] h Q := by
    intro d
    induction d with
    | zero => intro a x h q1 q2 q3; omega
    | succ d ih =>
      intro a x h hd hx0 hx1 ha0 ha1 haR hgap hdone hg7 hg8 hf
      have e32 : h 3 2 = iN I := by rw [hf 3 2 (by omega), hn]
      refine vX6_mendGaps_15 ⟨fun c => ?_, fun c => ?_⟩
      · -- the end
        have ex : x = iN I := by omega
        refine H h hf ⟨fun k q0 q1 => ?_, by rw [hg7, ex], ?_⟩
        · by_cases e : k ≤ a
          · exact hdone k q0 e
          · left
            have := hgap k (by omega) (by omega)
            refine ⟨this.2, mM_ref this.1 (fun a2 b2 z1 z2 z3 z4 z5 z6 z7 => ?_)⟩
            exact absurd (hgap b2 (by omega) (by omega)).1 z6
        · rw [hg8, C_app (a := 0) (b := a + 1) (c := iN I) (by omega) (by omega)]
          have : C (fun k => iR I k = -32768 ∧ ¬ mM I k = -32768) (a + 1) (iN I) = 0 := C_zero (fun i q1 q2 q3 => by
            have z := hgap i (by omega) (by omega)
            refine q3.2 (mM_ref z.1 (fun a2 b2 z1 z2 z3 z4 z5 z6 z7 => ?_))
            exact absurd (hgap b2 (by omega) (by omega)).1 z6)
          omega
      · have hxn : x < iN I := by omega
        have e12 : h 12 x = iR I x := by rw [hf 12 x (by omega), hr x hx0 hxn]
        refine ⟨hx0, by omega, fun c1 => ?_, fun c1 => ?_⟩
        · -- a heave
          rw [e12] at c1
          refine vX6_keep_0 ⟨hx0, by omega, ?_⟩
          rw [e12]
          have hmx : mM I x = iR I x := mM_raw c1
          have hvx := hI.2.1 x hx0 hxn
          -- the heap behind keep
          generalize hk : xu (xu h 15 x (iR I x)) 20 x 0 = h1
          have k15 : h1 15 x = iR I x := by rw [← hk, xu_ne (by omega), xu_eq rfl rfl]
          have k20 : h1 20 x = 0 := by rw [← hk, xu_eq rfl rfl]
          have kf : ∀ k i, ¬ ((k = 15 ∨ k = 20) ∧ i = x) → h1 k i = h k i := fun k i q => by rw [← hk, xu_ne (by omega), xu_ne (by omega)]
          have c7 : C (fun k => iR I k = -32768) 0 (x + 1) = C (fun k => iR I k = -32768) 0 x := C_skip (p := fun k => iR I k = -32768) hx0 c1
          -- nothing between is mended
          have hno : ∀ h2 : HP, (∀ k i, ¬ ((k = 15 ∨ k = 20) ∧ i = x) → h2 k i = h k i) → h2 15 x = iR I x → h2 20 x = 0 → (∀ j, a < j → j < x → mM I j = -32768) → Wd mX6_mendGaps X 15 [(2, 4), (2, 3), (0, iS I 0), (0, x), (0, x + 1)] [] h2 Q := by
            intro h2 g1 g2 g3 g4
            refine ih x (x + 1) h2 (by omega) (by omega) (by omega) (by omega) (by omega) (fun _ => ⟨c1, g2⟩) (fun j q1 q2 => by omega) (fun j q1 q2 => ?_) (by rw [g1 4 7 (by omega), hg7, c7]) ?_ (fun k i q => by rw [g1 k i (by omega)]; exact hf k i q)
            · by_cases e : j = x
              · subst e; right; exact ⟨g3, by rw [hmx]; exact c1, by rw [g2, hmx]⟩
              · rw [g1 20 j (by omega), g1 15 j (by omega)]
                by_cases e2 : j ≤ a
                · exact hdone j q1 e2
                · left; exact ⟨(hgap j (by omega) (by omega)).2, g4 j (by omega) (by omega)⟩
            · rw [g1 4 8 (by omega), hg8, C_app (a := 0) (b := a + 1) (c := x + 1) (by omega) (by omega)]
              have : C (fun k => iR I k = -32768 ∧ ¬ mM I k = -32768) (a + 1) (x + 1) = 0 := C_zero (fun i q1 q2 q3 => by
                by_cases e : i = x
                · subst e; exact c1 q3.1
                · exact q3.2 (g4 i (by omega) (by omega)))
              omega
          refine ⟨fun c2 => ⟨by omega, hno h1 kf k15 k20 (fun j q1 q2 => ?_)⟩, fun c2 => ⟨by omega, by omega, fun c3 => ⟨by omega, hno h1 kf k15 k20 (fun j q1 q2 => ?_)⟩, fun c3 => ?_⟩⟩
          · refine mM_ref (hgap j q1 q2).1 (fun a2 b2 z1 z2 z3 z4 z5 z6 z7 => ?_)
            exact absurd (hgap a2 (by omega) (by omega)).1 z5
          · refine mM_ref (hgap j q1 q2).1 (fun a2 b2 z1 z2 z3 z4 z5 z6 z7 => ?_)
            have e1 : a2 ≤ a := by
              rcases Int.lt_or_le a a2 with z | z
              · exact absurd (hgap a2 z (by omega)).1 z5
              · exact z
            have e2 : x ≤ b2 := by
              rcases Int.lt_or_le b2 x with z | z
              · exact absurd (hgap b2 (by omega) z).1 z6
              · exact z
            omega
          · -- mended
            have haR2 := haR (by omega)
            have hva := hI.2.1 a (by omega) (by omega)
            have e15 : h1 15 a = iR I a := by rw [kf 15 a (by omega), haR2.2]
            have cb8 := C_bound (p := fun k => iR I k = -32768 ∧ ¬ mM I k = -32768) (a := 0) (b := a + 1) (by omega)
            have e48 : h1 4 8 = h 4 8 := kf 4 8 (by omega)
            refine p_mendBetween (by omega) (by omega) (by omega) (by omega) (by rw [e15]; rcases hva with z | z <;> omega) (by rw [k15]; rcases hvx with z | z <;> omega) (by omega) (fun h2 g1 g2 g3 => ⟨by omega, ?_⟩)
            have hmj : ∀ j, a < j → j < x → mM I j = (iR I a * (x - j) + iR I x * (j - a)) / (x - a) := fun j q1 q2 => mM_mend (hgap j q1 q2).1 (by omega) q1 q2 hxn haR2.1 c1 (fun t z1 z2 => (hgap t z1 z2).1) (by omega)
            have hmr : ∀ j, a < j → j < x → ¬ mM I j = -32768 := fun j q1 q2 => by
              have w := wmean (a := iR I a) (b := iR I x) (p := x - j) (q := j - a) (by omega) (by omega) (by omega) (by rcases hva with z | z <;> omega) (by rcases hvx with z | z <;> omega)
              rw [show x - j + (j - a) = x - a by omega] at w
              rw [hmj j q1 q2]; omega
            refine ih x (x + 1) h2 (by omega) (by omega) (by omega) (by omega) (by omega) (fun _ => ⟨c1, by rw [g1 15 x (by omega), k15]⟩) (fun j q1 q2 => by omega) (fun j q1 q2 => ?_) (by rw [g1 4 7 (by omega), kf 4 7 (by omega), hg7, c7]) ?_ (fun k i q => by rw [g1 k i (by omega), kf k i (by omega)]; exact hf k i q)
            · by_cases e : j = x
              · subst e; right; exact ⟨by rw [g1 20 j (by omega), k20], by rw [hmx]; exact c1, by rw [g1 15 j (by omega), k15, hmx]⟩
              · by_cases e2 : j ≤ a
                · rw [g1 20 j (by omega), g1 15 j (by omega), kf 20 j (by omega), kf 15 j (by omega)]
                  exact hdone j q1 e2
                · right
                  have z := g2 j (by omega) (by omega)
                  rw [e15, k15] at z
                  exact ⟨z.1, hmr j (by omega) (by omega), by rw [z.2, hmj j (by omega) (by omega)]⟩
            · rw [g3, e48, hg8, C_app (a := 0) (b := a + 1) (c := x + 1) (by omega) (by omega), C_app (a := a + 1) (b := x) (c := x + 1) (by omega) (by omega)]
              have e1 : C (fun k => iR I k = -32768 ∧ ¬ mM I k = -32768) (a + 1) x = x - (a + 1) := C_all (by omega) (fun i q1 q2 => ⟨(hgap i (by omega) q2).1, hmr i (by omega) q2⟩)
              have e2 : C (fun k => iR I k = -32768 ∧ ¬ mM I k = -32768) x (x + 1) = 0 := C_zero (fun i q1 q2 q3 => by
                have : i = x := by omega
                subst this; exact c1 q3.1)
              omega
        · -- a gap
          rw [e12] at c1
          have cb7 := C_bound (p := fun k => iR I k = -32768) (a := 0) (b := x) (by omega)
          refine ⟨by omega, by omega, ?_⟩
          refine ih a (x + 1) _ (by omega) (by omega) (by omega) (by omega) (by omega) (fun z => by rw [xu_ne (by omega), xu_ne (by omega)]; exact haR z) (fun j q1 q2 => ?_) (fun j q1 q2 => by rw [xu_ne (by omega), xu_ne (by omega), xu_ne (by omega), xu_ne (by omega)]; exact hdone j q1 q2) ?_ (by rw [xu_ne (by omega), xu_ne (by omega)]; exact hg8) (fun k i q => by rw [xu_ne (by omega), xu_ne (by omega)]; exact hf k i q)
          · by_cases e : j = x
            · subst e; exact ⟨c1, xu_eq rfl rfl⟩
            · rw [xu_ne (by omega), xu_ne (by omega)]; exact hgap j q1 (by omega)
          · rw [xu_ne (by omega), xu_eq rfl rfl, hg7, C_succ (p := fun k => iR I k = -32768) hx0 c1]
  refine key (iN I + 1).toNat (-1) 0 _ (by omega) (by omega) (by omega) (by omega) (by omega) (fun z => by omega) (fun j q1 q2 => by omega) (fun j q1 q2 => by omega) ?_ ?_ (fun k i q => by rw [xu_ne (by omega), xu_ne (by omega)])
  · rw [xu_ne (by omega), xu_eq rfl rfl, C_nil (Int.le_refl 0)]
  · rw [xu_eq rfl rfl, C_nil (by omega)]

/-! groups -/
def RS (I : IN) (w : Int) : Prop := HI I w ∧ ¬ (0 < w ∧ HI I (w - 1) ∧ wS I (w - 1) = wS I w)
def RU (I : IN) (w r : Int) : Prop := 1 ≤ r ∧ w + r ≤ nW I ∧ (∀ j, w ≤ j → j < w + r → HI I j ∧ wS I j = wS I w) ∧ (w + r = nW I ∨ ¬ HI I (w + r) ∨ ¬ wS I (w + r) = wS I w)
def RN (I : IN) (w r : Int) : Prop := (RS I w ∧ RU I w r) ∨ (¬ RS I w ∧ r = 0)
theorem RU_uniq {I : IN} {w r q : Int} (h1 : RU I w r) (h2 : RU I w q) : r = q := by
  obtain ⟨a1, a2, a3, a4⟩ := h1
  obtain ⟨b1, b2, b3, b4⟩ := h2
  rcases Int.lt_trichotomy r q with e | e | e
  · have := b3 (w + r) (by omega) (by omega)
    rcases a4 with z | z | z
    · omega
    · exact absurd this.1 z
    · exact absurd this.2 z
  · exact e
  · have := a3 (w + q) (by omega) (by omega)
    rcases b4 with z | z | z
    · omega
    · exact absurd this.1 z
    · exact absurd this.2 z
theorem RN_uniq {I : IN} {w r q : Int} (h1 : RN I w r) (h2 : RN I w q) : r = q := by
  rcases h1 with ⟨a1, a2⟩ | ⟨a1, a2⟩ <;> rcases h2 with ⟨b1, b2⟩ | ⟨b1, b2⟩
  · exact RU_uniq a2 b2
  · exact absurd a1 b1
  · exact absurd b1 a1
  · rw [a2, b2]
noncomputable def rn (I : IN) (w : Int) : Int := Classical.epsilon (RN I w)
theorem rn_of {I : IN} {w r : Int} (h : RN I w r) : rn I w = r := RN_uniq (Classical.epsilon_spec (p := RN I w) ⟨r, h⟩) h
theorem RU_ex {I : IN} {w : Int} : ∀ (d : Nat) (r : Int), nW I - (w + r) ≤ d → 1 ≤ r → w + r ≤ nW I → (∀ j, w ≤ j → j < w + r → HI I j ∧ wS I j = wS I w) → ∃ q, RU I w q
  | 0, r, h1, h2, h3, h4 => ⟨r, h2, h3, h4, Or.inl (by omega)⟩
  | d + 1, r, h1, h2, h3, h4 => by
    by_cases e : w + r = nW I
    · exact ⟨r, h2, h3, h4, Or.inl e⟩
    · rcases Classical.em (HI I (w + r) ∧ wS I (w + r) = wS I w) with z | z
      · refine RU_ex d (r + 1) (by omega) (by omega) (by omega) (fun j q1 q2 => ?_)
        by_cases e2 : j = w + r
        · rw [e2]; exact z
        · exact h4 j q1 (by omega)
      · refine ⟨r, h2, h3, h4, Or.inr ?_⟩
        rcases Classical.em (HI I (w + r)) with y | y
        · exact Or.inr (fun x => z ⟨y, x⟩)
        · exact Or.inl y
theorem RN_at {I : IN} {w : Int} (h1 : w < nW I) : RN I w (rn I w) := by
  apply Classical.epsilon_spec (p := RN I w)
  rcases Classical.em (RS I w) with z | z
  · obtain ⟨q, hq⟩ := RU_ex (I := I) (w := w) (nW I - w).toNat 1 (by omega) (by omega) (by omega) (fun j q1 q2 => by rw [show j = w by omega]; exact ⟨z.1, rfl⟩)
    exact ⟨q, Or.inl ⟨z, hq⟩⟩
  · exact ⟨0, Or.inr ⟨z, rfl⟩⟩
theorem rn_in {I : IN} {w : Int} (h0 : 0 ≤ w) (h1 : w < nW I) : 0 ≤ rn I w ∧ w + rn I w ≤ nW I := by
  rcases RN_at h1 with ⟨a1, a2, a3, a4⟩ | ⟨a1, a2⟩ <;> omega
/-- a group begins here -/
def G (I : IN) (w : Int) : Prop := iS I 3 ≤ rn I w
theorem G_rs {I : IN} (hI : OKI I) {w : Int} (h1 : w < nW I) (h : G I w) : RS I w ∧ RU I w (rn I w) := by
  rcases RN_at h1 with a | ⟨a1, a2⟩
  · exact a
  · unfold G at h; have := hI.2.2.2.2.2.1; omega
theorem RS_in {I : IN} {v j : Int} (h : RU I v (rn I v)) (h0 : 0 ≤ v) (h1 : v < j) (h2 : j < v + rn I v) : ¬ RS I j := fun z => by
  obtain ⟨a1, a2, a3, a4⟩ := h
  have e1 := a3 j (by omega) h2
  have e2 := a3 (j - 1) (by omega) (by omega)
  exact z.2 ⟨by omega, e2.1, by rw [e1.2, e2.2]⟩
/-- the group of a wave -/
def GO (I : IN) (w g : Int) : Prop := (∃ v, 0 ≤ v ∧ v ≤ w ∧ G I v ∧ w < v + rn I v ∧ g = C (G I) 0 v) ∨ ((∀ v, 0 ≤ v → v ≤ w → G I v → v + rn I v ≤ w) ∧ g = -1)
theorem GO_uniq {I : IN} (hI : OKI I) {w g k : Int} (hw : w < nW I) (h1 : GO I w g) (h2 : GO I w k) : g = k := by
  rcases h1 with ⟨v, a1, a2, a3, a4, a5⟩ | ⟨a1, a2⟩ <;> rcases h2 with ⟨u, b1, b2, b3, b4, b5⟩ | ⟨b1, b2⟩
  · rcases Int.lt_trichotomy v u with e | e | e
    · exact absurd (G_rs hI (by omega) b3).1 (RS_in (G_rs hI (by omega) a3).2 a1 e (by omega))
    · rw [a5, b5, e]
    · exact absurd (G_rs hI (by omega) a3).1 (RS_in (G_rs hI (by omega) b3).2 b1 e (by omega))
  · have := b1 v a1 a2 a3; omega
  · have := a1 u b1 b2 b3; omega
  · rw [a2, b2]
def CG (I : IN) (h : HP) : Prop := h 7 3 = C (G I) 0 (nW I) ∧ (∀ v, 0 ≤ v → v < nW I → G I v → h 37 (C (G I) 0 v) = v ∧ h 38 (C (G I) 0 v) = rn I v) ∧ ∀ w, 0 ≤ w → w < nW I → GO I w (h 36 w)
theorem G_skip {I : IN} (hI : OKI I) {a b : Int} (h0 : 0 ≤ a) (hab : a ≤ b) (hb : b ≤ nW I) (h : ∀ j, a ≤ j → j < b → ¬ RS I j) : C (G I) 0 b = C (G I) 0 a := by
  rw [C_app (b := a) h0 hab, C_zero (p := G I) (a := a) (b := b) (fun i q1 q2 q3 => h i q1 q2 (G_rs hI (by omega) q3).1)]
  omega
/-- the class on the way: the waves below w are gone through, r high ones of one stretch stand just before w -/
def CGp (I : IN) (h : HP) (w r : Int) : Prop := h 7 3 = C (G I) 0 (w - r) ∧ (∀ v, 0 ≤ v → v < w - r → G I v → h 37 (C (G I) 0 v) = v ∧ h 38 (C (G I) 0 v) = rn I v ∧ v + rn I v ≤ w - r) ∧ (∀ j, 0 ≤ j → j < w - r → GO I j (h 36 j)) ∧ (∀ j, w - r ≤ j → j < w → h 36 j = -1) ∧ (0 ≤ r ∧ r ≤ w) ∧ (∀ j, w - r ≤ j → j < w → HI I j ∧ wS I j = wS I (w - r)) ∧ (1 ≤ r → RS I (w - r)) ∧ (r = 0 → w = 0 ∨ ¬ HI I (w - 1) ∨ wS I (w - 1) ≠ wS I w)
theorem p_close {X : Nat × (Int → Int)} {h0 : HP} {Q : Int → HP → Prop} {I : IN} (hI : OKI I) {w r : Int} (hw1 : w ≤ nW I) (hG : CGp I h0 w r) (he : 1 ≤ r → w = nW I ∨ ¬ HI I w ∨ ¬ wS I w = wS I (w - r))
    (H : ∀ h' : HP, (∀ k i, ¬ ((k = 36 ∧ i < w) ∨ k = 37 ∨ k = 38 ∨ (k = 7 ∧ i = 3)) → h' k i = h0 k i) → h' 7 3 = C (G I) 0 w → (∀ v, 0 ≤ v → v < w → G I v → h' 37 (C (G I) 0 v) = v ∧ h' 38 (C (G I) 0 v) = rn I v ∧ v + rn I v ≤ w) → (∀ j, 0 ≤ j → j < w → GO I j (h' 36 j)) → Q 0 h') : Wd mX0_close X 0 [(2, 7), (0, w), (0, r), (0, iS I 3), (9, 0)] [] h0 Q := by
  have hn := nW_le hI
  have hl := hI.2.2.2.2.2.1
  obtain ⟨g1, g2, g3, g4, g5, g6, g7, g8⟩ := hG
  have cb := C_bound (p := G I) (show (0 : Int) ≤ w - r by omega)
  have hrun : 1 ≤ r → RU I (w - r) r := fun q => ⟨q, by omega, fun j q1 q2 => g6 j q1 (by omega), by rw [show w - r + r = w by omega]; exact he q⟩
  have hrn : 1 ≤ r → rn I (w - r) = r := fun q => rn_of (Or.inl ⟨g7 q, hrun q⟩)
  have hns : ∀ j, w - r < j → j < w → ¬ RS I j := fun j q1 q2 => by
    have := hrn (by omega)
    exact RS_in (v := w - r) (by rw [this]; exact hrun (by omega)) (by omega) q1 (by omega)
  have hold : r < iS I 3 → C (G I) 0 w = C (G I) 0 (w - r) ∧ (∀ j, w - r ≤ j → j < w → ¬ G I j) := fun q => by
    have k : ∀ j, w - r ≤ j → j < w → ¬ G I j := fun j q1 q2 z => by
      by_cases e : j = w - r
      · unfold G at z; rw [e, hrn (by omega)] at z; omega
      · exact hns j (by omega) q2 (G_rs hI (by omega) z).1
    refine ⟨?_, k⟩
    rw [C_app (b := w - r) (by omega) (by omega), C_zero (p := G I) (a := w - r) (b := w) k]
    omega
  refine vX0_close_0 ⟨fun c => ?_, fun c => ⟨fun c1 => ⟨by omega, by omega, by omega, ?_⟩, fun c1 => by omega⟩⟩
  · obtain ⟨k1, k2⟩ := hold c
    refine H h0 (fun k i _ => rfl) (by rw [k1]; exact g1) (fun v q1 q2 q3 => ?_) (fun j q1 q2 => ?_)
    · by_cases e : v < w - r
      · have := g2 v q1 e q3
        exact ⟨this.1, this.2.1, by omega⟩
      · exact absurd q3 (k2 v (by omega) q2)
    · by_cases e : j < w - r
      · exact g3 j q1 e
      · rw [g4 j (by omega) q2]
        refine Or.inr ⟨fun v y1 y2 y3 => ?_, rfl⟩
        by_cases e2 : v < w - r
        · have := (g2 v y1 e2 y3).2.2; omega
        · exact absurd y3 (k2 v (by omega) (by omega))
  · have hG9 : G I (w - r) := by unfold G; rw [hrn (by omega)]; omega
    have hC9 : C (G I) 0 w = C (G I) 0 (w - r) + 1 := by
      have e1 := G_skip hI (a := w - r + 1) (b := w) (by omega) (by omega) hw1 (fun j q1 q2 => hns j (by omega) q2)
      rw [e1, C_succ (by omega) hG9]
    have loop : ∀ (d : Nat) (x : Int) (h : HP), w - x < d → w - r ≤ x → x ≤ w → (∀ k i, ¬ ((k = 36 ∧ (w - r ≤ i ∧ i < w)) ∨ ((k = 37 ∨ k = 38) ∧ i = C (G I) 0 (w - r))) → h k i = h0 k i) → h 37 (C (G I) 0 (w - r)) = w - r → h 38 (C (G I) 0 (w - r)) = r → (∀ j, w - r ≤ j → j < x → h 36 j = C (G I) 0 (w - r)) → Wd mX0_close X 45 [(2, 7), (0, w), (9, 0), (9, 0), (0, x)] [] h Q := by
      intro d
      induction d with
      | zero => intro x h q1 q2 q3; omega
      | succ d ih =>
        intro x h hd hx0 hx1 f e37 e38 e36
        have e73 : h 7 3 = C (G I) 0 (w - r) := by rw [f 7 3 (by omega)]; exact g1
        refine vX0_close_45 ⟨fun c2 => ?_, fun c2 => ?_⟩
        · rw [e73]
          refine ⟨by omega, H _ (fun k i q => by rw [xu_ne (by omega)]; exact f k i (by omega)) (by rw [xu_eq rfl rfl, hC9]) (fun v q1 q2 q3 => ?_) (fun j q1 q2 => ?_)⟩
          · rw [xu_ne (by omega), xu_ne (by omega)]
            by_cases e : v < w - r
            · have k1 := g2 v q1 e q3
              have k2 := C_lt (p := G I) q1 e q3
              rw [f 37 _ (by omega), f 38 _ (by omega)]
              exact ⟨k1.1, k1.2.1, by omega⟩
            · have e2 : v = w - r := by
                by_cases e2 : v = w - r
                · exact e2
                · exact absurd (G_rs hI (by omega) q3).1 (hns v (by omega) q2)
              rw [e2, hrn (by omega)]
              exact ⟨e37, e38, by omega⟩
          · rw [xu_ne (by omega)]
            by_cases e : j < w - r
            · rw [f 36 _ (by omega)]; exact g3 j q1 e
            · rw [e36 j (by omega) (by omega)]
              exact Or.inl ⟨w - r, by omega, by omega, hG9, by rw [hrn (by omega)]; omega, rfl⟩
        · rw [e73]
          refine ⟨by omega, by omega, by omega, ih (x + 1) _ (by omega) (by omega) (by omega) (fun k i q => by rw [xu_ne (by omega)]; exact f k i q) (by rw [xu_ne (by omega)]; exact e37) (by rw [xu_ne (by omega)]; exact e38) (fun j q1 q2 => ?_)⟩
          by_cases e : j = x
          · rw [xu_eq rfl e]
          · rw [xu_ne (by omega)]; exact e36 j q1 (by omega)
    rw [g1]
    refine loop (r + 1).toNat (w - r) _ (by omega) (by omega) (by omega) (fun k i q => by rw [xu_ne (by omega), xu_ne (by omega)]) (by rw [xu_ne (by omega), xu_eq rfl rfl]) (by rw [xu_eq rfl rfl]) (fun j q1 q2 => by omega)
theorem CIn.keep {I : IN} {h h' : HP} (H : CIn I h) (hf : ∀ k i, (k = 12 ∨ k = 9 ∨ k = 10 ∨ k = 11 ∨ (k = 1 ∧ 1 ≤ i ∧ i ≤ 4) ∨ (k = 3 ∧ i = 2) ∨ (k = 2 ∧ i = 2)) → h' k i = h k i) : CIn I h' :=
  ⟨by rw [hf 3 2 (by omega)]; exact H.1, fun i q1 q2 => by rw [hf 12 i (by omega)]; exact H.2.1 i q1 q2, fun i q1 q2 => by rw [hf 9 i (by omega)]; exact H.2.2.1 i q1 q2, by rw [hf 1 1 (by omega), hf 1 2 (by omega), hf 1 3 (by omega), hf 1 4 (by omega)]; exact H.2.2.2.1, by rw [hf 2 2 (by omega)]; exact H.2.2.2.2.1, fun i q1 q2 => by rw [hf 10 i (by omega), hf 11 i (by omega)]; exact H.2.2.2.2.2 i q1 q2⟩
theorem CQ.keep {I : IN} {h h' : HP} (H : CQ I h) (hf : ∀ k i, k = 6 → h' k i = h k i) : CQ I h' := by
  unfold CQ; rw [hf 6 2 rfl, hf 6 3 rfl, hf 6 4 rfl, hf 6 5 rfl, hf 6 6 rfl]; exact H
theorem p_find0 {X : Nat × (Int → Int)} {h0 : HP} {Q : Int → HP → Prop} {I : IN} (hI : OKI I) (hC : CIn I h0) (hW9 : CWn I h0) (hq : CQ I h0)
    (H : ∀ h' : HP, (∀ k i, ¬ (k = 36 ∨ k = 37 ∨ k = 38 ∨ (k = 7 ∧ i = 3)) → h' k i = h0 k i) → CG I h' → Q 0 h') : Wd mX0_find X 0 [(2, 7), (2, 5), (2, 6), (2, 1), (9, 0), (9, 0), (9, 0), (9, 0)] [] h0 Q := by
  have hn := nW_le hI
  have hl := hI.2.2.2.2.2.1
  have loop : ∀ (d : Nat) (w r : Int) (h : HP), nW I - w < d → 0 ≤ w → w ≤ nW I → (∀ k i, ¬ (k = 36 ∨ k = 37 ∨ k = 38 ∨ (k = 7 ∧ i = 3)) → h k i = h0 k i) → CGp I h w r → Wd mX0_find X 11 [(2, 7), (2, 5), (2, 6), (2, 1), (0, r), (0, w), (9, 0), (9, 0)] [] h Q := by
    intro d
    induction d with
    | zero => intro w r h q1 q2 q3; omega
    | succ d ih =>
      intro w r h hd hw0 hw1 f g
      have e5 : h 5 10 = nW I := by rw [f 5 10 (by omega)]; exact hW9.1
      have e93 : ∀ h' : HP, (∀ k i, ¬ (k = 36 ∨ k = 37 ∨ k = 38 ∨ (k = 7 ∧ i = 3)) → h' k i = h0 k i) → h' 9 3 = iS I 3 := fun h' f' => by rw [f' 9 3 (by omega)]; exact hC.2.2.1 3 (by omega) (by omega)
      refine vX0_find_11 ⟨fun c => ?_, fun c => ?_⟩
      · refine vX4_least_0 ?_
        rw [e93 h f, e5]
        have ew : w = nW I := by omega
        subst ew
        refine p_close hI (Int.le_refl _) g (fun _ => Or.inl rfl) (fun h' f' c1 c2 c3 => H h' (fun k i q => by rw [f' k i (by omega)]; exact f k i q) ⟨c1, fun v q1 q2 q3 => ⟨(c2 v q1 q2 q3).1, (c2 v q1 q2 q3).2.1⟩, c3⟩)
      · have hw2 : w < nW I := by omega
        have e30 : h 30 w = wS I w := by rw [f 30 w (by omega)]; exact (hW9.2 w hw0 hw2).2.2.2.2.2.1
        have fx : ∀ k i, ¬ (k = 36 ∨ k = 37 ∨ k = 38 ∨ (k = 7 ∧ i = 3)) → xu h 36 w (-1) k i = h0 k i := fun k i q => by rw [xu_ne (by omega)]; exact f k i q
        have gx : CGp I (xu h 36 w (-1)) w r := by
          obtain ⟨g1, g2, g3, g4, g5, g6, g7, g8⟩ := g
          refine ⟨by rw [xu_ne (by omega)]; exact g1, fun v q1 q2 q3 => by rw [xu_ne (by omega), xu_ne (by omega)]; exact g2 v q1 q2 q3, fun j q1 q2 => by rw [xu_ne (by omega)]; exact g3 j q1 q2, fun j q1 q2 => by rw [xu_ne (by omega)]; exact g4 j q1 q2, g5, g6, g7, g8⟩
        have hx36 : xu h 36 w (-1) 36 w = -1 := xu_eq rfl rfl
        generalize xu h 36 w (-1) = hx at fx gx hx36
        have hCx : CIn I hx := hC.keep (fun k i q => fx k i (by omega))
        have hWx : CWn I hx := hW9.keep (fun k i q => fx k i (by omega))
        have hqx : CQ I hx := hq.keep (fun k i q => fx k i (by omega))
        -- no close: a high one that goes on
        have goes : HI I w → (w = 0 ∨ wS I w = wS I (w - 1)) → Wd mX0_find X 11 [(2, 7), (2, 5), (2, 6), (2, 1), (0, r + 1), (0, w + 1), (9, 0), (9, 0)] [] hx Q := fun hh hs => by
          refine ih (w + 1) (r + 1) hx (by omega) (by omega) (by omega) fx ?_
          obtain ⟨g1, g2, g3, g4, g5, g6, g7, g8⟩ := gx
          unfold CGp
          rw [show w + 1 - (r + 1) = w - r by omega]
          refine ⟨g1, g2, g3, fun j q1 q2 => ?_, by omega, fun j q1 q2 => ?_, fun _ => ?_, fun q => by omega⟩
          · by_cases e : j = w
            · rw [e]; exact hx36
            · exact g4 j q1 (by omega)
          · by_cases e : j = w
            · rw [e]
              refine ⟨hh, ?_⟩
              by_cases e2 : r = 0
              · rw [e2, Int.sub_zero]
              · rcases hs with hs | hs
                · omega
                · rw [hs]; exact (g6 (w - 1) (by omega) (by omega)).2
            · exact g6 j q1 (by omega)
          · by_cases e2 : r = 0
            · rw [e2, Int.sub_zero]
              refine ⟨hh, fun z => ?_⟩
              rcases g8 e2 with y | y | y
              · omega
              · exact y z.2.1
              · exact y z.2.2
            · exact g7 (by omega)
        -- close, then the wave itself
        have shut : (¬ HI I w ∨ (0 < w ∧ ¬ wS I w = wS I (w - 1))) → ∀ (q : Int → HP → Prop), (∀ h' : HP, (HI I w → q 0 h' = q 0 h') → (HI I w → Wd mX0_find X 11 [(2, 7), (2, 5), (2, 6), (2, 1), (0, 0 + 1), (0, w + 1), (9, 0), (9, 0)] [] h' Q) → (¬ HI I w → Wd mX0_find X 11 [(2, 7), (2, 5), (2, 6), (2, 1), (0, 0), (0, w + 1), (9, 0), (9, 0)] [] h' Q) → q 0 h') → Wd mX0_close X 0 [(2, 7), (0, w), (0, r), (0, iS I 3), (9, 0)] [] hx q := fun hs q hq9 => by
          obtain ⟨g1, g2, g3, g4, g5, g6, g7, g8⟩ := id gx
          refine p_close hI hw1 gx (fun q1 => Or.inr ?_) (fun h' f' c1 c2 c3 => ?_)
          · rcases hs with hs | hs
            · exact Or.inl hs
            · right
              rw [← (g6 (w - 1) (by omega) (by omega)).2]
              exact hs.2
          have f9 : ∀ k i, ¬ (k = 36 ∨ k = 37 ∨ k = 38 ∨ (k = 7 ∧ i = 3)) → h' k i = h0 k i := fun k i q => by rw [f' k i (by omega)]; exact fx k i q
          have e36 : h' 36 w = -1 := by rw [f' 36 w (by omega)]; exact hx36
          refine hq9 h' (fun _ => rfl) (fun hh => ?_) (fun hh => ?_)
          · refine ih (w + 1) (0 + 1) h' (by omega) (by omega) (by omega) f9 ?_
            unfold CGp
            rw [show w + 1 - (0 + 1) = w by omega]
            refine ⟨c1, c2, c3, fun j q1 q2 => by rw [show j = w by omega]; exact e36, by omega, fun j q1 q2 => by rw [show j = w by omega]; exact ⟨hh, rfl⟩, fun _ => ⟨hh, fun z => ?_⟩, fun q => by omega⟩
            rcases hs with hs | hs
            · exact hs hh
            · exact hs.2 z.2.2.symm
          · refine ih (w + 1) 0 h' (by omega) (by omega) (by omega) f9 ?_
            unfold CGp
            rw [Int.sub_zero, show w + 1 - 1 = w by omega]
            have nrs : ¬ RS I w := fun z => hh z.1
            have ng : ¬ G I w := fun z => nrs (G_rs hI hw2 z).1
            refine ⟨by rw [C_skip hw0 ng]; exact c1, fun v q1 q2 q3 => ?_, fun j q1 q2 => ?_, fun j q1 q2 => by omega, by omega, fun j q1 q2 => by omega, fun q => by omega, fun _ => Or.inr (Or.inl hh)⟩
            · by_cases e : v = w
              · rw [e] at q3; exact absurd q3 ng
              · have := c2 v q1 (by omega) q3
                exact ⟨this.1, this.2.1, by omega⟩
            · by_cases e : j = w
              · rw [e, e36]
                refine Or.inr ⟨fun v y1 y2 y3 => ?_, rfl⟩
                by_cases e2 : v = w
                · rw [e2] at y3; exact absurd y3 ng
                · exact (c2 v y1 (by omega) y3).2.2
              · exact c3 j q1 (by omega)
        refine ⟨hw0, by omega, fun c1 => ?_, fun c1 => ⟨by omega, by omega, by omega, fun c2 => ?_, fun c2 => ?_⟩⟩
        · refine p_isHigh hI hCx hWx hqx hw0 hw2 (fun hh => ⟨fun _ => ⟨fun z => by omega, fun _ => ⟨by have := gx.2.2.2.2.1; omega, by omega, goes hh (Or.inl (by omega))⟩⟩, fun z => by omega⟩) (fun hh => ⟨fun z => absurd rfl z, fun _ => ?_⟩)
          refine vX4_least_0 ?_
          rw [e93 hx fx]
          exact shut (Or.inl hh) _ (fun h' _ _ k2 => ⟨fun _ => ⟨by omega, k2 hh⟩, fun z => absurd rfl z⟩)
        · have e30' : h 30 (w - 1) = wS I (w - 1) := by rw [f 30 (w - 1) (by omega)]; exact (hW9.2 (w - 1) (by omega) (by omega)).2.2.2.2.2.1
          rw [e30, e30'] at c2
          refine p_isHigh hI hCx hWx hqx hw0 hw2 (fun hh => ⟨fun _ => ⟨fun z => by omega, fun _ => ⟨by have := gx.2.2.2.2.1; omega, by omega, goes hh (Or.inr c2)⟩⟩, fun z => by omega⟩) (fun hh => ⟨fun z => absurd rfl z, fun _ => ?_⟩)
          refine vX4_least_0 ?_
          rw [e93 hx fx]
          exact shut (Or.inl hh) _ (fun h' _ _ k2 => ⟨fun _ => ⟨by omega, k2 hh⟩, fun z => absurd rfl z⟩)
        · have e30' : h 30 (w - 1) = wS I (w - 1) := by rw [f 30 (w - 1) (by omega)]; exact (hW9.2 (w - 1) (by omega) (by omega)).2.2.2.2.2.1
          rw [e30, e30'] at c2
          refine p_isHigh hI hCx hWx hqx hw0 hw2 (fun hh => vX4_least_0 ?_) (fun hh => vX4_least_0 ?_)
          · rw [e93 hx fx]
            exact shut (Or.inr ⟨by omega, c2⟩) _ (fun h' _ k1 _ => ⟨fun z => by omega, fun _ => ⟨by omega, by omega, k1 hh⟩⟩)
          · rw [e93 hx fx]
            exact shut (Or.inr ⟨by omega, c2⟩) _ (fun h' _ _ k2 => ⟨fun _ => ⟨by omega, k2 hh⟩, fun z => absurd rfl z⟩)
  refine vX0_find_0 (loop (nW I + 1).toNat 0 0 _ (by omega) (by omega) hn.1 (fun k i q => by rw [xu_ne (by omega)]) ?_)
  unfold CGp
  rw [Int.sub_zero]
  exact ⟨by rw [xu_eq rfl rfl, C_nil (Int.le_refl 0)], fun v q1 q2 => by omega, fun v q1 q2 => by omega, fun v q1 q2 => by omega, by omega, fun v q1 q2 => by omega, fun q => by omega, fun _ => Or.inl rfl⟩
/-! the model's groups -/
/-- what the model has laid -/
def MX (I : IN) (h : HP) : Prop := ML I h ∧ MWn I h ∧ (∀ w, 0 ≤ w → w < nW I → h 63 w = rk I w) ∧ (∀ w, 0 ≤ w → w < nW I → (HI I w → h 64 w = 1) ∧ (¬ HI I w → h 64 w = 0)) ∧ WO9 I h 56 (nW I) ∧ ∀ t, 0 ≤ t → t < nS I → MH I h t
theorem MX.hi {I : IN} {h : HP} (H : MX I h) {w : Int} (h0 : 0 ≤ w) (h1 : w < nW I) : h 64 w = 0 ↔ ¬ HI I w := by
  have := H.2.2.2.1 w h0 h1
  constructor
  · intro z y
    have := this.1 y
    omega
  · exact this.2
theorem p_run {X : Nat × (Int → Int)} {h : HP} {Q : Int → HP → Prop} {I : IN} (hI : OKI I) (hM : MX I h) {w : Int} (h0 : 0 ≤ w) (h1 : w < nW I) (H : Q (rn I w) h) : Wd mX9_run X 0 [(2, 41), (0, w), (9, 0)] [] h Q := by
  have hn := nW_le hI
  have hmw := hM.2.1
  have loop : RS I w → Wd mX9_run X 45 [(2, 41), (0, w), (0, 0)] [] h Q := fun hr => by
    have key : ∀ (d : Nat) (r : Int), nW I - (w + r) < d → 0 ≤ r → w + r ≤ nW I → (∀ j, w ≤ j → j < w + r → HI I j ∧ wS I j = wS I w) → Wd mX9_run X 45 [(2, 41), (0, w), (0, r)] [] h Q := by
      intro d
      induction d with
      | zero => intro r q1 q2 q3; omega
      | succ d ih =>
        intro r hd hr0 hr1 hj
        have done : 1 ≤ r → (w + r = nW I ∨ ¬ HI I (w + r) ∨ ¬ wS I (w + r) = wS I w) → Q r h := fun q1 q2 => by
          rw [rn_of (Or.inl ⟨hr, q1, hr1, hj, q2⟩)] at H; exact H
        have r1 : ¬ (w + r = nW I ∨ ¬ HI I (w + r) ∨ ¬ wS I (w + r) = wS I w) ∨ 1 ≤ r := by
          by_cases e : r = 0
          · left
            rw [e, Int.add_zero]
            intro z
            rcases z with z | z | z
            · omega
            · exact z hr.1
            · exact z rfl
          · right; omega
        have done2 : (w + r = nW I ∨ ¬ HI I (w + r) ∨ ¬ wS I (w + r) = wS I w) → Q r h := fun q => done (r1.resolve_left (fun z => z q)) q
        refine vX9_run_45 ⟨by omega, fun c => done2 (Or.inl (by have := hmw.1; omega)), fun c => ?_⟩
        rw [hmw.1] at c
        have e62 := (hmw.2 (w + r) (by omega) (by omega)).2.2.2.2.2.1
        have e62' := (hmw.2 w h0 h1).2.2.2.2.2.1
        have hi := hM.hi (w := w + r) (by omega) (by omega)
        rw [e62, e62']
        refine ⟨by omega, by omega, fun c1 => done2 (Or.inr (Or.inl (hi.mp c1))), fun c1 => ⟨h0, by omega, fun c2 => done2 (Or.inr (Or.inr c2)), fun c2 => ⟨by omega, ih (r + 1) (by omega) (by omega) (by omega) (fun j q1 q2 => ?_)⟩⟩⟩
        by_cases e : j = w + r
        · rw [e]
          exact ⟨Classical.byContradiction (fun z => c1 (hi.mpr z)), c2⟩
        · exact hj j q1 (by omega)
    exact key (nW I - w + 1).toNat 0 (by omega) (by omega) (by omega) (fun j q1 q2 => by omega)
  have hi := hM.hi h0 h1
  have no : ¬ RS I w → Q 0 h := fun z => by rw [rn_of (Or.inr ⟨z, rfl⟩)] at H; exact H
  refine vX9_run_0 ⟨h0, by omega, fun c => no (fun z => hi.mp c z.1), fun c => ?_⟩
  have hh : HI I w := Classical.byContradiction (fun z => c (hi.mpr z))
  refine ⟨fun c1 => loop ⟨hh, fun z => by omega⟩, fun c1 => ⟨by omega, by omega, by omega, fun c2 => loop ⟨hh, fun z => ?_⟩, fun c2 => ?_⟩⟩
  · exact (hM.hi (w := w - 1) (by omega) (by omega)).mp c2 z.2.1
  · have hh2 : HI I (w - 1) := Classical.byContradiction (fun z => c2 ((hM.hi (w := w - 1) (by omega) (by omega)).mpr z))
    rw [(hmw.2 w h0 h1).2.2.2.2.2.1, (hmw.2 (w - 1) (by omega) (by omega)).2.2.2.2.2.1]
    exact ⟨fun c3 => loop ⟨hh, fun z => c3 z.2.2⟩, fun c3 => no (fun z => z.2 ⟨by omega, hh2, c3⟩)⟩
theorem MX.e3 {I : IN} {h : HP} (H : MX I h) : h 43 3 = iS I 3 := H.1.1.2.2.1 3 (by omega) (by omega)
theorem p_groups {X : Nat × (Int → Int)} {h : HP} {Q : Int → HP → Prop} {I : IN} (hI : OKI I) (hM : MX I h) (H : Q (C (G I) 0 (nW I)) h) : Wd mX9_groups X 0 [(2, 41), (9, 0), (9, 0)] [] h Q := by
  have hn := nW_le hI
  have key : ∀ (d : Nat) (x : Int), nW I - x < d → 0 ≤ x → x ≤ nW I → Wd mX9_groups X 4 [(2, 41), (0, C (G I) 0 x), (0, x)] [] h Q := by
    intro d
    induction d with
    | zero => intro x q1 q2 q3; omega
    | succ d ih =>
      intro x hd hx0 hx1
      have cb := C_bound (p := G I) hx0
      refine vX9_groups_4 ⟨fun c => ?_, fun c => ?_⟩
      · have := hM.2.1.1
        rw [show x = nW I by omega]; exact H
      · rw [hM.2.1.1] at c
        refine p_run hI hM hx0 (by omega) ?_
        rw [hM.e3]
        have n := ih (x + 1) (by omega) (by omega) (by omega)
        refine ⟨fun c1 => ⟨by omega, by omega, ?_⟩, fun c1 => ⟨by omega, by omega, ?_⟩⟩
        · rw [C_skip hx0 (by unfold G; omega)] at n
          rw [Int.add_zero]; exact n
        · rw [C_succ hx0 (by unfold G; omega)] at n
          exact n
  have := key (nW I + 1).toNat 0 (by omega) (by omega) hn.1
  rw [C_nil (Int.le_refl 0)] at this
  exact vX9_groups_0 this
theorem p_groupAt {X : Nat × (Int → Int)} {h : HP} {Q : Int → HP → Prop} {I : IN} (hI : OKI I) (hM : MX I h) {g : Int} (H1 : ∀ v, 0 ≤ v → v < nW I → G I v → C (G I) 0 v = g → Q v h) (H0 : ¬ (0 ≤ g ∧ g < C (G I) 0 (nW I)) → Q (-1) h) : Wd mX9_groupAt X 0 [(2, 41), (0, g), (9, 0), (9, 0)] [] h Q := by
  have hn := nW_le hI
  have key : ∀ (d : Nat) (x : Int), nW I - x < d → 0 ≤ x → x ≤ nW I → ¬ (0 ≤ g ∧ g < C (G I) 0 x) → Wd mX9_groupAt X 4 [(2, 41), (0, g), (0, C (G I) 0 x), (0, x)] [] h Q := by
    intro d
    induction d with
    | zero => intro x q1 q2 q3; omega
    | succ d ih =>
      intro x hd hx0 hx1 hg
      have cb := C_bound (p := G I) hx0
      refine vX9_groupAt_4 ⟨fun c => ?_, fun c => ?_⟩
      · have := hM.2.1.1
        rw [show x = nW I by omega] at hg
        exact H0 hg
      · rw [hM.2.1.1] at c
        refine p_run hI hM hx0 (by omega) ?_
        rw [hM.e3]
        have n := ih (x + 1) (by omega) (by omega) (by omega)
        refine ⟨fun c1 => ⟨fun c2 => ⟨by omega, by omega, ?_⟩, fun c2 => H1 x hx0 (by omega) c1 c2⟩, fun c1 => ⟨by omega, ?_⟩⟩
        · rw [C_succ hx0 (show G I x from c1)] at n
          exact n (by omega)
        · rw [C_skip hx0 (show ¬ G I x from c1)] at n
          exact n hg
  have := key (nW I + 1).toNat 0 (by omega) (by omega) hn.1
  rw [C_nil (Int.le_refl 0)] at this
  exact vX9_groupAt_0 (this (by omega))
theorem p_groupOf {X : Nat × (Int → Int)} {h : HP} {Q : Int → HP → Prop} {I : IN} (hI : OKI I) (hM : MX I h) {w : Int} (h0 : 0 ≤ w) (h1 : w < nW I) (H : ∀ g, GO I w g → Q g h) : Wd mX9_groupOf X 0 [(2, 41), (0, w), (9, 0), (9, 0)] [] h Q := by
  have hn := nW_le hI
  have key : ∀ (d : Nat) (x : Int), w + 1 - x < d → 0 ≤ x → x ≤ w + 1 → (∀ v, 0 ≤ v → v < x → G I v → v + rn I v ≤ w) → Wd mX9_groupOf X 4 [(2, 41), (0, w), (0, C (G I) 0 x - 1), (0, x)] [] h Q := by
    intro d
    induction d with
    | zero => intro x q1 q2 q3; omega
    | succ d ih =>
      intro x hd hx0 hx1 hg
      have cb := C_bound (p := G I) hx0
      refine vX9_groupOf_4 ⟨fun c => H _ (Or.inr ⟨fun v y1 y2 y3 => hg v y1 (by omega) y3, rfl⟩), fun c => ?_⟩
      have hr := rn_in (I := I) (w := x) hx0 (by omega)
      refine p_run hI hM hx0 (by omega) ?_
      rw [hM.e3]
      have n := ih (x + 1) (by omega) (by omega) (by omega)
      refine ⟨fun c1 => ⟨by omega, p_run hI hM hx0 (by omega) ⟨by omega, fun c2 => ⟨by omega, ?_⟩, fun c2 => H _ (Or.inl ⟨x, hx0, by omega, c1, by omega, by omega⟩)⟩⟩, fun c1 => ⟨by omega, ?_⟩⟩
      · rw [C_succ hx0 (show G I x from c1), show C (G I) 0 x + 1 - 1 = C (G I) 0 x - 1 + 1 by omega] at n
        refine n (fun v y1 y2 y3 => ?_)
        by_cases e : v = x
        · rw [e]; exact c2
        · exact hg v y1 (by omega) y3
      · rw [C_skip hx0 (show ¬ G I x from c1)] at n
        refine n (fun v y1 y2 y3 => ?_)
        by_cases e : v = x
        · rw [e] at y3; exact absurd y3 c1
        · exact hg v y1 (by omega) y3
  have := key (w + 2).toNat 0 (by omega) (by omega) (by omega) (fun v q1 q2 => by omega)
  rw [C_nil (Int.le_refl 0)] at this
  exact vX9_groupOf_0 this

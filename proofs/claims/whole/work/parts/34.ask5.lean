/-! gone -/
theorem AR_within {f : Int → Int} {lv b a y : Int} (hay : a ≤ y) : ∀ n : Nat, (∀ k, y ≤ k → k < y + n → -b ≤ f k - lv ∧ f k - lv ≤ b) → (AR f lv b a (y + n) ↔ AR f lv b a y)
  | 0, _ => by rw [show y + ((0 : Nat) : Int) = y by omega]
  | n + 1, h => by
    have ih := AR_within hay n (fun k q1 q2 => h k q1 (by omega))
    have hk := h (y + n) (by omega) (by omega)
    rw [show y + ((n + 1 : Nat) : Int) = y + n + 1 by omega, AR_succ (by omega)]
    constructor
    · intro z
      rcases z with z | z
      · omega
      · exact ih.mp z.1
    · intro z
      exact Or.inr ⟨ih.mpr z, by omega⟩
theorem AR_from {f : Int → Int} {lv b a y x : Int} (hay : a ≤ y) (hyx : y ≤ x) (h : ∀ k, y ≤ k → k < x → -b ≤ f k - lv ∧ f k - lv ≤ b) : AR f lv b a x ↔ AR f lv b a y := by
  have := AR_within (f := f) (lv := lv) (b := b) hay (x - y).toNat (fun k q1 q2 => h k q1 (by omega))
  rw [show y + (((x - y).toNat : Nat) : Int) = x by omega] at this
  exact this
/-- the latest one outside of the band, before x -/
def LO (f : Int → Int) (lv b a x v : Int) : Prop := (v = 0 ∧ ∀ j, a ≤ j → j < x → -b ≤ f j - lv ∧ f j - lv ≤ b) ∨ (∃ j, a ≤ j ∧ j < x ∧ v = f j - lv ∧ (b < v ∨ v < -b) ∧ ∀ k, j < k → k < x → -b ≤ f k - lv ∧ f k - lv ≤ b)
theorem LO_AR {f : Int → Int} {lv b a x v : Int} (hb : 0 ≤ b) (hax : a ≤ x) (h : LO f lv b a x v) : AR f lv b a x ↔ v < 0 := by
  rcases h with ⟨h1, h2⟩ | ⟨j, j1, j2, j3, j4, j5⟩
  · rw [AR_from (Int.le_refl a) hax h2]
    exact ⟨fun z => absurd z AR_0, fun z => by omega⟩
  · rw [AR_from (y := j + 1) (by omega) (by omega) (fun k q1 q2 => j5 k (by omega) q2), AR_succ j1]
    constructor
    · intro z
      rcases z with z | z <;> omega
    · intro z
      exact Or.inl (by omega)
theorem LO_add {f : Int → Int} {lv b a x v : Int} (hax : a ≤ x) (h : LO f lv b a x v) : ((b < f x - lv ∨ f x - lv < -b) → LO f lv b a (x + 1) (f x - lv)) ∧ (¬ (b < f x - lv ∨ f x - lv < -b) → LO f lv b a (x + 1) v) := by
  refine ⟨fun z => Or.inr ⟨x, hax, by omega, rfl, z, fun k q1 q2 => by omega⟩, fun z => ?_⟩
  rcases h with ⟨h1, h2⟩ | ⟨j, j1, j2, j3, j4, j5⟩
  · refine Or.inl ⟨h1, fun k q1 q2 => ?_⟩
    by_cases e : k = x
    · rw [e]; omega
    · exact h2 k q1 (by omega)
  · refine Or.inr ⟨j, j1, by omega, j3, j4, fun k q1 q2 => ?_⟩
    by_cases e : k = x
    · rw [e]; omega
    · exact j5 k q1 (by omega)
/-- a crossing by the band lies from c to before e -/
def HC (I : IN) (s c e b : Int) : Prop := ∃ k, c ≤ k ∧ k < e ∧ cr I b s k
theorem p_latestOutside {X : Nat × (Int → Int)} {h : HP} {Q : Int → HP → Prop} {I : IN} (hI : OKI I) (hL : CL I h) {s x b : Int} (hs0 : 0 ≤ s) (hs1 : s < nS I) (hb0 : 0 ≤ b) (hb1 : b ≤ 500) (hx0 : fr9 I s ≤ x) (hx1 : x ≤ en9 I s) (H : ∀ v, LO (sn I) (LV I s) b (fr9 I s) x v → Q v h) : Wd mX6_latestOutside X 0 [(2, 4), (0, s), (0, x), (0, b), (9, 0), (9, 0)] [] h Q := by
  have hn := hI.1
  have hns := nS_le hI
  have hs := SG_at hI.1.1 hs0 hs1
  have ha := hs.1
  have hb := hs.2.1
  have hc := hs.2.2.1
  obtain ⟨cv1, cv2, cv3⟩ := CV_sn hI hL.2.1
  have e21 := (hL.1.2.2 s hs0 hs1).1
  have e23 := hL.2.2 s hs0 hs1
  have hlv := LV_in hI hs0 hs1
  have key : ∀ (d : Nat) (y : Int), y - fr9 I s + 1 < d → fr9 I s - 1 ≤ y → y < x → (∀ k, y < k → k < x → -b ≤ sn I k - LV I s ∧ sn I k - LV I s ≤ b) → Wd mX6_latestOutside X 5 [(2, 4), (0, s), (9, 0), (0, b), (0, y), (9, 0)] [] h Q := by
    intro d
    induction d with
    | zero => intro y q1 q2 q3; omega
    | succ d ih =>
      intro y hd hy0 hy1 hw
      refine vX6_latestOutside_5 ?_
      rw [e21, e23]
      refine ⟨hs0, by omega, fun c => H 0 (Or.inl ⟨rfl, fun j q1 q2 => hw j (by omega) q2⟩), fun c => ?_⟩
      have hv := sn_seg hI hs0 hs1 y (by omega) (by omega)
      rw [cv3 y (by omega) (by omega) (hs.2.2.2.2.2.1 y (by omega) (by omega))]
      refine ⟨cv1, by omega, by omega, by omega, fun c1 => H _ (Or.inr ⟨y, by omega, hy1, rfl, Or.inl c1, hw⟩), fun c1 => ⟨by omega, fun c2 => ⟨by omega, ih (y + (-1)) (by omega) (by omega) (by omega) (fun k q1 q2 => ?_)⟩, fun c2 => H _ (Or.inr ⟨y, by omega, hy1, rfl, Or.inr (by omega), hw⟩)⟩⟩
      by_cases e : k = y
      · rw [e]; omega
      · exact hw k (by omega) q2
  exact vX6_latestOutside_0 ⟨by omega, key (x - fr9 I s + 2).toNat (x - 1) (by omega) (by omega) (by omega) (fun k q1 q2 => by omega)⟩
theorem p_bandAgainst {X : Nat × (Int → Int)} {h : HP} {Q : Int → HP → Prop} {I : IN} (hI : OKI I) (hL : CL I h) {s c e b : Int} (hs0 : 0 ≤ s) (hs1 : s < nS I) (hb0 : 0 ≤ b) (hb1 : b ≤ 500) (hx0 : fr9 I s ≤ c) (hce : c ≤ e) (hx1 : e ≤ en9 I s) (H0 : ¬ HC I s c e b → Q b h) (H1 : ∀ v, b < v → v ≤ 2000000 → (∀ y, b ≤ y → y < v → HC I s c e y) → Q v h) : Wd mX6_bandAgainst X 0 [(2, 4), (0, s), (0, c), (0, e), (0, b), (9, 0), (9, 0), (9, 0)] [] h Q := by
  have hn := hI.1
  have hns := nS_le hI
  have hs := SG_at hI.1.1 hs0 hs1
  have ha := hs.1
  have hb := hs.2.1
  have hc := hs.2.2.1
  obtain ⟨cv1, cv2, cv3⟩ := CV_sn hI hL.2.1
  have e23 := hL.2.2 s hs0 hs1
  have hlv := LV_in hI hs0 hs1
  have key : ∀ (d : Nat) (v x : Int), e - x < d → c ≤ x → x ≤ e → LO (sn I) (LV I s) b (fr9 I s) x v → (∀ k, c ≤ k → k < x → ¬ cr I b s k) → Wd mX6_bandAgainst X 13 [(2, 4), (0, s), (9, 0), (0, e), (0, b), (0, v), (0, x), (9, 0)] [] h Q := by
    intro d
    induction d with
    | zero => intro v x q1 q2 q3; omega
    | succ d ih =>
      intro v x hd hx0' hx1' hlo hno
      refine vX6_bandAgainst_13 ⟨fun g => H0 (fun z => ?_), fun g => ?_⟩
      · obtain ⟨k, k1, k2, k3⟩ := z
        exact hno k k1 (by omega) k3
      · have hv := sn_seg hI hs0 hs1 x (by omega) (by omega)
        rw [e23, cv3 x (by omega) (by omega) (hs.2.2.2.2.2.1 x (by omega) (by omega))]
        have hla := LO_AR hb0 (by omega) hlo
        have hadd := LO_add (show fr9 I s ≤ x by omega) hlo
        have out : (b < sn I x - LV I s ∨ sn I x - LV I s < -b) → ¬ cr I b s x → (inI (x + 1) ∧ Wd mX6_bandAgainst X 13 [(2, 4), (0, s), (9, 0), (0, e), (0, b), (0, sn I x - LV I s), (0, x + 1), (9, 0)] [] h Q) := fun z1 z2 => ⟨by omega, ih _ (x + 1) (by omega) (by omega) (by omega) (hadd.1 z1) (fun k q1 q2 => by
          by_cases y : k = x
          · rw [y]; exact z2
          · exact hno k q1 (by omega))⟩
        have inn : ¬ (b < sn I x - LV I s ∨ sn I x - LV I s < -b) → ¬ cr I b s x → (inI (x + 1) ∧ Wd mX6_bandAgainst X 13 [(2, 4), (0, s), (9, 0), (0, e), (0, b), (0, v), (0, x + 1), (9, 0)] [] h Q) := fun z1 z2 => ⟨by omega, ih _ (x + 1) (by omega) (by omega) (by omega) (hadd.2 z1) (fun k q1 q2 => by
          by_cases y : k = x
          · rw [y]; exact z2
          · exact hno k q1 (by omega))⟩
        have ncr1 : sn I x - LV I s ≤ b → ¬ cr I b s x := fun z y => by have := y.2; omega
        have ncr2 : 0 ≤ v → ¬ cr I b s x := fun z y => by have := hla.mp y.1; omega
        refine ⟨cv1, by omega, by omega, hs0, by omega, by omega, fun g1 => ⟨fun g2 => by omega, fun g2 => ⟨by omega, fun g3 => inn (by omega) (ncr1 g1), fun g3 => out (by omega) (ncr1 g1)⟩⟩, fun g1 => ⟨fun g2 => ⟨fun g3 => out (by omega) (ncr2 g2), fun g3 => by omega⟩, fun g2 => ?_⟩⟩
        rcases hlo with ⟨l1, l2⟩ | ⟨j, j1, j2, j3, j4, j5⟩
        · omega
        · have hvj := sn_seg hI hs0 hs1 j j1 (by omega)
          refine ⟨by omega, p_min (H1 _ (by omega) (by omega) (fun y y1 y2 => ⟨x, hx0', by omega, ?_, by omega⟩))⟩
          rw [AR_from (y := j + 1) (by omega) (by omega) (fun k q1 q2 => by have := j5 k (by omega) q2; omega), AR_succ j1]
          exact Or.inl (by omega)
  exact vX6_bandAgainst_0 (p_latestOutside hI hL hs0 hs1 hb0 hb1 hx0 (by omega) (fun v hv => key (e - c + 1).toNat v c (by omega) (Int.le_refl c) hce hv (fun k q1 q2 => by omega)))
theorem p_hasCrossing {X : Nat × (Int → Int)} {h0 : HP} {Q : Int → HP → Prop} {I : IN} (hI : OKI I) (hM : MX I h0) {w b : Int} (w0 : 0 ≤ w) (w1 : w < nW I) (hb0 : 0 ≤ b) (hb1 : b ≤ 500) (H1 : HC I (wS I w) (wC I w) (wE I w) b → ∀ h' : HP, (∀ k i, ¬ (k = 41 ∧ i = 29) → h' k i = h0 k i) → Q 1 h') (H0 : ¬ HC I (wS I w) (wC I w) (wE I w) b → ∀ h' : HP, (∀ k i, ¬ (k = 41 ∧ i = 29) → h' k i = h0 k i) → Q 0 h') : Wd mX9_hasCrossing X 0 [(2, 41), (0, w), (0, b), (9, 0), (9, 0), (9, 0)] [] h0 Q := by
  have hn := hI.1
  have hnw := nW_le hI
  have hns := nS_le hI
  have hwv := Wv_at hI w0 w1
  have hin := Wv_in hI hwv
  have hs0 := hwv.1.1
  have hs1 := hwv.1.2
  have hs := SG_at hI.1.1 hs0 hs1
  have hcd := hwv.2.1
  have ha := hs.1
  have hb := hs.2.1
  have hc := hs.2.2.1
  have e62 := (hM.2.1.2 w w0 w1).2.2.2.2.2.1
  have e49 := MS_from hI hM.1.2.1 hs0 hs1
  have wof : ∀ k, fr9 I (wS I w) ≤ k → k < en9 I (wS I w) → (h0 56 k = w ↔ (wC I w ≤ k ∧ k < wE I w)) := fun k q1 q2 => by
    rcases hM.2.2.2.2.1 k (by omega) (by omega) with ⟨w', s', c', e', a1, a2, a3, a4, a5⟩ | ⟨a1, a2⟩
    · rw [a5]
      constructor
      · intro z
        subst z
        obtain ⟨b1, b2, b3⟩ := Wv_uniq hI hwv a2
        rw [b2, b3]; exact ⟨a3, a4⟩
      · intro z
        exact Wv_dis hI a2 hwv a3 a4 z.1 z.2
    · rw [a2]
      constructor
      · intro z; omega
      · intro z; exact absurd z (a1 _ _ _ _ w1 hwv)
  have key : ∀ (d : Nat) (q x : Int) (h : HP), en9 I (wS I w) - x < d → fr9 I (wS I w) ≤ x → x ≤ en9 I (wS I w) → (∀ k i, ¬ (k = 41 ∧ i = 29) → h k i = h0 k i) → (¬ h 41 29 = 0 ↔ AR (sn I) (LV I (wS I w)) b (fr9 I (wS I w)) x) → ((q = 1 ∧ ∃ k, wC I w ≤ k ∧ k < wE I w ∧ k < x ∧ cr I b (wS I w) k) ∨ (q = 0 ∧ ∀ k, wC I w ≤ k → k < wE I w → k < x → ¬ cr I b (wS I w) k)) → Wd mX9_hasCrossing X 23 [(2, 41), (0, w), (0, b), (0, wS I w), (0, q), (0, x)] [] h Q := by
    intro d
    induction d with
    | zero => intro q x h q1 q2 q3; omega
    | succ d ih =>
      intro q x h hd hx0 hx1 f har hq
      have hL : ML I h := hM.1.keep (fun k i q => f k i (by omega))
      have fin : x = en9 I (wS I w) → ((q = 0 ∨ q = 1) ∧ Q q h) := fun ex => by
        rcases hq with ⟨z1, k, k1, k2, k3, k4⟩ | ⟨z1, z2⟩
        · rw [z1]; exact ⟨Or.inr rfl, H1 ⟨k, k1, k2, k4⟩ h f⟩
        · rw [z1]; exact ⟨Or.inl rfl, H0 (fun ⟨k, k1, k2, k3⟩ => z2 k k1 k2 (by omega) k3) h f⟩
      have e5 := hL.1.1
      refine vX9_hasCrossing_23 ⟨fun g => fin (by omega), fun g => ?_⟩
      have hm := ML_in hI hL hs0 hs1 hx0 hx1 (by omega)
      refine ⟨by omega, by omega, fun g1 => fin (by rw [hm] at g1; omega), fun g1 => ⟨hs0, by omega, ?_⟩⟩
      rw [hm] at g1
      rw [f 52 _ (by omega), (hM.2.2.2.2.2 _ hs0 hs1).1]
      have nx : ∀ (q' : Int) (h' : HP), (∀ k i, ¬ (k = 41 ∧ i = 29) → h' k i = h k i) → (¬ h' 41 29 = 0 ↔ AR (sn I) (LV I (wS I w)) b (fr9 I (wS I w)) (x + 1)) → ((q' = 1 ∧ ∃ k, wC I w ≤ k ∧ k < wE I w ∧ k < x + 1 ∧ cr I b (wS I w) k) ∨ (q' = 0 ∧ ∀ k, wC I w ≤ k → k < wE I w → k < x + 1 → ¬ cr I b (wS I w) k)) → (inI (x + 1) ∧ Wd mX9_hasCrossing X 23 [(2, 41), (0, w), (0, b), (0, wS I w), (0, q'), (0, x + 1)] [] h' Q) := fun q' h' f' ha' hq' => ⟨by omega, ih q' (x + 1) h' (by omega) (by omega) (by omega) (fun k i z => by rw [f' k i z]; exact f k i z) ha' hq'⟩
      have old1 : ¬ q = 0 → ((1 : Int) = 1 ∧ ∃ k, wC I w ≤ k ∧ k < wE I w ∧ k < x + 1 ∧ cr I b (wS I w) k) := fun z => by
        rcases hq with ⟨z1, k, k1, k2, k3, k4⟩ | ⟨z1, z2⟩
        · exact ⟨rfl, k, k1, k2, by omega, k4⟩
        · exact absurd z1 z
      have old0 : q = 0 → (¬ (wC I w ≤ x ∧ x < wE I w ∧ cr I b (wS I w) x)) → ((0 : Int) = 0 ∧ ∀ k, wC I w ≤ k → k < wE I w → k < x + 1 → ¬ cr I b (wS I w) k) := fun z y => by
        rcases hq with ⟨z1, k, k1, k2, k3, k4⟩ | ⟨z1, z2⟩
        · omega
        · refine ⟨rfl, fun k q1 q2 q3 q4 => ?_⟩
          by_cases ex : k = x
          · rw [ex] at q1 q2 q4; exact y ⟨q1, q2, q4⟩
          · exact z2 k q1 q2 (by omega) q4
      refine p_crosses hI hL hs0 hs1 hb0 hb1 hx0 g1 har (fun hcr h' f' ha' => ⟨fun z => by omega, fun _ => ?_⟩) (fun hcr h' f' ha' => ⟨fun _ => ⟨fun z => nx 0 h' f' ha' (Or.inr (old0 z (fun y => hcr y.2.2))), fun z => nx 1 h' f' ha' (Or.inl (old1 z))⟩, fun z => absurd rfl z⟩)
      rw [f' 56 x (by omega), f 56 x (by omega), wof x hx0 g1]
      refine ⟨fun z => nx 1 h' f' ha' (Or.inl ⟨rfl, x, z.1, z.2, by omega, hcr⟩), fun z => ⟨fun y => nx 0 h' f' ha' (Or.inr (old0 y (fun u => z ⟨u.1, u.2.1⟩))), fun y => nx 1 h' f' ha' (Or.inl (old1 y))⟩⟩
  refine vX9_hasCrossing_0 ?_
  rw [e62, e49]
  refine ⟨w0, by omega, hs0, by omega, key (en9 I (wS I w) - fr9 I (wS I w) + 1).toNat 0 _ _ (by omega) (Int.le_refl _) (by omega) (fun k i q => xu_ne q) ?_ (Or.inr ⟨rfl, fun k q1 q2 q3 => by omega⟩)⟩
  rw [xu_eq rfl rfl]
  exact ⟨fun z => absurd rfl z, fun z => absurd z AR_0⟩
theorem MX.keep {I : IN} {h h' : HP} (H : MX I h) (f : ∀ k i, ¬ (k = 41 ∧ i = 29) → h' k i = h k i) : MX I h' := by
  obtain ⟨a1, a2, a3, a4, a5, a6⟩ := H
  refine ⟨a1.keep (fun k i q => f k i (by omega)), a2.keep (fun k i q => f k i (by omega)), fun w q1 q2 => by rw [f 63 w (by omega)]; exact a3 w q1 q2, fun w q1 q2 => by rw [f 64 w (by omega)]; exact a4 w q1 q2, fun k q1 q2 => ?_, fun t q1 q2 => ?_⟩
  · have := a5 k q1 q2
    rw [f 56 k (by omega)]; exact this
  · have := a6 t q1 q2
    unfold MH at *
    rw [f 52 t (by omega), f 53 t (by omega), f 54 t (by omega), f 55 t (by omega)]; exact this
theorem o_gone {X : Nat × (Int → Int)} {h : HP} {w : Int} (H : RL9 h) : Wd mX8_gone X 0 [(2, 0), (0, w), (9, 0), (9, 0), (9, 0)] [] h (fun r h1 => Wd mX9_gone X 0 [(2, 41), (0, w), (9, 0)] [] h1 (fun r2 h2 => r = r2 ∧ RL9 h2)) := by
  obtain ⟨I, nm, hI, hC, hM, hN, hso, hst⟩ := H
  have hn := hI.1
  have hnw := nW_le hI
  refine vX8_gone_0 (q_both hI hC hM hN hso hst (fun h1 c1 m1 n1 so1 z1 d1 => ?_))
  have hwn := d1.2.1.n hI
  have mo : ∀ (r : Int), (¬ (0 ≤ w ∧ w < nW I) → r = -1) → (0 ≤ w → w < nW I → ∃ t, 0 ≤ t ∧ t ≤ 501 ∧ (∀ b, 0 ≤ b → b < t → HC I (wS I w) (wC I w) (wE I w) b) ∧ (t ≤ 500 → ¬ HC I (wS I w) (wC I w) (wE I w) t ∧ r = t) ∧ (t = 501 → r = -1)) → Wd mX9_gone X 0 [(2, 41), (0, w), (9, 0)] [] h1 (fun r2 h2 => r = r2 ∧ RL9 h2) := fun r k1 k2 => by
    refine vX9_gone_0 (q_lays hI c1 m1 n1 so1 (fun _ => d1) (fun h2 c2 n2 x2 v2 rl => ?_))
    refine p_isWave x2.2.1.1 hnw (fun w0 w1 => ⟨fun _ => ?_, fun z => by omega⟩) (fun z => ⟨fun y => absurd rfl y, fun _ => ⟨k1 z, rl h2 (fun _ _ _ => rfl)⟩⟩)
    obtain ⟨t, t0, t1, t2, t3, t4⟩ := k2 w0 w1
    have key : ∀ (d : Nat) (x : Int) (h3 : HP), t - x < d → 0 ≤ x → x ≤ t → (∀ k i, ¬ (k = 41 ∧ i = 29) → h3 k i = h2 k i) → Wd mX9_gone X 16 [(2, 41), (0, w), (0, x)] [] h3 (fun r2 h2 => r = r2 ∧ RL9 h2) := by
      intro d
      induction d with
      | zero => intro x h3 q1 q2 q3; omega
      | succ d ih =>
        intro x h3 hd hx0 hx1 f3
        refine vX9_gone_16 ⟨fun e => ⟨t4 (by omega), rl h3 (fun k i q => f3 k i (by omega))⟩, fun e => ?_⟩
        refine p_hasCrossing hI (x2.keep f3) w0 w1 hx0 (by omega) (fun hc h4 f4 => ⟨fun _ => ⟨by omega, ih (x + 1) h4 (by omega) (by omega) ?_ (fun k i q => by rw [f4 k i q]; exact f3 k i q)⟩, fun z => by omega⟩) (fun hc h4 f4 => ⟨fun z => absurd rfl z, fun _ => ⟨?_, rl h4 (fun k i q => by rw [f4 k i (by omega)]; exact f3 k i (by omega))⟩⟩)
        · by_cases ex : x = t
          · subst ex; exact absurd hc (t3 (by omega)).1
          · omega
        · have ex : x = t := by
            by_cases ex : x = t
            · exact ex
            · exact absurd (t2 x hx0 (by omega)) hc
          subst ex
          exact (t3 (by omega)).2
    exact key (t + 1).toNat 0 h2 (by omega) (by omega) t0 (fun _ _ _ => rfl)
  refine p_has7 hwn.1 (fun w0 w1 => ⟨fun _ => ?_, fun z => by omega⟩) (fun z => ⟨fun y => absurd rfl y, fun _ => mo _ (fun _ => rfl) (fun y1 y2 => absurd ⟨y1, y2⟩ z)⟩)
  have hwv := Wv_at hI w0 w1
  have hcd := hwv.2.1
  obtain ⟨f1, f2, f3, f4, f5, f6, f7, f8, f9⟩ := hwn.2 w w0 w1
  have key : ∀ (d : Nat) (b s : Int), 501 - s < d → 0 ≤ s → s ≤ 501 → s ≤ b → b ≤ 2000000 → (∀ y, 0 ≤ y → y < b → HC I (wS I w) (wC I w) (wE I w) y) → Wd mX8_gone X 21 [(2, 0), (0, w), (0, b), (0, s), (9, 0)] [] h1 (fun r h1 => Wd mX9_gone X 0 [(2, 41), (0, w), (9, 0)] [] h1 (fun r2 h2 => r = r2 ∧ RL9 h2)) := by
    intro d
    induction d with
    | zero => intro b s q1 q2 q3; omega
    | succ d ih =>
      intro b s hd hs0 hs1 hsb hb1 hall
      have none : 500 < b → Wd mX9_gone X 0 [(2, 41), (0, w), (9, 0)] [] h1 (fun r2 h2 => -1 = r2 ∧ RL9 h2) := fun z => mo _ (fun _ => rfl) (fun _ _ => ⟨501, by omega, by omega, fun y q1 q2 => hall y q1 (by omega), fun q => by omega, fun _ => rfl⟩)
      refine vX8_gone_21 ⟨fun e => none (by omega), fun e => ⟨fun e1 => none e1, fun e1 => ⟨w0, by omega, p_endOf7 hI hwn w0 w1 ?_⟩⟩⟩
      rw [f1, f6]
      refine p_bandAgainst hI d1.1 hwv.1.1 hwv.1.2 (by omega) (by omega) hcd.1 (by omega) (by omega) (fun hc => ⟨fun z => absurd rfl z, fun _ => mo _ (fun z => absurd ⟨w0, w1⟩ z) (fun _ _ => ⟨b, by omega, by omega, hall, fun _ => ⟨hc, rfl⟩, fun z => by omega⟩)⟩) (fun v v1 v2 v3 => ⟨fun _ => ⟨by omega, ih v (s + 1) (by omega) (by omega) (by omega) (by omega) v2 (fun y q1 q2 => ?_)⟩, fun z => by omega⟩)
      by_cases e2 : y < b
      · exact hall y q1 e2
      · exact v3 y (by omega) q2
  exact key 502 0 0 (by omega) (by omega) (by omega) (by omega) (by omega) (fun y q1 q2 => by omega)
/-! highest -/
theorem p_common {X : Nat × (Int → Int)} {h : HP} {Q : Int → HP → Prop} : ∀ (d : Nat) (a b : Nat), b < d → Q ((Nat.gcd a b : Nat) : Int) h → Wd mX9_common X 6 [(9, 0), (9, 0), (9, 0), (9, 0), (1, (a : Int)), (9, 0), (1, (b : Int)), (9, 0), (9, 0), (9, 0)] [] h Q
  | 0, a, b, h1, _ => by omega
  | d + 1, a, b, h1, H => by
    refine vX9_common_6 ⟨fun c => ?_, fun c => ⟨c, ?_⟩⟩
    · have e : b = 0 := by omega
      subst e
      rw [Nat.gcd_zero_right] at H
      exact H
    · have hb : 0 < b := by omega
      rw [Int.tmod_eq_emod_of_nonneg (by omega), ← Int.natCast_emod]
      have := Nat.mod_lt a hb
      refine p_common d b (a % b) (by omega) ?_
      rw [Nat.gcd_comm, ← Nat.gcd_rec, Nat.gcd_comm]
      exact H
theorem p_commonDivisor {X : Nat × (Int → Int)} {h : HP} {Q : Int → HP → Prop} : ∀ (k : Nat) (a b : Nat) (s : Int), b < 2 ^ k → 0 ≤ s → s + 2 * k ≤ 63 → Q ((Nat.gcd a b : Nat) : Int) h → Wd mX8_commonDivisor X 7 [(9, 0), (9, 0), (0, (a : Int)), (0, (b : Int)), (0, s), (9, 0)] [] h Q
  | 0, a, b, s, h1, h2, h3, H => by
    have e : b = 0 := by omega
    subst e
    rw [Nat.gcd_zero_right] at H
    exact vX8_commonDivisor_7 ⟨fun c => H, fun c => ⟨fun _ => H, fun z => absurd rfl z⟩⟩
  | k + 1, a, b, s, h1, h2, h3, H => by
    refine vX8_commonDivisor_7 ⟨fun c => by omega, fun c => ⟨fun c1 => ?_, fun c1 => ⟨c1, by omega, ?_⟩⟩⟩
    · have e : b = 0 := by omega
      subst e
      rw [Nat.gcd_zero_right] at H
      exact H
    · have hb : 0 < b := by omega
      rw [Int.tmod_eq_emod_of_nonneg (by omega), ← Int.natCast_emod]
      have hlt := Nat.mod_lt a hb
      rw [Nat.gcd_comm, Nat.gcd_rec, Nat.gcd_comm] at H
      generalize a % b = r at hlt H
      refine vX8_commonDivisor_7 ⟨fun c => by omega, fun c => ⟨fun c1 => ?_, fun c1 => ⟨c1, by omega, ?_⟩⟩⟩
      · have e : r = 0 := by omega
        subst e
        rw [Nat.gcd_zero_right] at H
        exact H
      · have hr : 0 < r := by omega
        rw [Int.tmod_eq_emod_of_nonneg (by omega), ← Int.natCast_emod]
        have hlt2 := Nat.mod_lt b hr
        have hdm := Nat.div_add_mod b r
        have hq : 1 ≤ b / r := Nat.div_pos (by omega) hr
        have hq2 : r * 1 ≤ r * (b / r) := Nat.mul_le_mul_left r hq
        rw [Nat.gcd_comm, Nat.gcd_rec, Nat.gcd_comm] at H
        have hp : 2 ^ (k + 1) = 2 * 2 ^ k := by rw [Nat.pow_succ]; omega
        exact p_commonDivisor k r (b % r) (s + 1 + 1) (by omega) (by omega) (by omega) H
theorem o_highest {X : Nat × (Int → Int)} {h : HP} {p x : Int} (H : RL9 h) : Wd mX8_highest X 0 [(2, 0), (0, p), (0, x), (9, 0), (9, 0), (9, 0), (9, 0)] [] h (fun r h1 => Wd mX9_highest X 0 [(2, 41), (0, p), (0, x), (9, 0), (9, 0), (9, 0)] [] h1 (fun r2 h2 => r = r2 ∧ RL9 h2)) := by
  have HR := H
  obtain ⟨I, nm, hI, hC, hM, hN, hso, hst⟩ := H
  have hnw := nW_le hI
  have no : ¬ ((1 ≤ p ∧ p ≤ 10) ∧ 0 ≤ x ∧ x ≤ 4) → Wd mX9_highest X 0 [(2, 41), (0, p), (0, x), (9, 0), (9, 0), (9, 0)] [] h (fun r2 h2 => -1 = r2 ∧ RL9 h2) := fun z => vX9_highest_0 (p_isIn (fun y1 y2 => ⟨fun y => by omega, fun _ => p_isIn (fun y3 y4 => absurd ⟨⟨y1, y2⟩, y3, y4⟩ z) (fun _ => ⟨fun y => absurd rfl y, fun _ => ⟨rfl, HR⟩⟩)⟩) (fun _ => ⟨fun _ => ⟨rfl, HR⟩, fun y => absurd rfl y⟩))
  refine vX8_highest_0 ⟨fun c => no (fun z => by omega), fun c => ⟨fun c1 => no (fun z => by omega), fun c1 => ⟨fun c2 => no (fun z => by omega), fun c2 => ⟨fun c3 => ?_, fun c3 => no (fun z => by omega)⟩⟩⟩⟩
  refine q_both hI hC hM hN hso hst (fun h1 c1' m1 n1 so1 z1 d1 => ?_)
  have hwn := d1.2.1.n hI
  rw [hwn.1]
  have hmi := hm_in hI (p := p) (by omega)
  have bh := HS_bound hI (f := hW I) (m := hm I p) (B := 1619838) (by omega) hmi.1 hmi.2 (fun w q1 q2 => (hwn.2 w q1 q2).2.2.2.2.2.2.1)
  have bp := HS_bound hI (f := pW I) (m := hm I p) (B := 600) (by omega) hmi.1 hmi.2 (fun w q1 q2 => by have := (hwn.2 w q1 q2).2.2.2.2.2.2.2.1; omega)
  -- the model's answer
  have mo : ∀ r, (x = 4 → r = hm I p) → (¬ x = 4 → hm I p = 0 → r = Int.tmod x 2) → (∀ sum, (x < 2 → sum = HS I (hW I) (hm I p)) → (2 ≤ x → sum = HS I (pW I) (hm I p)) → ¬ x = 4 → ¬ hm I p = 0 → (¬ Int.tmod x 2 = 0 → r = Int.tdiv (hm I p) ((Nat.gcd sum.toNat (hm I p).toNat : Nat) : Int)) ∧ (Int.tmod x 2 = 0 → r = Int.tdiv sum ((Nat.gcd sum.toNat (hm I p).toNat : Nat) : Int))) → Wd mX9_highest X 0 [(2, 41), (0, p), (0, x), (9, 0), (9, 0), (9, 0)] [] h1 (fun r2 h2 => r = r2 ∧ RL9 h2) := fun r k1 k2 k3 => by
    refine vX9_highest_0 (p_isIn (fun _ _ => ⟨fun y => by omega, fun _ => p_isIn (fun _ _ => ⟨fun _ => ?_, fun y => by omega⟩) (fun y => absurd ⟨by omega, by omega⟩ y)⟩) (fun y => absurd ⟨by omega, by omega⟩ y))
    refine q_lays hI c1' m1 n1 so1 (fun _ => d1) (fun h2 c2 n2 x2 v2 rl => ?_)
    have rl2 : RL9 h2 := rl h2 (fun _ _ _ => rfl)
    refine p_highestMany hI x2.2.1 (by omega) ⟨fun e4 => ⟨fun e0 => ?_, fun e0 => ⟨k2 e4 e0, rl2⟩⟩, fun e4 => ⟨k1 e4, rl2⟩⟩
    have gc : ∀ (sum : Int) (Q : Int → HP → Prop), 0 ≤ sum → Q ((Nat.gcd sum.toNat (hm I p).toNat : Nat) : Int) h2 → Wd mX9_common X 0 [(1, sum), (9, 0), (1, hm I p), (9, 0), (9, 0), (9, 0), (9, 0), (9, 0), (9, 0), (9, 0)] [] h2 Q := fun sum Q hs hQ => by
      have := p_common (X := X) (h := h2) (Q := Q) (301) sum.toNat (hm I p).toNat (by omega) hQ
      rw [show ((sum.toNat : Nat) : Int) = sum by omega, show (((hm I p).toNat : Nat) : Int) = hm I p by omega] at this
      exact vX9_common_0 this
    have fin : ∀ (sum : Int), 0 ≤ sum → sum ≤ 485951400 → (x < 2 → sum = HS I (hW I) (hm I p)) → (2 ≤ x → sum = HS I (pW I) (hm I p)) → ((¬ Int.tmod x 2 = 0 → (Wd mX9_common X 0 [(1, sum), (9, 0), (1, hm I p), (9, 0), (9, 0), (9, 0), (9, 0), (9, 0), (9, 0), (9, 0)] [] h2 (fun r24 h25 => ¬ r24 = 0 ∧ inJ (Int.tdiv (hm I p) r24) ∧ inI (Int.tdiv (hm I p) r24) ∧ (r = (Int.tdiv (hm I p) r24) ∧ RL9 h25)))) ∧ (Int.tmod x 2 = 0 → (Wd mX9_common X 0 [(1, sum), (9, 0), (1, hm I p), (9, 0), (9, 0), (9, 0), (9, 0), (9, 0), (9, 0), (9, 0)] [] h2 (fun r29 h30 => ¬ r29 = 0 ∧ inJ (Int.tdiv sum r29) ∧ inI (Int.tdiv sum r29) ∧ (r = (Int.tdiv sum r29) ∧ RL9 h30))))) := fun sum s0 s1 s2 s3 => by
      obtain ⟨q1, q2⟩ := k3 sum s2 s3 e4 e0
      have gp : 0 < Nat.gcd sum.toNat (hm I p).toNat := Nat.gcd_pos_of_pos_right _ (by omega)
      have gc1 := fun (Q : Int → HP → Prop) => gc sum Q s0
      generalize ((Nat.gcd sum.toNat (hm I p).toNat : Nat)) = g at gp q1 q2 gc1
      have d1 := tdiv_inI (a := hm I p) (b := (g : Int)) (by omega) (by omega)
      have d2 := tdiv_inI (a := sum) (b := (g : Int)) (by omega) (by omega)
      exact ⟨fun z => gc1 _ ⟨by omega, by omega, d1.1, q1 z, rl2⟩, fun z => gc1 _ ⟨by omega, by omega, d2.1, q2 z, rl2⟩⟩
    refine ⟨fun e2 => p_highestSum hI x2.2.1 x2.2.2.1 (by omega) (fun z => absurd rfl z) (fun _ => ?_), fun e2 => p_highestSum hI x2.2.1 x2.2.2.1 (by omega) (fun _ => ?_) (fun z => by omega)⟩
    · exact fin _ bp.1 (by omega) (fun z => by omega) (fun _ => rfl)
    · exact fin _ bh.1 (by omega) (fun _ => rfl) (fun z => by omega)
  refine p_partOf hI (by omega) ⟨fun e4 => ?_, fun e4 => mo _ (fun _ => rfl) (fun z => absurd e4 z) (fun _ _ _ z => absurd e4 z)⟩
  have fin : ∀ (sum : Int), 0 ≤ sum → sum ≤ 485951400 → (x < 2 → sum = HS I (hW I) (hm I p)) → (2 ≤ x → sum = HS I (pW I) (hm I p)) → Wd mJ9_max_7cf53 X 0 [(0, 1), (0, hm I p)] [] h1 (fun r7 h8 => Wd mX8_commonDivisor X 0 [(0, sum), (0, r7), (9, 0), (9, 0), (9, 0), (9, 0)] [] h8 (fun r9 h10 => Wd mJ9_max_7cf53 X 0 [(0, 1), (0, r9)] [] h10 (fun r11 h12 => ((¬ Int.tmod x 2 = 0 → (¬ r11 = 0 ∧ inI (Int.tdiv r7 r11) ∧ Wd mX9_highest X 0 [(2, 41), (0, p), (0, x), (9, 0), (9, 0), (9, 0)] [] h12 (fun r2 h2 => (Int.tdiv r7 r11) = r2 ∧ RL9 h2))) ∧ (Int.tmod x 2 = 0 → (¬ r11 = 0 ∧ inI (Int.tdiv sum r11) ∧ Wd mX9_highest X 0 [(2, 41), (0, p), (0, x), (9, 0), (9, 0), (9, 0)] [] h12 (fun r2 h2 => (Int.tdiv sum r11) = r2 ∧ RL9 h2))))))) := fun sum s0 s1 s2 s3 => by
    refine p_max (vX8_commonDivisor_0 ?_)
    have := p_commonDivisor (X := X) (h := h1) (Q := fun r9 h10 => Wd mJ9_max_7cf53 X 0 [(0, 1), (0, r9)] [] h10 (fun r11 h12 => ((¬ Int.tmod x 2 = 0 → (¬ r11 = 0 ∧ inI (Int.tdiv (max 1 (hm I p)) r11) ∧ Wd mX9_highest X 0 [(2, 41), (0, p), (0, x), (9, 0), (9, 0), (9, 0)] [] h12 (fun r2 h2 => (Int.tdiv (max 1 (hm I p)) r11) = r2 ∧ RL9 h2))) ∧ (Int.tmod x 2 = 0 → (¬ r11 = 0 ∧ inI (Int.tdiv sum r11) ∧ Wd mX9_highest X 0 [(2, 41), (0, p), (0, x), (9, 0), (9, 0), (9, 0)] [] h12 (fun r2 h2 => (Int.tdiv sum r11) = r2 ∧ RL9 h2)))))) 9 sum.toNat (max 1 (hm I p)).toNat 0 (by show (max 1 (hm I p)).toNat < 512; omega) (by omega) (by omega) ?_
    · rw [show ((sum.toNat : Nat) : Int) = sum by omega, show (((max 1 (hm I p)).toNat : Nat) : Int) = max 1 (hm I p) by omega] at this
      exact this
    · have gp : 0 < Nat.gcd sum.toNat (max 1 (hm I p)).toNat := Nat.gcd_pos_of_pos_right _ (by omega)
      refine p_max ?_
      rw [show max 1 ((Nat.gcd sum.toNat (max 1 (hm I p)).toNat : Nat) : Int) = ((Nat.gcd sum.toNat (max 1 (hm I p)).toNat : Nat) : Int) by omega]
      have d1 := tdiv_inI (a := max 1 (hm I p)) (b := ((Nat.gcd sum.toNat (max 1 (hm I p)).toNat : Nat) : Int)) (by omega) (by omega)
      have d2 := tdiv_inI (a := sum) (b := ((Nat.gcd sum.toNat (max 1 (hm I p)).toNat : Nat) : Int)) (by omega) (by omega)
      have hsum : ∀ sum', (x < 2 → sum' = HS I (hW I) (hm I p)) → (2 ≤ x → sum' = HS I (pW I) (hm I p)) → sum' = sum := fun sum' t2 t3 => by
        by_cases z : x < 2
        · rw [t2 z, s2 z]
        · rw [t3 (by omega), s3 (by omega)]
      have z0 : hm I p = 0 → sum = 0 ∧ max 1 (hm I p) = 1 := fun z => by
        refine ⟨?_, by omega⟩
        by_cases y : x < 2
        · rw [s2 y, z, HS_0 hI]
        · rw [s3 (by omega), z, HS_0 hI]
      have tm : Int.tmod x 2 = x % 2 := Int.tmod_eq_emod_of_nonneg (by omega)
      refine ⟨fun g => ⟨by omega, d1.1, mo _ (fun z => absurd z e4) (fun _ z => ?_) (fun sum' t2 t3 _ hz => ⟨fun _ => ?_, fun z => absurd z g⟩)⟩, fun g => ⟨by omega, d2.1, mo _ (fun z => absurd z e4) (fun _ z => ?_) (fun sum' t2 t3 _ hz => ⟨fun z => absurd g z, fun _ => ?_⟩)⟩⟩
      · obtain ⟨y1, y2⟩ := z0 z
        rw [y1, y2]
        rw [tm] at g ⊢
        rw [show x % 2 = 1 by omega]
        rfl
      · rw [hsum sum' t2 t3, show max 1 (hm I p) = hm I p by omega]
      · obtain ⟨y1, y2⟩ := z0 z
        rw [y1, y2, g]
        rfl
      · rw [hsum sum' t2 t3, show max 1 (hm I p) = hm I p by omega]
  refine ⟨fun e2 => p_periodsOfHighest hI hwn d1.2.2.1 hmi.1 hmi.2 ?_, fun e2 => p_heightsOfHighest hI hwn d1.2.2.1 hmi.1 hmi.2 ?_⟩
  · exact fin _ bp.1 (by omega) (fun z => by omega) (fun _ => rfl)
  · exact fin _ bh.1 (by omega) (fun _ => rfl) (fun z => by omega)

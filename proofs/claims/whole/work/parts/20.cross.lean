/-! crossings -/
def ar (f : Int → Int) (lv b a : Int) : Nat → Prop
  | 0 => False
  | d + 1 => f (a + d) < lv - b ∨ (ar f lv b a d ∧ ¬ lv + b < f (a + d))
/-- a low sample lies ahead, and no crossing behind it -/
def AR (f : Int → Int) (lv b a k : Int) : Prop := ar f lv b a (k - a).toNat
def CR (f : Int → Int) (lv b a k : Int) : Prop := AR f lv b a k ∧ lv + b < f k
theorem AR_0 {f : Int → Int} {lv b a : Int} : ¬ AR f lv b a a := by
  unfold AR
  rw [show (a - a).toNat = 0 by omega]
  exact id
theorem AR_succ {f : Int → Int} {lv b a k : Int} (h : a ≤ k) : AR f lv b a (k + 1) ↔ (f k < lv - b ∨ (AR f lv b a k ∧ ¬ lv + b < f k)) := by
  unfold AR
  rw [show (k + 1 - a).toNat = (k - a).toNat + 1 by omega]
  show f (a + ((k - a).toNat : Int)) < lv - b ∨ _ ↔ _
  rw [show a + ((k - a).toNat : Int) = k by omega]
theorem AR_behind {f : Int → Int} {lv b a k : Int} (hb : 0 ≤ b) (h : a ≤ k) (hc : CR f lv b a k) : ¬ AR f lv b a (k + 1) := fun z => by
  have h2 := hc.2
  rcases (AR_succ h).mp z with y | y
  · omega
  · exact y.2 h2
theorem CR_half {f : Int → Int} {lv b a k : Int} (hb : 0 ≤ b) (h : a ≤ k) : 2 * C (CR f lv b a) a k ≤ k - a ∧ (AR f lv b a k → 2 * C (CR f lv b a) a k + 1 ≤ k - a) := by
  obtain ⟨n, rfl⟩ : ∃ n : Nat, k = a + n := ⟨(k - a).toNat, by omega⟩
  clear h
  induction n with
  | zero =>
    rw [C_nil (by omega)]
    refine ⟨by omega, fun z => ?_⟩
    rw [show a + ((0 : Nat) : Int) = a by omega] at z
    exact absurd z AR_0
  | succ n ih =>
    rw [show a + ((n + 1 : Nat) : Int) = a + n + 1 by omega]
    by_cases hc : CR f lv b a (a + n)
    · rw [C_succ (by omega) hc]
      have := ih.2 hc.1
      exact ⟨by omega, fun z => absurd z (AR_behind hb (by omega) hc)⟩
    · rw [C_skip (by omega) hc]
      refine ⟨by omega, fun z => ?_⟩
      omega
/-- the next crossing from a sample on -/
def NX (f : Int → Int) (lv b a e x r : Int) : Prop := (r = -1 ∧ ∀ k, x ≤ k → k < e → ¬ CR f lv b a k) ∨ (x ≤ r ∧ r < e ∧ CR f lv b a r ∧ ∀ k, x ≤ k → k < r → ¬ CR f lv b a k)
/-- what the class knows of stretches that are seen: for the questions -/
def CL (I : IN) (h : HP) : Prop := CS I h ∧ CV I h ∧ ∀ s, 0 ≤ s → s < nS I → h 23 s = LV I s
abbrev cr (I : IN) (b s : Int) : Int → Prop := CR (sn I) (LV I s) b (fr9 I s)
theorem p_nextCrossing {X : Nat × (Int → Int)} {h : HP} {Q : Int → HP → Prop} {I : IN} (hI : OKI I) (hL : CL I h) {s x b : Int} (hs0 : 0 ≤ s) (hs1 : s < nS I) (hb0 : 0 ≤ b) (hb1 : b ≤ 500) (hx0 : fr9 I s ≤ x) (hx1 : x ≤ en9 I s) (ha : ¬ AR (sn I) (LV I s) b (fr9 I s) x)
    (H : ∀ r, NX (sn I) (LV I s) b (fr9 I s) (en9 I s) x r → Q r h) : Wd mX6_nextCrossing X 0 [(2, 4), (0, s), (0, x), (0, b), (9, 0), (9, 0), (9, 0), (9, 0)] [] h Q := by
  have hN := hI.1
  have hns := nS_le hI
  obtain ⟨hS, hV, hlv⟩ := hL
  obtain ⟨hp, hp2, hsn⟩ := CV_sn hI hV
  obtain ⟨g1, g2, g3, g4, g5, g6, g7⟩ := SG_at hI.1.1 hs0 hs1
  have hlb := LV_in hI hs0 hs1
  have e23 := hlv s hs0 hs1
  refine vX6_nextCrossing_0 (p_endOf6 hI hS hs0 hs1 ?_)
  have key : ∀ (d : Nat) (w y : Int), en9 I s - y < d → x ≤ y → y ≤ en9 I s → (¬ w = 0 ↔ AR (sn I) (LV I s) b (fr9 I s) y) → (∀ k, x ≤ k → k < y → ¬ cr I b s k) → Wd mX6_nextCrossing X 13 [(2, 4), (0, s), (9, 0), (0, b), (0, w), (0, en9 I s), (0, y), (9, 0)] [] h Q := by
    intro d
    induction d with
    | zero => intro w y q1 q2 q3; omega
    | succ d ih =>
      intro w y hd hy0 hy1 hw hno
      refine vX6_nextCrossing_13 ⟨fun c => ?_, fun c => ?_⟩
      · exact H (-1) (Or.inl ⟨rfl, fun k q1 q2 => hno k q1 (by omega)⟩)
      · have hv : h (h 4 1) y = sn I y := hsn y (by omega) (by omega) (g6 y (by omega) (by omega))
        have hvb := sn_seg hI hs0 hs1 y (by omega) (by omega)
        rw [hv, e23]
        have go : ∀ w2 : Int, ¬ cr I b s y → (¬ w2 = 0 ↔ AR (sn I) (LV I s) b (fr9 I s) (y + 1)) → inI (y + 1) ∧ Wd mX6_nextCrossing X 13 [(2, 4), (0, s), (9, 0), (0, b), (0, w2), (0, en9 I s), (0, y + 1), (9, 0)] [] h Q := fun w2 q1 q2 => by
          refine ⟨by omega, ih w2 (y + 1) (by omega) (by omega) (by omega) q2 (fun k z1 z2 => ?_)⟩
          by_cases e : k = y
          · rw [e]; exact q1
          · exact hno k z1 (by omega)
        have hs := AR_succ (f := sn I) (lv := LV I s) (b := b) (a := fr9 I s) (k := y) (by omega)
        refine ⟨hp, by omega, by omega, hs0, by omega, by omega, by omega, fun c1 => ⟨fun c2 => ?_, fun c2 => ⟨fun c3 => ?_, fun c3 => ?_⟩⟩, fun c1 => ?_⟩
        · have hna : ¬ AR (sn I) (LV I s) b (fr9 I s) y := fun z => (hw.mpr z) c2
          refine go w (fun z => hna z.1) ?_
          rw [hs]
          constructor
          · intro z; exact absurd c2 z
          · intro z
            rcases z with z | z
            · omega
            · exact absurd z.1 hna
        · have har := hw.mp c2
          refine go w (fun z => by have := z.2; omega) ?_
          rw [hs]
          constructor
          · intro _; exact Or.inr ⟨har, by omega⟩
          · intro _; exact c2
        · have har := hw.mp c2
          exact H y (Or.inr ⟨hy0, by omega, ⟨har, by omega⟩, hno⟩)
        · refine go 1 (fun z => by have := z.2; omega) ?_
          rw [hs]
          constructor
          · intro _; exact Or.inl (by omega)
          · intro _; decide
  exact key (en9 I s - x + 1).toNat 0 x (by omega) (Int.le_refl x) hx1 ⟨fun z => absurd rfl z, fun z => absurd z ha⟩ (fun k q1 q2 => by omega)
noncomputable def ncr (I : IN) (b s : Int) : Int := C (cr I b s) (fr9 I s) (en9 I s)
noncomputable def wv9 (I : IN) (b s : Int) : Int := max 0 (ncr I b s - 1)
noncomputable def WB (I : IN) (b s : Int) : Int := S (wv9 I b) 0 s
theorem ncr_half {I : IN} (hI : OKI I) {b s : Int} (hb : 0 ≤ b) (h0 : 0 ≤ s) (h1 : s < nS I) : 0 ≤ ncr I b s ∧ 2 * ncr I b s ≤ en9 I s - fr9 I s := by
  obtain ⟨g1, g2, g3, g4, g5, g6, g7⟩ := SG_at hI.1.1 h0 h1
  have := CR_half (f := sn I) (lv := LV I s) (a := fr9 I s) (k := en9 I s) hb (by omega)
  have h2 := (C_bound (p := cr I b s) (a := fr9 I s) (b := en9 I s) (by omega)).1
  exact ⟨h2, this.1⟩
theorem WB_half {I : IN} (hI : OKI I) {b : Int} (hb : 0 ≤ b) : ∀ (n : Nat), (n : Int) ≤ nS I → 0 ≤ WB I b n ∧ 2 * WB I b n ≤ iN I ∧ (∀ s, (n : Int) ≤ s → s < nS I → 2 * WB I b n ≤ fr9 I s)
  | 0, _ => by
    unfold WB
    rw [S_nil (by omega)]
    refine ⟨by omega, by have := hI.1; omega, fun s q1 q2 => ?_⟩
    have := (SG_at hI.1.1 (show 0 ≤ s by omega) q2).1
    omega
  | n + 1, hn => by
    obtain ⟨i1, i2, i3⟩ := WB_half hI hb n (by omega)
    have hg := SG_at hI.1.1 (show (0 : Int) ≤ n by omega) (show (n : Int) < nS I by omega)
    have hc := ncr_half hI (s := (n : Int)) hb (by omega) (by omega)
    have hf := i3 n (Int.le_refl _) (by omega)
    have e : WB I b ((n + 1 : Nat) : Int) = WB I b n + wv9 I b n := by
      unfold WB
      rw [show ((n + 1 : Nat) : Int) = (n : Int) + 1 by omega, S_succ (by omega)]
    have hw : wv9 I b n = max 0 (ncr I b n - 1) := rfl
    obtain ⟨g1, g2, g3, g4, g5, g6, g7⟩ := id hg
    rw [e]
    refine ⟨by omega, by omega, fun s q1 q2 => ?_⟩
    have := SG_lt hg (SG_at hI.1.1 (show 0 ≤ s by omega) q2) (by omega)
    omega
theorem WB_at {I : IN} (hI : OKI I) {b s : Int} (hb : 0 ≤ b) (h0 : 0 ≤ s) (h1 : s ≤ nS I) : 0 ≤ WB I b s ∧ 2 * WB I b s ≤ iN I ∧ (s < nS I → 2 * WB I b s ≤ fr9 I s) := by
  have := WB_half hI hb s.toNat (by omega)
  rw [show ((s.toNat : Nat) : Int) = s by omega] at this
  exact ⟨this.1, this.2.1, fun z => this.2.2 s (Int.le_refl s) z⟩
theorem WB_succ {I : IN} {b s : Int} (h0 : 0 ≤ s) : WB I b (s + 1) = WB I b s + wv9 I b s := S_succ h0
theorem p_wavesBy {X : Nat × (Int → Int)} {h : HP} {Q : Int → HP → Prop} {I : IN} (hI : OKI I) (hL : CL I h) {b : Int} (hb0 : 0 ≤ b) (hb1 : b ≤ 500) (H : Q (WB I b (nS I)) h) : Wd mX6_wavesBy X 0 [(2, 4), (0, b), (9, 0), (9, 0), (9, 0), (9, 0), (9, 0)] [] h Q := by
  have hN := hI.1
  have hns := nS_le hI
  have hS := hL.1
  refine vX6_wavesBy_0 ?_
  have key : ∀ (d : Nat) (s : Int), nS I - s < d → 0 ≤ s → s ≤ nS I → Wd mX6_wavesBy X 4 [(2, 4), (0, b), (0, WB I b s), (0, s), (9, 0), (9, 0), (9, 0)] [] h Q := by
    intro d
    induction d with
    | zero => intro s q1 q2 q3; omega
    | succ d ih =>
      intro s hd hs0 hs1
      have e46 := hS.1
      refine vX6_wavesBy_4 ⟨fun c => ?_, fun c => ?_⟩
      · rw [show s = nS I by omega]; exact H
      · have hs2 : s < nS I := by omega
        obtain ⟨g1, g2, g3, g4, g5, g6, g7⟩ := SG_at hI.1.1 hs0 hs2
        obtain ⟨e21, e22⟩ := hS.2.2 s hs0 hs2
        have hwb := WB_at hI hb0 hs0 hs1
        have hnc := ncr_half hI hb0 hs0 hs2
        refine ⟨hs0, by omega, ?_⟩
        rw [e21]
        refine p_nextCrossing hI hL hs0 hs2 hb0 hb1 (Int.le_refl _) (by omega) AR_0 (fun r hr => ?_)
        have inner : ∀ (d2 : Nat) (r n : Int), en9 I s - fr9 I s - n < d2 → 0 ≤ n → n ≤ en9 I s - fr9 I s → (r = -1 → n = ncr I b s) → (¬ r = -1 → fr9 I s ≤ r ∧ r < en9 I s ∧ cr I b s r ∧ n = C (cr I b s) (fr9 I s) r) → Wd mX6_wavesBy X 32 [(2, 4), (0, b), (0, WB I b s), (0, s), (0, n), (0, r), (0, n)] [] h Q := by
          intro d2
          induction d2 with
          | zero => intro r n q1 q2 q3; omega
          | succ d2 ih2 =>
            intro r n hd2 hn0 hn1 hr1 hr2
            have fin : r = -1 → inI (n - 1) ∧ Wd mJ9_max_7cf53 X 0 [(0, 0), (0, n - 1)] [] h (fun r4 h5 => inI (WB I b s + r4) ∧ inI (s + 1) ∧ Wd mX6_wavesBy X 4 [(2, 4), (0, b), (0, WB I b s + r4), (0, s + 1), (9, 0), (9, 0), (9, 0)] [] h5 Q) := fun z => by
              have en := hr1 z
              refine ⟨by omega, p_max ⟨by omega, by omega, ?_⟩⟩
              have := ih (s + 1) (by omega) (by omega) (by omega)
              rw [WB_succ hs0] at this
              rw [en]
              exact this
            refine vX6_wavesBy_32 ⟨hs0, by omega, fun c1 => ?_, fun c1 => ⟨fun c2 => fin c2, fun c2 => ?_⟩⟩
            · refine fin ?_
              by_cases z : r = -1
              · exact z
              · exfalso
                obtain ⟨z1, z2, z3, z4⟩ := hr2 z
                have := (C_bound (p := cr I b s) (a := fr9 I s) (b := r) z1).2
                omega
            · obtain ⟨z1, z2, z3, z4⟩ := hr2 c2
              have hcb := (C_bound (p := cr I b s) (a := fr9 I s) (b := r) z1).2
              refine ⟨by omega, by omega, ?_⟩
              refine p_nextCrossing hI hL hs0 hs2 hb0 hb1 (by omega) (by omega) (AR_behind hb0 z1 z3) (fun r2 hr3 => ⟨by omega, ?_⟩)
              have es := C_succ (p := cr I b s) z1 z3
              refine ih2 r2 (n + 1) (by omega) (by omega) (by omega) (fun q => ?_) (fun q => ?_)
              · rcases hr3 with ⟨y1, y2⟩ | ⟨y1, y2, y3, y4⟩
                · unfold ncr
                  rw [C_app (p := cr I b s) (a := fr9 I s) (b := r + 1) (by omega) (by omega), es, C_zero (p := cr I b s) (a := r + 1) (b := en9 I s) y2]
                  omega
                · omega
              · rcases hr3 with ⟨y1, y2⟩ | ⟨y1, y2, y3, y4⟩
                · exact absurd y1 q
                · refine ⟨by omega, y2, y3, ?_⟩
                  rw [C_app (p := cr I b s) (a := fr9 I s) (b := r + 1) (by omega) y1, es, C_zero (p := cr I b s) (a := r + 1) (b := r2) y4]
                  omega
        refine inner (en9 I s - fr9 I s + 1).toNat r 0 (by omega) (by omega) (by omega) (fun q => ?_) (fun q => ?_)
        · rcases hr with ⟨y1, y2⟩ | ⟨y1, y2, y3, y4⟩
          · unfold ncr; rw [C_zero (p := cr I b s) y2]
          · omega
        · rcases hr with ⟨y1, y2⟩ | ⟨y1, y2, y3, y4⟩
          · exact absurd y1 q
          · exact ⟨y1, y2, y3, by rw [C_zero (p := cr I b s) y4]⟩
  have := key (nS I + 1).toNat 0 (by omega) (by omega) (by omega)
  unfold WB at this
  rw [S_nil (Int.le_refl 0)] at this
  exact this
/-! the model -/
/-- what the model knows of stretches that are seen -/
def ML (I : IN) (h : HP) : Prop := MIn I h ∧ MS I h ∧ (∀ k, 0 ≤ k → k < iN I → ¬ mM I k = -32768 → h 50 k = sn I k)
theorem ML.keep {I : IN} {h h' : HP} (H : ML I h) (hf : ∀ k i, (k = 42 ∨ k = 43 ∨ k = 44 ∨ k = 45 ∨ k = 47 ∨ k = 48 ∨ k = 49 ∨ k = 50 ∨ (k = 41 ∧ (i = 5 ∨ i = 6 ∨ i = 12 ∨ i = 13))) → h' k i = h k i) : ML I h' := by
  obtain ⟨a, b, c⟩ := H
  refine ⟨a.keep (fun k i q => hf k i (by omega)), ⟨fun k q1 q2 => by rw [hf 47 k (by omega), hf 48 k (by omega)]; exact b.1 k q1 q2, by rw [hf 41 12 (by omega)]; exact b.2.1, fun x q1 q2 q3 => by rw [hf 49 _ (by omega)]; exact b.2.2.1 x q1 q2 q3, by rw [hf 41 13 (by omega)]; exact b.2.2.2⟩, fun k q1 q2 q3 => by rw [hf 50 k (by omega)]; exact c k q1 q2 q3⟩
theorem p_crosses {X : Nat × (Int → Int)} {h : HP} {Q : Int → HP → Prop} {I : IN} (hI : OKI I) (hL : ML I h) {s k b : Int} (hs0 : 0 ≤ s) (hs1 : s < nS I) (hb0 : 0 ≤ b) (hb1 : b ≤ 500) (hk0 : fr9 I s ≤ k) (hk1 : k < en9 I s) (ha : ¬ h 41 29 = 0 ↔ AR (sn I) (LV I s) b (fr9 I s) k)
    (H1 : cr I b s k → ∀ h' : HP, (∀ k i, ¬ (k = 41 ∧ i = 29) → h' k i = h k i) → (¬ h' 41 29 = 0 ↔ AR (sn I) (LV I s) b (fr9 I s) (k + 1)) → Q 1 h')
    (H0 : ¬ cr I b s k → ∀ h' : HP, (∀ k i, ¬ (k = 41 ∧ i = 29) → h' k i = h k i) → (¬ h' 41 29 = 0 ↔ AR (sn I) (LV I s) b (fr9 I s) (k + 1)) → Q 0 h') : Wd mX9_crosses X 0 [(2, 41), (0, k), (0, LV I s), (0, b)] [] h Q := by
  have hN := hI.1
  obtain ⟨g1, g2, g3, g4, g5, g6, g7⟩ := SG_at hI.1.1 hs0 hs1
  have hlb := LV_in hI hs0 hs1
  have hv := hL.2.2 k (by omega) (by omega) (g6 k hk0 hk1)
  have hvb := sn_seg hI hs0 hs1 k hk0 hk1
  have hs := AR_succ (f := sn I) (lv := LV I s) (b := b) (a := fr9 I s) (k := k) hk0
  refine vX9_crosses_0 ?_
  rw [hv]
  refine ⟨by omega, by omega, by omega, fun c => ⟨fun c1 => ?_, fun c1 => ⟨by omega, fun c2 => ?_, fun c2 => ?_⟩⟩, fun c => ⟨by omega, fun c2 => by omega, fun c2 => ?_⟩⟩
  · have hna : ¬ AR (sn I) (LV I s) b (fr9 I s) k := fun z => ha.mpr z c1
    refine H0 (fun z => hna z.1) h (fun k i _ => rfl) ?_
    rw [hs]
    constructor
    · intro z; exact absurd c1 z
    · intro z
      rcases z with z | z
      · omega
      · exact absurd z.1 hna
  · have har := ha.mp c1
    refine H1 ⟨har, c2⟩ _ (fun k i q => xu_ne q) ?_
    rw [xu_eq rfl rfl, hs]
    constructor
    · intro z; exact absurd rfl z
    · intro z
      rcases z with z | z
      · omega
      · exact absurd c2 z.2
  · have har := ha.mp c1
    refine H0 (fun z => c2 z.2) h (fun k i _ => rfl) ?_
    rw [hs]
    constructor
    · intro _; exact Or.inr ⟨har, c2⟩
    · intro _; exact c1
  · refine H0 (fun z => c2 z.2) _ (fun k i q => xu_ne q) ?_
    rw [xu_eq rfl rfl, hs]
    constructor
    · intro _; exact Or.inl (by omega)
    · intro _; decide
theorem ML_in {I : IN} (hI : OKI I) {h : HP} (hL : ML I h) {s k : Int} (hs0 : 0 ≤ s) (hs1 : s < nS I) (h0 : fr9 I s ≤ k) (h1 : k ≤ en9 I s) (h2 : k < iN I) : h 48 k = s ↔ k < en9 I s := by
  have hg := SG_at hI.1.1 hs0 hs1
  obtain ⟨g1, g2, g3, g4, g5, g6, g7⟩ := id hg
  have e := (hL.2.1.1 k (by omega) h2).2
  rw [e]
  constructor
  · intro z
    rcases Int.lt_or_le k (en9 I s) with y | y
    · exact y
    · exfalso
      have ek : k = en9 I s := by omega
      rcases g7 with w | w
      · omega
      · rw [ek, sO_ref w] at z; omega
  · intro z; exact SG_sO hg h0 z
theorem p_countWaves {X : Nat × (Int → Int)} {h0 : HP} {Q : Int → HP → Prop} {I : IN} (hI : OKI I) (hL : ML I h0) (hlv : ∀ s, 0 ≤ s → s < nS I → h0 52 s = LV I s) {b : Int} (hb0 : 0 ≤ b) (hb1 : b ≤ 500) (H : ∀ h' : HP, (∀ k i, ¬ (k = 41 ∧ i = 29) → h' k i = h0 k i) → Q (WB I b (nS I)) h') : Wd mX9_countWaves X 0 [(2, 41), (0, b), (9, 0), (9, 0), (9, 0), (9, 0)] [] h0 Q := by
  have hN := hI.1
  have hns := nS_le hI
  refine vX9_countWaves_0 ?_
  have key : ∀ (d : Nat) (s : Int) (h : HP), nS I - s < d → 0 ≤ s → s ≤ nS I → (∀ k i, ¬ (k = 41 ∧ i = 29) → h k i = h0 k i) → Wd mX9_countWaves X 4 [(2, 41), (0, b), (0, WB I b s), (0, s), (9, 0), (9, 0)] [] h Q := by
    intro d
    induction d with
    | zero => intro s h q1 q2 q3; omega
    | succ d ih =>
      intro s h hd hs0 hs1 f
      have hLh : ML I h := hL.keep (fun k i q => f k i (by omega))
      have e12 := hLh.2.1.2.1
      refine vX9_countWaves_4 ⟨fun c => ?_, fun c => ⟨hs0, by omega, ?_⟩⟩
      · rw [show s = nS I by omega]; exact H h f
      · have hs2 : s < nS I := by omega
        obtain ⟨g1, g2, g3, g4, g5, g6, g7⟩ := SG_at hI.1.1 hs0 hs2
        have hwb := WB_at hI hb0 hs0 hs1
        have hnc := ncr_half hI hb0 hs0 hs2
        rw [MS_from hI hLh.2.1 hs0 hs2]
        have inner : ∀ (d2 : Nat) (k : Int) (h2 : HP), en9 I s - k < d2 → fr9 I s ≤ k → k ≤ en9 I s → (∀ k i, ¬ (k = 41 ∧ i = 29) → h2 k i = h0 k i) → (¬ h2 41 29 = 0 ↔ AR (sn I) (LV I s) b (fr9 I s) k) → Wd mX9_countWaves X 28 [(2, 41), (0, b), (0, WB I b s), (0, s), (0, C (cr I b s) (fr9 I s) k), (0, k)] [] h2 Q := by
          intro d2
          induction d2 with
          | zero => intro k h2 q1 q2 q3; omega
          | succ d2 ih2 =>
            intro k h2 hd2 hk0 hk1 f2 ha
            have hL2 : ML I h2 := hL.keep (fun k i q => f2 k i (by omega))
            have e5 := hL2.1.1
            have hcb := C_bound (p := cr I b s) hk0
            have fin : k = en9 I s → ((C (cr I b s) (fr9 I s) k ≤ 1 → (inI (WB I b s + 0) ∧ inI (s + 1) ∧ Wd mX9_countWaves X 4 [(2, 41), (0, b), (0, WB I b s + 0), (0, s + 1), (9, 0), (9, 0)] [] h2 Q)) ∧ (¬ (C (cr I b s) (fr9 I s) k ≤ 1) → (inI (C (cr I b s) (fr9 I s) k - 1) ∧ inI (WB I b s + (C (cr I b s) (fr9 I s) k - 1)) ∧ inI (s + 1) ∧ Wd mX9_countWaves X 4 [(2, 41), (0, b), (0, WB I b s + (C (cr I b s) (fr9 I s) k - 1)), (0, s + 1), (9, 0), (9, 0)] [] h2 Q))) := fun ek => by
              have := ih (s + 1) h2 (by omega) (by omega) (by omega) f2
              rw [WB_succ hs0] at this
              have e9 : wv9 I b s = max 0 (C (cr I b s) (fr9 I s) k - 1) := by rw [ek]; rfl
              refine ⟨fun z => ⟨by omega, by omega, ?_⟩, fun z => ⟨by omega, by omega, by omega, ?_⟩⟩
              · rw [show WB I b s + 0 = WB I b s + wv9 I b s by omega]; exact this
              · rw [show WB I b s + (C (cr I b s) (fr9 I s) k - 1) = WB I b s + wv9 I b s by omega]; exact this
            refine vX9_countWaves_28 ⟨fun c1 => fin (by omega), fun c1 => ⟨by omega, by omega, fun c2 => fin ?_, fun c2 => ⟨hs0, by omega, ?_⟩⟩⟩
            · rcases Int.lt_or_le k (en9 I s) with z | z
              · exact absurd ((ML_in hI hL2 hs0 hs2 hk0 hk1 (by omega)).mpr z) c2
              · omega
            · have hke : k < en9 I s := (ML_in hI hL2 hs0 hs2 hk0 hk1 (by omega)).mp c2
              rw [f2 52 s (by omega), hlv s hs0 hs2]
              refine p_crosses hI hL2 hs0 hs2 hb0 hb1 hk0 hke ha (fun hc h' z1 z2 => ⟨fun q => by omega, fun _ => ⟨by omega, by omega, ?_⟩⟩) (fun hc h' z1 z2 => ⟨fun _ => ⟨by omega, by omega, ?_⟩, fun q => by omega⟩)
              · rw [← C_succ (p := cr I b s) hk0 hc]
                exact ih2 (k + 1) h' (by omega) (by omega) (by omega) (fun k i q => by rw [z1 k i q]; exact f2 k i q) z2
              · rw [show C (cr I b s) (fr9 I s) k + 0 = C (cr I b s) (fr9 I s) k by omega, ← C_skip (p := cr I b s) hk0 hc]
                exact ih2 (k + 1) h' (by omega) (by omega) (by omega) (fun k i q => by rw [z1 k i q]; exact f2 k i q) z2
        have := inner (en9 I s - fr9 I s + 1).toNat (fr9 I s) (xu h 41 29 0) (by omega) (Int.le_refl _) (by omega) (fun k i q => by rw [xu_ne q]; exact f k i q) (by rw [xu_eq rfl rfl]; exact ⟨fun z => absurd rfl z, fun z => absurd z AR_0⟩)
        rw [C_nil (Int.le_refl _)] at this
        exact this
  have := key (nS I + 1).toNat 0 h0 (by omega) (by omega) (by omega) (fun k i _ => rfl)
  unfold WB at this
  rw [S_nil (Int.le_refl 0)] at this
  exact this

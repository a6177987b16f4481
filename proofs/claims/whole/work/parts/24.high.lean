/-! the highest, freaks, high waves -/
noncomputable def HS (I : IN) (f : Int → Int) (m : Int) : Int := S (fun w => if rk I w < m then f w else 0) 0 (nW I)
theorem S_one {f g : Int → Int} {a b w : Int} (h1 : a ≤ w) (h2 : w < b) (h : ∀ i, a ≤ i → i < b → ¬ i = w → f i = g i) : S g a b = S f a b + (g w - f w) := by
  rw [S_app (f := g) (a := a) (b := w) (c := b) h1 (by omega), S_app (f := g) (a := w) (b := w + 1) (c := b) (by omega) (by omega), S_succ (f := g) (Int.le_refl w), S_nil (f := g) (Int.le_refl w),
    S_app (f := f) (a := a) (b := w) (c := b) h1 (by omega), S_app (f := f) (a := w) (b := w + 1) (c := b) (by omega) (by omega), S_succ (f := f) (Int.le_refl w), S_nil (f := f) (Int.le_refl w),
    S_congr (f := g) (g := f) (a := a) (b := w) (fun i z1 z2 => (h i z1 (by omega) (by omega)).symm), S_congr (f := g) (g := f) (a := w + 1) (b := b) (fun i z1 z2 => (h i (by omega) z2 (by omega)).symm)]
  omega
theorem HS_0 {I : IN} (hI : OKI I) {f : Int → Int} : HS I f 0 = 0 := by
  unfold HS
  have hn := nW_le hI
  rw [S_congr (g := fun _ => 0) (fun i q1 q2 => by rw [if_neg (by have := (rk_in hI q1 q2).1; omega)])]
  have := S_bound (f := fun _ => 0) (lo := 0) (hi := 0) hn.1 (fun i _ _ => by omega)
  omega
theorem HS_succ {I : IN} (hI : OKI I) {f : Int → Int} {m : Int} (h0 : 0 ≤ m) (h1 : m < nW I) : HS I f (m + 1) = HS I f m + f (oR I m) := by
  obtain ⟨o1, o2, o3⟩ := oR_at hI h0 h1
  unfold HS
  rw [S_one (f := fun w => if rk I w < m then f w else 0) (g := fun w => if rk I w < m + 1 then f w else 0) o1 o2 (fun i q1 q2 q3 => by
    have : ¬ rk I i = m := fun z => q3 (rk_inj hI q1 q2 o1 o2 (by omega))
    by_cases z : rk I i < m
    · rw [if_pos z, if_pos (by omega)]
    · rw [if_neg z, if_neg (by omega)])]
  show _ + ((if rk I (oR I m) < m + 1 then f (oR I m) else 0) - (if rk I (oR I m) < m then f (oR I m) else 0)) = _
  rw [if_pos (by omega), if_neg (by omega)]
  omega
theorem HS_bound {I : IN} (hI : OKI I) {f : Int → Int} {m B : Int} (hB : 0 ≤ B) (h0 : 0 ≤ m) (h1 : m ≤ nW I) (hf : ∀ w, 0 ≤ w → w < nW I → 0 ≤ f w ∧ f w ≤ B) : 0 ≤ HS I f m ∧ HS I f m ≤ B * m := by
  obtain ⟨n, rfl⟩ : ∃ n : Nat, m = n := ⟨m.toNat, by omega⟩
  clear h0
  induction n with
  | zero => rw [show ((0 : Nat) : Int) = 0 from rfl, HS_0 hI]; omega
  | succ n ih =>
    have ih := ih (by omega)
    rw [show ((n + 1 : Nat) : Int) = (n : Int) + 1 by omega, HS_succ hI (by omega) (by omega)]
    obtain ⟨o1, o2, o3⟩ := oR_at hI (show (0 : Int) ≤ n by omega) (by omega)
    have := hf _ o1 o2
    have e : B * ((n : Int) + 1) = B * n + B := by rw [Int.mul_add, Int.mul_one]
    omega
theorem HS_all {I : IN} (hI : OKI I) {f : Int → Int} : HS I f (nW I) = S f 0 (nW I) := by
  unfold HS
  exact S_congr (fun i q1 q2 => by rw [if_pos (rk_in hI q1 q2).2])
theorem C_rk {I : IN} (hI : OKI I) {m : Int} (h0 : 0 ≤ m) (h1 : m ≤ nW I) : C (fun w => rk I w < m) 0 (nW I) = m := by
  obtain ⟨n, rfl⟩ : ∃ n : Nat, m = n := ⟨m.toNat, by omega⟩
  clear h0
  induction n with
  | zero => rw [C_zero (fun i q1 q2 q3 => by have := (rk_in hI q1 q2).1; have q3 : rk I i < ((0 : Nat) : Int) := q3; omega)]; rfl
  | succ n ih =>
    have ih := ih (by omega)
    obtain ⟨o1, o2, o3⟩ := oR_at hI (show (0 : Int) ≤ n by omega) (by omega)
    have := C_one (p := fun i => rk I i < n) (q := fun i => rk I i < ((n + 1 : Nat) : Int)) o1 o2 (by show ¬ rk I (oR I n) < n; omega) (by show rk I (oR I n) < ((n + 1 : Nat) : Int); omega) (fun i y1 y2 y3 => by
      have : ¬ rk I i = n := fun y => y3 (rk_inj hI y1 y2 o1 o2 (by omega))
      show rk I i < n ↔ rk I i < ((n + 1 : Nat) : Int)
      omega)
    omega
/-- how many are the highest of a part -/
noncomputable def hm (I : IN) (p : Int) : Int := if nW I = 0 then 0 else max 1 (nW I / p)
theorem hm_in {I : IN} (hI : OKI I) {p : Int} (hp : 1 ≤ p) : 0 ≤ hm I p ∧ hm I p ≤ nW I := by
  have hn := nW_le hI
  have h1 := Int.ediv_le_self p hn.1
  have h2 := Int.ediv_nonneg hn.1 (show 0 ≤ p by omega)
  unfold hm
  by_cases e : nW I = 0
  · rw [if_pos e]; omega
  · rw [if_neg e]; omega
noncomputable def FK (I : IN) (w : Int) : Prop := iS I 2 * HS I (hW I) (hm I 3) < 10 * hW I w * hm I 3
noncomputable def md9 (I : IN) : Int := if nW I < 1 then 0 else hW I (oR I (nW I / 2))
noncomputable def HI (I : IN) (w : Int) : Prop := (iS I 6 = 0 ∧ iS I 7 < hW I w) ∨ (iS I 6 = 1 ∧ HS I (hW I) (nW I) < hW I w * nW I) ∨ (iS I 6 = 2 ∧ HS I (hW I) (hm I 3) < hW I w * hm I 3) ∨ (iS I 6 = 3 ∧ md9 I < hW I w)
theorem tdivp {a p : Int} (h : 0 ≤ a) : Int.tdiv a p = a / p := Int.tdiv_eq_ediv_of_nonneg h
theorem p_partOf {X : Nat × (Int → Int)} {h : HP} {Q : Int → HP → Prop} {I : IN} (hI : OKI I) {p : Int} (hp : 1 ≤ p) (H : Q (hm I p) h) : Wd mX2_partOf X 0 [(0, nW I), (0, p)] [] h Q := by
  have hn := nW_le hI
  have h1 := Int.ediv_le_self p hn.1
  have h2 := Int.ediv_nonneg hn.1 (show 0 ≤ p by omega)
  refine vX2_partOf_0 ⟨fun c => ?_, fun c => ⟨fun c1 => ?_, fun c1 => by omega⟩⟩
  · unfold hm at H
    rw [if_pos (by omega)] at H
    exact H
  · rw [tdivp hn.1]
    unfold hm at H
    rw [if_neg (by omega)] at H
    exact ⟨by omega, by omega, p_max H⟩
theorem p_heightsOfHighest {X : Nat × (Int → Int)} {h : HP} {Q : Int → HP → Prop} {I : IN} (hI : OKI I) (hW9 : CWn I h) (hR : CRk I h) {m : Int} (h0 : 0 ≤ m) (h1 : m ≤ nW I) (H : Q (HS I (hW I) m) h) : Wd mX2_heightsOfHighest X 0 [(2, 6), (2, 5), (0, m), (9, 0), (9, 0)] [] h Q := by
  have hn := nW_le hI
  refine vX2_heightsOfHighest_0 ?_
  have key : ∀ (d : Nat) (x : Int), m - x < d → 0 ≤ x → x ≤ m → Wd mX2_heightsOfHighest X 5 [(2, 6), (2, 5), (0, m), (0, HS I (hW I) x), (0, x)] [] h Q := by
    intro d
    induction d with
    | zero => intro x q1 q2 q3; omega
    | succ d ih =>
      intro x hd hx0 hx1
      refine vX2_heightsOfHighest_5 ⟨fun c => ?_, fun c => ?_⟩
      · rw [show x = m by omega]; exact H
      · obtain ⟨o1, o2, o3⟩ := oR_at hI hx0 (by omega)
        have e34 := hR.1 x hx0 (by omega)
        have e27 := (hW9.2 _ o1 o2).2.2.1
        rw [e34, e27, ← HS_succ hI hx0 (by omega)]
        have hb := HS_bound hI (f := hW I) (m := x + 1) (B := 1619838) (by omega) (by omega) (by omega) (fun w q1 q2 => (hW9.2 w q1 q2).2.2.2.2.2.2.1)
        exact ⟨hx0, by omega, by omega, by omega, by omega, by omega, ih (x + 1) (by omega) (by omega) (by omega)⟩
  have := key (m + 1).toNat 0 (by omega) (by omega) h0
  rw [HS_0 hI] at this
  exact this
theorem p_periodsOfHighest {X : Nat × (Int → Int)} {h : HP} {Q : Int → HP → Prop} {I : IN} (hI : OKI I) (hW9 : CWn I h) (hR : CRk I h) {m : Int} (h0 : 0 ≤ m) (h1 : m ≤ nW I) (H : Q (HS I (pW I) m) h) : Wd mX2_periodsOfHighest X 0 [(2, 6), (2, 5), (0, m), (9, 0), (9, 0)] [] h Q := by
  have hn := nW_le hI
  refine vX2_periodsOfHighest_0 ?_
  have key : ∀ (d : Nat) (x : Int), m - x < d → 0 ≤ x → x ≤ m → Wd mX2_periodsOfHighest X 5 [(2, 6), (2, 5), (0, m), (0, HS I (pW I) x), (0, x)] [] h Q := by
    intro d
    induction d with
    | zero => intro x q1 q2 q3; omega
    | succ d ih =>
      intro x hd hx0 hx1
      refine vX2_periodsOfHighest_5 ⟨fun c => ?_, fun c => ?_⟩
      · rw [show x = m by omega]; exact H
      · obtain ⟨o1, o2, o3⟩ := oR_at hI hx0 (by omega)
        have e34 := hR.1 x hx0 (by omega)
        have e26 := (hW9.2 _ o1 o2).2.1
        rw [e34, e26, ← HS_succ hI hx0 (by omega)]
        have hb := HS_bound hI (f := pW I) (m := x + 1) (B := 600) (by omega) (by omega) (by omega) (fun w q1 q2 => by have := (hW9.2 w q1 q2).2.2.2.2.2.2.2.1; omega)
        exact ⟨hx0, by omega, by omega, by omega, by omega, by omega, ih (x + 1) (by omega) (by omega) (by omega)⟩
  have := key (m + 1).toNat 0 (by omega) (by omega) h0
  rw [HS_0 hI] at this
  exact this
/-- the class's weights -/
def CQ (I : IN) (h : HP) : Prop := h 6 2 = C (FK I) 0 (nW I) ∧ h 6 3 = HS I (hW I) (nW I) ∧ h 6 4 = HS I (hW I) (hm I 3) ∧ h 6 5 = hm I 3 ∧ h 6 6 = md9 I
theorem CWn.keep {I : IN} {h h' : HP} (H : CWn I h) (hf : ∀ k i, ((25 ≤ k ∧ k ≤ 30) ∨ (k = 5 ∧ i = 10)) → h' k i = h k i) : CWn I h' :=
  ⟨by rw [hf 5 10 (by omega)]; exact H.1, fun w q1 q2 => by rw [hf 25 w (by omega), hf 26 w (by omega), hf 27 w (by omega), hf 28 w (by omega), hf 29 w (by omega), hf 30 w (by omega)]; exact H.2 w q1 q2⟩
theorem CRk.keep {I : IN} {h h' : HP} (H : CRk I h) (hf : ∀ k i, (k = 34 ∨ k = 35) → h' k i = h k i) : CRk I h' :=
  ⟨fun w q1 q2 => by rw [hf 34 w (by omega)]; exact H.1 w q1 q2, fun w q1 q2 => by rw [hf 35 w (by omega)]; exact H.2 w q1 q2⟩
theorem prod_b {a b A B : Int} (ha : 0 ≤ a) (ha2 : a ≤ A) (hb : 0 ≤ b) (hb2 : b ≤ B) : 0 ≤ a * b ∧ a * b ≤ A * B :=
  ⟨Int.mul_nonneg ha hb, Int.mul_le_mul ha2 hb2 hb (by omega)⟩
theorem p_weigh {X : Nat × (Int → Int)} {h0 : HP} {Q : Int → HP → Prop} {I : IN} (hI : OKI I) (hC : CIn I h0) (hW9 : CWn I h0) (hR : CRk I h0)
    (H : ∀ h' : HP, (∀ k i, ¬ (k = 6 ∧ (2 ≤ i ∧ i ≤ 6)) → h' k i = h0 k i) → CQ I h' → Q 0 h') : Wd mX2_weigh X 0 [(2, 6), (2, 5), (2, 1), (9, 0)] [] h0 Q := by
  have hn := nW_le hI
  have h3 := hm_in hI (p := 3) (by omega)
  have hfac := hI.2.2.2.2.1
  have hb3 := HS_bound hI (f := hW I) (m := hm I 3) (B := 1619838) (by omega) h3.1 h3.2 (fun w q1 q2 => (hW9.2 w q1 q2).2.2.2.2.2.2.1)
  refine vX2_weigh_0 ?_
  rw [hW9.1]
  refine p_partOf hI (by omega) ?_
  refine p_heightsOfHighest hI (hW9.keep (h' := xu h0 6 5 (hm I 3)) (fun k i q => xu_ne (by omega))) (hR.keep (h' := xu h0 6 5 (hm I 3)) (fun k i q => xu_ne (by omega))) h3.1 h3.2 ?_
  rw [xu_ne (show ¬ ((5 : Int) = 6 ∧ (10 : Int) = 5) by omega), hW9.1]
  refine p_heightsOfHighest hI (hW9.keep (h' := xu (xu h0 6 5 (hm I 3)) 6 4 (HS I (hW I) (hm I 3))) (fun k i q => by rw [xu_ne (by omega), xu_ne (by omega)])) (hR.keep (h' := xu (xu h0 6 5 (hm I 3)) 6 4 (HS I (hW I) (hm I 3))) (fun k i q => by rw [xu_ne (by omega), xu_ne (by omega)])) hn.1 (Int.le_refl _) ?_
  generalize hh6 : xu (xu h0 6 5 (hm I 3)) 6 4 (HS I (hW I) (hm I 3)) = h6
  have f6 : ∀ k i, ¬ (k = 6 ∧ (i = 4 ∨ i = 5)) → h6 k i = h0 k i := fun k i q => by rw [← hh6, xu_ne (by omega), xu_ne (by omega)]
  have e65 : h6 6 5 = hm I 3 := by rw [← hh6, xu_ne (by omega), xu_eq rfl rfl]
  have e64 : h6 6 4 = HS I (hW I) (hm I 3) := by rw [← hh6, xu_eq rfl rfl]
  have e510 : h6 5 10 = nW I := by rw [f6 5 10 (by omega)]; exact hW9.1
  rw [e510]
  have loop : ∀ (d : Nat) (x : Int) (h : HP), nW I - x < d → 0 ≤ x → x ≤ nW I → (∀ k i, ¬ (k = 6 ∧ (2 ≤ i ∧ i ≤ 6)) → h k i = h0 k i) → h 6 2 = C (FK I) 0 x → h 6 3 = HS I (hW I) (nW I) → h 6 4 = HS I (hW I) (hm I 3) → h 6 5 = hm I 3 → h 6 6 = md9 I → Wd mX2_weigh X 79 [(2, 6), (2, 5), (2, 1), (0, x)] [] h Q := by
    intro d
    induction d with
    | zero => intro x h q1 q2 q3; omega
    | succ d ih =>
      intro x h hd hx0 hx1 f g2 g3 g4 g5 g6
      have e5 : h 5 10 = nW I := by rw [f 5 10 (by omega)]; exact hW9.1
      refine vX2_weigh_79 ⟨fun c => ?_, fun c => ?_⟩
      · have ex : x = nW I := by omega
        subst ex
        exact H h f ⟨g2, g3, g4, g5, g6⟩
      · obtain ⟨w1, w2, w3, w4, w5, w6, w7, w8, w9⟩ := hW9.2 x hx0 (by omega)
        have e27 : h 27 x = hW I x := by rw [f 27 x (by omega)]; exact w3
        have e92 : h 9 2 = iS I 2 := by rw [f 9 2 (by omega)]; exact hC.2.2.1 2 (by omega) (by omega)
        have p1 := prod_b (a := 10 * hW I x) (b := hm I 3) (A := 16198380) (B := 300) (by omega) (by omega) h3.1 (by omega)
        have p2 := prod_b (a := iS I 2) (b := HS I (hW I) (hm I 3)) (A := 50) (B := 485951400) (by omega) (by omega) hb3.1 (by omega)
        have cb := C_bound (p := FK I) hx0
        rw [e27, g5]
        refine ⟨hx0, by omega, by omega, by omega, ?_⟩
        refine vX4_factor_0 ?_
        rw [e92]
        refine ⟨by rw [g4]; omega, fun c2 => ⟨by omega, ?_⟩, fun c2 => ⟨by omega, by omega, ?_⟩⟩
        · rw [g4] at c2
          exact ih (x + 1) h (by omega) (by omega) (by omega) f (by rw [C_skip hx0 (fun z => by unfold FK at z; omega)]; exact g2) g3 g4 g5 g6
        · rw [g4] at c2
          refine ih (x + 1) _ (by omega) (by omega) (by omega) (fun k i q => by rw [xu_ne (by omega)]; exact f k i q) (by rw [xu_eq rfl rfl, C_succ hx0 (by unfold FK; omega), g2]) (by rw [xu_ne (by omega)]; exact g3) (by rw [xu_ne (by omega)]; exact g4) (by rw [xu_ne (by omega)]; exact g5) (by rw [xu_ne (by omega)]; exact g6)
  have fin : ∀ v, v = md9 I → Wd mX2_weigh X 79 [(2, 6), (2, 5), (2, 1), (0, 0)] [] (xu (xu (xu h6 6 3 (HS I (hW I) (nW I))) 6 6 v) 6 2 0) Q := fun v ev => by
    refine loop (nW I + 1).toNat 0 _ (by omega) (by omega) hn.1 (fun k i q => by rw [xu_ne (by omega), xu_ne (by omega), xu_ne (by omega)]; exact f6 k i (by omega)) (by rw [xu_eq rfl rfl, C_nil (Int.le_refl 0)]) (by rw [xu_ne (by omega), xu_ne (by omega), xu_eq rfl rfl]) (by rw [xu_ne (by omega), xu_ne (by omega), xu_ne (by omega)]; exact e64) (by rw [xu_ne (by omega), xu_ne (by omega), xu_ne (by omega)]; exact e65) (by rw [xu_ne (by omega), xu_eq rfl rfl]; exact ev)
  refine ⟨fun c => ?_, fun c => fin 0 ?_⟩
  · rw [tdivp hn.1]
    obtain ⟨o1, o2, o3⟩ := oR_at hI (r := nW I / 2) (by omega) (by omega)
    have e34 : h6 34 (nW I / 2) = oR I (nW I / 2) := by rw [f6 34 _ (by omega)]; exact hR.1 _ (by omega) (by omega)
    have e27 : h6 27 (oR I (nW I / 2)) = hW I (oR I (nW I / 2)) := by rw [f6 27 _ (by omega)]; exact (hW9.2 _ o1 o2).2.2.1
    rw [e34, e27]
    refine ⟨by omega, by omega, by omega, by omega, by omega, fin _ ?_⟩
    unfold md9
    rw [if_neg (by omega)]
  · unfold md9
    rw [if_pos (by omega)]
theorem p_isHigh {X : Nat × (Int → Int)} {h : HP} {Q : Int → HP → Prop} {I : IN} (hI : OKI I) (hC : CIn I h) (hW9 : CWn I h) (hq : CQ I h) {w : Int} (h0 : 0 ≤ w) (h1 : w < nW I) (H1 : HI I w → Q 1 h) (H0 : ¬ HI I w → Q 0 h) : Wd mX2_isHigh X 0 [(2, 6), (2, 5), (0, w), (2, 1), (9, 0), (9, 0)] [] h Q := by
  have hn := nW_le hI
  have h3 := hm_in hI (p := 3) (by omega)
  obtain ⟨w1, w2, w3, w4, w5, w6, w7, w8, w9⟩ := hW9.2 w h0 h1
  have hmk := hI.2.2.2.2.2.2.2.2.1
  have hmt := hI.2.2.2.2.2.2.2.2.2.1
  have p1 := prod_b (a := hW I w) (b := hm I 3) (A := 1619838) (B := 300) (by omega) (by omega) h3.1 (by omega)
  have p2 := prod_b (a := hW I w) (b := nW I) (A := 1619838) (B := 300) (by omega) (by omega) hn.1 (by omega)
  refine vX2_isHigh_0 ?_
  rw [w3, hC.2.2.2.1.2.2.1, hC.2.2.2.1.2.2.2, hW9.1, hq.2.1, hq.2.2.1, hq.2.2.2.1, hq.2.2.2.2]
  refine ⟨h0, by omega, fun c => ⟨fun c1 => H0 (fun z => ?_), fun c1 => H1 (Or.inl ⟨by omega, by omega⟩)⟩, fun c => ⟨by omega, fun c1 => H0 (fun z => ?_), fun c1 => H1 (Or.inr (Or.inl ⟨c, by omega⟩))⟩, fun c => ⟨by omega, fun c1 => H0 (fun z => ?_), fun c1 => H1 (Or.inr (Or.inr (Or.inl ⟨c, by omega⟩)))⟩, fun c => ⟨fun c1 => H0 (fun z => ?_), fun c1 => H1 (Or.inr (Or.inr (Or.inr ⟨c, by omega⟩)))⟩⟩
  · unfold HI at z; omega
  · unfold HI at z; omega
  · unfold HI at z; omega
  · unfold HI at z; omega
/-! the model -/
theorem p_highestMany {X : Nat × (Int → Int)} {h : HP} {Q : Int → HP → Prop} {I : IN} (hI : OKI I) (hM : MWn I h) {p : Int} (hp : 1 ≤ p) (H : Q (hm I p) h) : Wd mX9_highestMany X 0 [(2, 41), (0, p)] [] h Q := by
  have hn := nW_le hI
  have h1 := Int.ediv_le_self p hn.1
  have h2 := Int.ediv_nonneg hn.1 (show 0 ≤ p by omega)
  refine vX9_highestMany_0 ?_
  rw [hM.1, tdivp hn.1]
  unfold hm at H
  refine ⟨fun c => ⟨by omega, by omega, fun c1 => ?_, fun c1 => ?_⟩, fun c => ?_⟩
  · rw [if_neg c, show max 1 (nW I / p) = nW I / p by omega] at H; exact H
  · rw [if_neg c, show max 1 (nW I / p) = 1 by omega] at H; exact H
  · rw [if_pos c] at H; exact H
theorem p_highestSum {X : Nat × (Int → Int)} {h : HP} {Q : Int → HP → Prop} {I : IN} (hI : OKI I) (hM : MWn I h) (hr : ∀ w, 0 ≤ w → w < nW I → h 63 w = rk I w) {p b : Int} (hp : 1 ≤ p) (H1 : ¬ b = 0 → Q (HS I (hW I) (hm I p)) h) (H0 : b = 0 → Q (HS I (pW I) (hm I p)) h) : Wd mX9_highestSum X 0 [(2, 41), (0, p), (0, b), (9, 0), (9, 0), (9, 0)] [] h Q := by
  have hn := nW_le hI
  refine vX9_highestSum_0 ?_
  have key : ∀ (d : Nat) (s x : Int), nW I - x < d → 0 ≤ x → x ≤ nW I → (¬ b = 0 → s = S (fun w => if rk I w < hm I p then hW I w else 0) 0 x) → (b = 0 → s = S (fun w => if rk I w < hm I p then pW I w else 0) 0 x) → 0 ≤ s → s ≤ 1619838 * x → Wd mX9_highestSum X 5 [(2, 41), (0, p), (0, b), (1, s), (9, 0), (0, x)] [] h Q := by
    intro d
    induction d with
    | zero => intro s x q1 q2 q3; omega
    | succ d ih =>
      intro s x hd hx0 hx1 s1 s0 b0 b1
      have e28 := hM.1
      refine vX9_highestSum_5 ⟨fun c => ?_, fun c => ⟨hx0, by omega, p_highestMany hI hM hp ?_⟩⟩
      · have ex : x = nW I := by omega
        subst ex
        by_cases z : b = 0
        · rw [s0 z]; exact H0 z
        · rw [s1 z]; exact H1 z
      · obtain ⟨w1, w2, w3, w4, w5, w6, w7, w8, w9⟩ := hM.2 x hx0 (by omega)
        rw [hr x hx0 (by omega)]
        refine ⟨fun c1 => ⟨by omega, ?_⟩, fun c1 => ⟨fun c2 => ?_, fun c2 => ?_⟩⟩
        · refine ih s (x + 1) (by omega) (by omega) (by omega) (fun z => ?_) (fun z => ?_) b0 (by omega)
          · rw [S_succ hx0, if_neg (by omega), s1 z]; omega
          · rw [S_succ hx0, if_neg (by omega), s0 z]; omega
        · rw [w2]
          refine ⟨by omega, by omega, ih _ (x + 1) (by omega) (by omega) (by omega) (fun z => absurd c2 z) (fun z => ?_) (by omega) (by omega)⟩
          rw [S_succ hx0, if_pos (by omega), s0 z]
        · refine p_height hI hM hx0 (by omega) ⟨by omega, by omega, ih _ (x + 1) (by omega) (by omega) (by omega) (fun z => ?_) (fun z => absurd z c2) (by omega) (by omega)⟩
          rw [S_succ hx0, if_pos (by omega), s1 z]
  exact key (nW I + 1).toNat 0 0 (by omega) (by omega) hn.1 (fun _ => by rw [S_nil (Int.le_refl 0)]) (fun _ => by rw [S_nil (Int.le_refl 0)]) (by omega) (by omega)
/-- the class's middle height is the middle one -/
theorem md9_mid {I : IN} (hI : OKI I) (h : 1 ≤ nW I) : MID (hW I) 0 (nW I) (md9 I) := by
  have hn := nW_le hI
  obtain ⟨o1, o2, o3⟩ := oR_at hI (r := nW I / 2) (by omega) (by omega)
  have e : md9 I = hW I (oR I (nW I / 2)) := by unfold md9; rw [if_neg (by omega)]
  rw [e]
  generalize oR I (nW I / 2) = w0 at o1 o2 o3
  refine ⟨⟨w0, o1, o2, rfl⟩, ?_, ?_⟩
  · have k1 := C_one (p := fun i => bf I i w0) (q := fun i => bf I i w0 ∨ i = w0) o1 o2 bf_irr (Or.inr rfl) (fun i _ _ z => ⟨Or.inl, fun y => y.resolve_right z⟩)
    have k2 := C_congr (p := fun i => ¬ (bf I i w0 ∨ i = w0)) (q := fun i => ¬ (bf I i w0 ∨ i = w0)) (a := 0) (b := nW I) (fun i _ _ => Iff.rfl)
    have k3 : C (fun i => bf I i w0 ∨ i = w0) 0 (nW I) + C (fun i => ¬ (bf I i w0 ∨ i = w0)) 0 (nW I) = nW I := by
      have : ∀ n : Nat, C (fun i => bf I i w0 ∨ i = w0) 0 n + C (fun i => ¬ (bf I i w0 ∨ i = w0)) 0 n = n := by
        intro n
        induction n with
        | zero => rw [C_nil (by omega), C_nil (by omega)]; rfl
        | succ n ih =>
          rw [show ((n + 1 : Nat) : Int) = (n : Int) + 1 by omega]
          rcases Classical.em (bf I (n : Int) w0 ∨ (n : Int) = w0) with z | z
          · rw [C_succ (p := fun i => bf I i w0 ∨ i = w0) (by omega) z, C_skip (p := fun i => ¬ (bf I i w0 ∨ i = w0)) (by omega) (fun y => y z)]; omega
          · rw [C_skip (p := fun i => bf I i w0 ∨ i = w0) (by omega) z, C_succ (p := fun i => ¬ (bf I i w0 ∨ i = w0)) (by omega) z]; omega
      have := this (nW I).toNat
      rw [show (((nW I).toNat : Nat) : Int) = nW I by omega] at this
      exact this
    have k4 := C_le (p := fun i => hW I i < hW I w0) (q := fun i => ¬ (bf I i w0 ∨ i = w0)) (a := 0) (b := nW I) (fun i _ _ z => by
      have z : hW I i < hW I w0 := z
      intro y
      rcases y with y | y
      · unfold bf at y; omega
      · rw [y] at z; omega)
    have e9 : rk I w0 = C (fun i => bf I i w0) 0 (nW I) := rfl
    omega
  · have k1 := C_le (p := fun i => ¬ hW I i ≤ hW I w0) (q := fun i => bf I i w0) (a := 0) (b := nW I) (fun i _ _ z => by
      have z : ¬ hW I i ≤ hW I w0 := z
      show bf I i w0
      unfold bf; omega)
    have k3 : C (fun i => hW I i ≤ hW I w0) 0 (nW I) + C (fun i => ¬ hW I i ≤ hW I w0) 0 (nW I) = nW I := by
      have : ∀ n : Nat, C (fun i => hW I i ≤ hW I w0) 0 n + C (fun i => ¬ hW I i ≤ hW I w0) 0 n = n := by
        intro n
        induction n with
        | zero => rw [C_nil (by omega), C_nil (by omega)]; rfl
        | succ n ih =>
          rw [show ((n + 1 : Nat) : Int) = (n : Int) + 1 by omega]
          rcases Classical.em (hW I (n : Int) ≤ hW I w0) with z | z
          · rw [C_succ (p := fun i => hW I i ≤ hW I w0) (by omega) z, C_skip (p := fun i => ¬ hW I i ≤ hW I w0) (by omega) (fun y => y z)]; omega
          · rw [C_skip (p := fun i => hW I i ≤ hW I w0) (by omega) z, C_succ (p := fun i => ¬ hW I i ≤ hW I w0) (by omega) z]; omega
      have := this (nW I).toNat
      rw [show (((nW I).toNat : Nat) : Int) = nW I by omega] at this
      exact this
    have e9 : rk I w0 = C (fun i => bf I i w0) 0 (nW I) := rfl
    omega
theorem p_middleHeight {X : Nat × (Int → Int)} {h : HP} {Q : Int → HP → Prop} {I : IN} (hI : OKI I) (hM : MWn I h) (H : Q (md9 I) h) : Wd mX9_middleHeight X 0 [(2, 41), (9, 0), (9, 0), (9, 0), (9, 0)] [] h Q := by
  have hn := nW_le hI
  refine vX9_middleHeight_0 ?_
  have key : ∀ (d : Nat) (x : Int), nW I - x < d → 0 ≤ x → x ≤ nW I → (1 ≤ nW I → ∃ k, x ≤ k ∧ k < nW I ∧ MID (hW I) 0 (nW I) (hW I k)) → Wd mX9_middleHeight X 2 [(2, 41), (0, x), (9, 0), (9, 0), (9, 0)] [] h Q := by
    intro d
    induction d with
    | zero => intro x q1 q2 q3; omega
    | succ d ih =>
      intro x hd hx0 hx1 hex
      have e28 := hM.1
      refine vX9_middleHeight_2 ⟨fun c => ?_, fun c => ?_⟩
      · have : nW I < 1 := by
          rcases Int.lt_or_le (nW I) 1 with z | z
          · exact z
          · obtain ⟨k, y1, y2, -⟩ := hex z; omega
        unfold md9 at H
        rw [if_pos this] at H
        exact H
      · have nx : ¬ MID (hW I) 0 (nW I) (hW I x) → inI (x + 1) ∧ Wd mX9_middleHeight X 2 [(2, 41), (0, x + 1), (9, 0), (9, 0), (9, 0)] [] h Q := fun z => by
          refine ⟨by omega, ih (x + 1) (by omega) (by omega) (by omega) (fun z2 => ?_)⟩
          obtain ⟨k, y1, y2, y3⟩ := hex z2
          refine ⟨k, ?_, y2, y3⟩
          by_cases e : k = x
          · rw [e] at y3; exact absurd y3 z
          · omega
        have inner : ∀ (d2 : Nat) (o : Int), nW I - o < d2 → 0 ≤ o → o ≤ nW I → Wd mX9_middleHeight X 17 [(2, 41), (0, x), (0, C (fun i => hW I i < hW I x) 0 o), (0, C (fun i => hW I i ≤ hW I x) 0 o), (0, o)] [] h Q := by
          intro d2
          induction d2 with
          | zero => intro o q1 q2 q3; omega
          | succ d2 ih2 =>
            intro o hd2 ho0 ho1
            have cb1 := C_bound (p := fun i => hW I i < hW I x) ho0
            have cb2 := C_bound (p := fun i => hW I i ≤ hW I x) ho0
            refine vX9_middleHeight_17 ⟨fun c2 => ?_, fun c2 => ?_⟩
            · have eo : o = nW I := by omega
              subst eo
              rw [e28, tdiv2 (by omega)]
              refine ⟨by omega, by omega, fun c3 => nx (fun z => by have := z.2.1; omega), fun c3 => ⟨fun c4 => nx (fun z => by have := z.2.2; omega), fun c4 => ?_⟩⟩
              refine p_height hI hM hx0 (by omega) ?_
              have hmid : MID (hW I) 0 (nW I) (hW I x) := ⟨⟨x, hx0, by omega, rfl⟩, by omega, by omega⟩
              rw [MID_unique hmid (md9_mid hI (by omega))]
              exact H
            · refine p_height hI hM ho0 (by omega) (p_height hI hM hx0 (by omega) ⟨fun c3 => ⟨by omega, ?_⟩, fun c3 => ⟨by omega, ?_⟩⟩)
              · refine p_height hI hM ho0 (by omega) (p_height hI hM hx0 (by omega) ⟨fun c4 => ⟨by omega, by omega, ?_⟩, fun c4 => ⟨by omega, by omega, ?_⟩⟩)
                · have := ih2 (o + 1) (by omega) (by omega) (by omega)
                  rw [C_skip (p := fun i => hW I i < hW I x) ho0 (by show ¬ hW I o < hW I x; omega), C_skip (p := fun i => hW I i ≤ hW I x) ho0 (by show ¬ hW I o ≤ hW I x; omega)] at this
                  rw [Int.add_zero, Int.add_zero]; exact this
                · have := ih2 (o + 1) (by omega) (by omega) (by omega)
                  rw [C_skip (p := fun i => hW I i < hW I x) ho0 (by show ¬ hW I o < hW I x; omega), C_succ (p := fun i => hW I i ≤ hW I x) ho0 (by show hW I o ≤ hW I x; omega)] at this
                  rw [Int.add_zero]; exact this
              · refine p_height hI hM ho0 (by omega) (p_height hI hM hx0 (by omega) ⟨fun c4 => by omega, fun c4 => ⟨by omega, by omega, ?_⟩⟩)
                have := ih2 (o + 1) (by omega) (by omega) (by omega)
                rw [C_succ (p := fun i => hW I i < hW I x) ho0 (by show hW I o < hW I x; omega), C_succ (p := fun i => hW I i ≤ hW I x) ho0 (by show hW I o ≤ hW I x; omega)] at this
                exact this
        have := inner (nW I + 1).toNat 0 (by omega) (by omega) hn.1
        rw [C_nil (Int.le_refl 0), C_nil (Int.le_refl 0)] at this
        exact this
  refine key (nW I + 1).toNat 0 (by omega) (by omega) hn.1 (fun z => ?_)
  obtain ⟨⟨k, y1, y2, y3⟩, -⟩ := id (md9_mid hI z)
  exact ⟨k, y1, y2, by rw [y3]; exact md9_mid hI z⟩
theorem p_laysHigh {X : Nat × (Int → Int)} {h0 : HP} {Q : Int → HP → Prop} {I : IN} (hI : OKI I) (hMi : MIn I h0) (hM : MWn I h0) (hr : ∀ w, 0 ≤ w → w < nW I → h0 63 w = rk I w)
    (H : ∀ h' : HP, (∀ k i, ¬ (k = 64) → h' k i = h0 k i) → (∀ w, 0 ≤ w → w < nW I → (HI I w → h' 64 w = 1) ∧ (¬ HI I w → h' 64 w = 0)) → Q 0 h') : Wd mX9_laysHigh X 0 [(2, 41), (9, 0), (9, 0), (9, 0), (9, 0), (9, 0)] [] h0 Q := by
  have hn := nW_le hI
  have h3 := hm_in hI (p := 3) (by omega)
  have h1 := hm_in hI (p := 1) (by omega)
  have hmk := hI.2.2.2.2.2.2.2.2.1
  have hmt := hI.2.2.2.2.2.2.2.2.2.1
  have e6 := hMi.2.2.1 6 (by omega) (by omega)
  have e7 := hMi.2.2.1 7 (by omega) (by omega)
  have em1 : hm I 1 = nW I := by
    unfold hm
    rw [Int.ediv_one]
    by_cases z : nW I = 0
    · rw [if_pos z, z]
    · rw [if_neg z]; omega
  have loop : ∀ (a b : Int), 0 ≤ b → b ≤ 300 → (∀ w, 0 ≤ w → w < nW I → (HI I w ↔ a < hW I w * b)) → Wd mX9_laysHigh X 87 [(2, 41), (1, a), (9, 0), (1, b), (9, 0), (0, 0)] [] h0 Q := by
    intro a b hb0 hb1 hiff
    have key : ∀ (d : Nat) (x : Int) (h : HP), nW I - x < d → 0 ≤ x → x ≤ nW I → (∀ k i, ¬ (k = 64) → h k i = h0 k i) → (∀ w, 0 ≤ w → w < x → (HI I w → h 64 w = 1) ∧ (¬ HI I w → h 64 w = 0)) → Wd mX9_laysHigh X 87 [(2, 41), (1, a), (9, 0), (1, b), (9, 0), (0, x)] [] h Q := by
      intro d
      induction d with
      | zero => intro x h q1 q2 q3; omega
      | succ d ih =>
        intro x h hd hx0 hx1 f hh
        have hMh : MWn I h := hM.keep (fun k i q => f k i (by omega))
        have e28 := hMh.1
        refine vX9_laysHigh_87 ⟨fun c => H h f (fun w q1 q2 => hh w q1 (by omega)), fun c => p_height hI hMh hx0 (by omega) ?_⟩
        obtain ⟨w1, w2, w3, w4, w5, w6, w7, w8, w9⟩ := hMh.2 x hx0 (by omega)
        have p1 := prod_b (a := hW I x) (b := b) (A := 1619838) (B := 300) (by omega) (by omega) hb0 hb1
        have hi := hiff x hx0 (by omega)
        refine ⟨by omega, fun c1 => ⟨hx0, by omega, by omega, ?_⟩, fun c1 => ⟨hx0, by omega, by omega, ?_⟩⟩
        · refine ih (x + 1) _ (by omega) (by omega) (by omega) (fun k i q => by rw [xu_ne (by omega)]; exact f k i q) (fun w q1 q2 => ?_)
          by_cases ew : w = x
          · rw [xu_eq rfl ew, ew]
            exact ⟨fun z => by have := hi.mp z; omega, fun _ => rfl⟩
          · rw [xu_ne (by omega)]; exact hh w q1 (by omega)
        · refine ih (x + 1) _ (by omega) (by omega) (by omega) (fun k i q => by rw [xu_ne (by omega)]; exact f k i q) (fun w q1 q2 => ?_)
          by_cases ew : w = x
          · rw [xu_eq rfl ew, ew]
            exact ⟨fun _ => rfl, fun z => absurd (hi.mpr (by omega)) z⟩
          · rw [xu_ne (by omega)]; exact hh w q1 (by omega)
    exact key (nW I + 1).toNat 0 h0 (by omega) (by omega) hn.1 (fun k i _ => rfl) (fun w q1 q2 => by omega)
  refine vX9_laysHigh_0 ?_
  rw [e6, e7]
  refine ⟨fun c => ⟨fun c1 => absurd c c1, fun _ => ?_⟩, fun c => ⟨fun c1 => ⟨fun c2 => loop _ 1 (by omega) (by omega) (fun w q1 q2 => by unfold HI; omega), fun c2 => p_middleHeight hI hM (loop _ 1 (by omega) (by omega) (fun w q1 q2 => by unfold HI; omega))⟩, fun c1 => ⟨fun _ => ?_, fun c2 => absurd c2 c⟩⟩⟩
  · refine p_highestSum hI hM hr (by omega) (fun _ => ?_) (fun z => absurd z (by decide))
    refine p_highestMany hI hM (by omega) ⟨fun _ => ?_, fun c2 => by omega⟩
    rw [em1]
    exact loop _ _ hn.1 (by omega) (fun w q1 q2 => by unfold HI; omega)
  · refine p_highestSum hI hM hr (by omega) (fun _ => ?_) (fun z => absurd z (by decide))
    refine p_highestMany hI hM (by omega) ⟨fun _ => ?_, fun c2 => by omega⟩
    exact loop _ _ h3.1 (by omega) (fun w q1 q2 => by unfold HI; omega)
theorem p_isFreak {X : Nat × (Int → Int)} {h : HP} {Q : Int → HP → Prop} {I : IN} (hI : OKI I) (hMi : MIn I h) (hM : MWn I h) (hr : ∀ w, 0 ≤ w → w < nW I → h 63 w = rk I w) {w : Int} (h0 : 0 ≤ w) (h1 : w < nW I) (H1 : FK I w → Q 1 h) (H0 : ¬ FK I w → Q 0 h) : Wd mX9_isFreak X 0 [(2, 41), (0, w)] [] h Q := by
  have hn := nW_le hI
  have h3 := hm_in hI (p := 3) (by omega)
  have hfac := hI.2.2.2.2.1
  have e2 := hMi.2.2.1 2 (by omega) (by omega)
  have hb3 := HS_bound hI (f := hW I) (m := hm I 3) (B := 1619838) (by omega) h3.1 h3.2 (fun w q1 q2 => (hM.2 w q1 q2).2.2.2.2.2.2.1)
  obtain ⟨w1, w2, w3, w4, w5, w6, w7, w8, w9⟩ := hM.2 w h0 h1
  have p1 := prod_b (a := 10 * hW I w) (b := hm I 3) (A := 16198380) (B := 300) (by omega) (by omega) h3.1 (by omega)
  have p2 := prod_b (a := iS I 2) (b := HS I (hW I) (hm I 3)) (A := 50) (B := 485951400) (by omega) (by omega) hb3.1 (by omega)
  refine vX9_isFreak_0 (p_height hI hM h0 h1 ⟨by omega, p_highestMany hI hM (by omega) ⟨by omega, p_highestSum hI hM hr (by omega) (fun _ => ?_) (fun z => absurd z (by decide))⟩⟩)
  rw [e2]
  refine ⟨by omega, fun c => H0 (fun z => ?_), fun c => H1 ?_⟩
  · unfold FK at z; omega
  · unfold FK; omega
theorem p_freaks {X : Nat × (Int → Int)} {h : HP} {Q : Int → HP → Prop} {I : IN} (hI : OKI I) (hMi : MIn I h) (hM : MWn I h) (hr : ∀ w, 0 ≤ w → w < nW I → h 63 w = rk I w) (H : Q (C (FK I) 0 (nW I)) h) : Wd mX9_freaks X 0 [(2, 41), (9, 0), (9, 0)] [] h Q := by
  have hn := nW_le hI
  refine vX9_freaks_0 ?_
  have key : ∀ (d : Nat) (x : Int), nW I - x < d → 0 ≤ x → x ≤ nW I → Wd mX9_freaks X 4 [(2, 41), (0, C (FK I) 0 x), (0, x)] [] h Q := by
    intro d
    induction d with
    | zero => intro x q1 q2 q3; omega
    | succ d ih =>
      intro x hd hx0 hx1
      have e28 := hM.1
      have cb := C_bound (p := FK I) hx0
      refine vX9_freaks_4 ⟨fun c => ?_, fun c => p_isFreak hI hMi hM hr hx0 (by omega) (fun z => ⟨fun q => by omega, fun _ => ⟨by omega, by omega, ?_⟩⟩) (fun z => ⟨fun _ => ⟨by omega, by omega, ?_⟩, fun q => by omega⟩)⟩
      · rw [show nW I = x by omega] at H; exact H
      · rw [← C_succ hx0 z]; exact ih (x + 1) (by omega) (by omega) (by omega)
      · rw [Int.add_zero, ← C_skip hx0 z]; exact ih (x + 1) (by omega) (by omega) (by omega)
  have := key (nW I + 1).toNat 0 (by omega) (by omega) hn.1
  rw [C_nil (Int.le_refl 0)] at this
  exact this
/-- freaks have the least ranks -/
theorem FK_iff {I : IN} (hI : OKI I) {w : Int} (h0 : 0 ≤ w) (h1 : w < nW I) : FK I w ↔ rk I w < C (FK I) 0 (nW I) := by
  have h3 := hm_in hI (p := 3) (by omega)
  have mono : ∀ o v, hW I v ≤ hW I o → FK I v → FK I o := fun o v q z => by
    unfold FK at *
    have : 10 * hW I v * hm I 3 ≤ 10 * hW I o * hm I 3 := Int.mul_le_mul_of_nonneg_right (by omega) h3.1
    omega
  have hrk := rk_in hI h0 h1
  constructor
  · intro z
    have k1 := C_rk hI (m := rk I w + 1) (by omega) (by omega)
    have k2 := C_le (p := fun o => rk I o < rk I w + 1) (q := FK I) (a := 0) (b := nW I) (fun o q1 q2 q3 => by
      have q3 : rk I o < rk I w + 1 := q3
      by_cases e : rk I o = rk I w
      · rw [rk_inj hI q1 q2 h0 h1 e]; exact z
      · have := (rk_iff hI q1 q2 h0 h1).mp (by omega)
        exact mono o w (by unfold bf at this; omega) z)
    omega
  · intro z
    rcases Classical.em (FK I w) with y | y
    · exact y
    · exfalso
      have k1 := C_rk hI (m := rk I w) (by omega) (by omega)
      have k2 := C_le (p := FK I) (q := fun o => rk I o < rk I w) (a := 0) (b := nW I) (fun o q1 q2 q3 => by
        show rk I o < rk I w
        refine (rk_iff hI q1 q2 h0 h1).mpr ?_
        have : ¬ hW I o ≤ hW I w := fun u => y (mono w o u q3)
        unfold bf; omega)
      omega

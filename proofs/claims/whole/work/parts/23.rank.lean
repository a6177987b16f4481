/-! heights, ranks -/
noncomputable def tW (I : IN) (w : Int) : Int := Classical.epsilon (TP (sn I) (wC I w) (wE I w))
noncomputable def lW (I : IN) (w : Int) : Int := Classical.epsilon (LS9 (sn I) (wC I w) (wE I w))
noncomputable def hW (I : IN) (w : Int) : Int := sn I (tW I w) - lW I w
noncomputable def pW (I : IN) (w : Int) : Int := wE I w - wC I w
theorem tW_of {I : IN} {w t : Int} (h : TP (sn I) (wC I w) (wE I w) t) : tW I w = t := TP_uniq (Classical.epsilon_spec (p := TP (sn I) (wC I w) (wE I w)) ⟨t, h⟩) h
theorem lW_of {I : IN} {w t : Int} (h : LS9 (sn I) (wC I w) (wE I w) t) : lW I w = t := LS9_uniq (Classical.epsilon_spec (p := LS9 (sn I) (wC I w) (wE I w)) ⟨t, h⟩) h
/-- what is known of a wave -/
theorem W_facts {I : IN} (hI : OKI I) {w t v : Int} (h0 : 0 ≤ w) (h1 : w < nW I) (ht : TP (sn I) (wC I w) (wE I w) t) (hv : LS9 (sn I) (wC I w) (wE I w) v) : tW I w = t ∧ lW I w = v ∧ (0 ≤ hW I w ∧ hW I w ≤ 1619838) ∧ (0 ≤ wC I w ∧ wC I w ≤ t ∧ t < wE I w ∧ wE I w < iN I) := by
  have hw := Wv_at hI h0 h1
  have hin := Wv_in hI hw
  have e1 := tW_of ht
  have e2 := lW_of hv
  obtain ⟨a1, a2, a3, a4⟩ := ht
  obtain ⟨⟨j, b1, b2, b3⟩, b4⟩ := hv
  have k1 := sn_in hI (show 0 ≤ t by omega) (show t < iN I by omega) (hin.2.2 t a1 (by omega)).1
  have k2 := sn_in hI (show 0 ≤ j by omega) (show j < iN I by omega) (hin.2.2 j b1 (by omega)).1
  have k3 := a3 j b1 b2
  refine ⟨e1, e2, ?_, by omega⟩
  unfold hW
  rw [e1, e2]
  omega
/-- the class's waves, by number -/
def CWn (I : IN) (h : HP) : Prop := h 5 10 = nW I ∧ ∀ w, 0 ≤ w → w < nW I → h 25 w = wC I w ∧ h 26 w = pW I w ∧ h 27 w = hW I w ∧ h 28 w = sn I (tW I w) - LV I (wS I w) ∧ h 29 w = tW I w ∧ h 30 w = wS I w ∧ (0 ≤ hW I w ∧ hW I w ≤ 1619838) ∧ (2 ≤ pW I w ∧ pW I w ≤ 600) ∧ (0 ≤ tW I w ∧ tW I w < iN I)
theorem CW.n {I : IN} (hI : OKI I) {h : HP} (H : CW I h) : CWn I h := by
  refine ⟨H.1, fun w q1 q2 => ?_⟩
  have hw := Wv_at hI q1 q2
  obtain ⟨r1, r2, r3, t, v, r4, r5, r6, r7, r8⟩ := H.2.1 w _ _ _ q2 hw
  obtain ⟨f1, f2, f3, f4⟩ := W_facts hI q1 q2 r4 r5
  have hN := hI.1
  have hce : wC I w + 2 ≤ wE I w := by
    obtain ⟨⟨a1, a2⟩, ⟨b1, b2, b3⟩, c1, c2, c3, d⟩ := hw
    rcases Int.lt_or_le (wC I w + 1) (wE I w) with z | z
    · omega
    · exfalso
      have e : wE I w = wC I w + 1 := by omega
      rw [e] at c2
      exact AR_behind hI.2.2.2.1.1 b1 c1 c2.1
  refine ⟨r1, r2, ?_, ?_, by rw [r6, f1], r3, f3, by unfold pW; omega, by rw [f1]; omega⟩
  · rw [r7]; unfold hW; rw [f1, f2]
  · rw [r8, f1]
/-- the model's waves, by number -/
def MWn (I : IN) (h : HP) : Prop := h 41 28 = nW I ∧ ∀ w, 0 ≤ w → w < nW I → h 57 w = wC I w ∧ h 58 w = pW I w ∧ h 59 w = sn I (tW I w) ∧ h 60 w = lW I w ∧ h 61 w = tW I w ∧ h 62 w = wS I w ∧ (0 ≤ hW I w ∧ hW I w ≤ 1619838) ∧ (2 ≤ pW I w ∧ pW I w ≤ 600) ∧ (0 ≤ tW I w ∧ tW I w < iN I)
theorem MWp.n {I : IN} (hI : OKI I) {h : HP} (H : MWp I h (nW I) (nS I)) : MWn I h := by
  refine ⟨H.1, fun w q1 q2 => ?_⟩
  have hw := Wv_at hI q1 q2
  obtain ⟨r1, r2, r3, t, v, r4, r5, r6, r7, r8⟩ := H.2.1 w _ _ _ q2 hw
  obtain ⟨f1, f2, f3, f4⟩ := W_facts hI q1 q2 r4 r5
  have hN := hI.1
  have hce : wC I w + 2 ≤ wE I w := by
    obtain ⟨⟨a1, a2⟩, ⟨b1, b2, b3⟩, c1, c2, c3, d⟩ := hw
    rcases Int.lt_or_le (wC I w + 1) (wE I w) with z | z
    · omega
    · exfalso
      have e : wE I w = wC I w + 1 := by omega
      rw [e] at c2
      exact AR_behind hI.2.2.2.1.1 b1 c1 c2.1
  refine ⟨r1, r2, by rw [r8, f1], by rw [r7, f2], by rw [r6, f1], r3, f3, by unfold pW; omega, by rw [f1]; omega⟩
/-- a wave stands ahead of another by rank -/
def bf (I : IN) (o w : Int) : Prop := hW I w < hW I o ∨ (hW I o = hW I w ∧ o < w)
noncomputable def rk (I : IN) (w : Int) : Int := C (fun o => bf I o w) 0 (nW I)
theorem C_one {p q : Int → Prop} {a b w : Int} (h1 : a ≤ w) (h2 : w < b) (hp : ¬ p w) (hq : q w) (h : ∀ i, a ≤ i → i < b → ¬ i = w → (p i ↔ q i)) : C q a b = C p a b + 1 := by
  rw [C_app (p := q) (a := a) (b := w) (c := b) h1 (by omega), C_app (p := q) (a := w) (b := w + 1) (c := b) (by omega) (by omega), C_succ (p := q) (Int.le_refl w) hq, C_nil (p := q) (Int.le_refl w),
    C_app (p := p) (a := a) (b := w) (c := b) h1 (by omega), C_app (p := p) (a := w) (b := w + 1) (c := b) (by omega) (by omega), C_skip (p := p) (Int.le_refl w) hp, C_nil (p := p) (Int.le_refl w),
    C_congr (p := q) (q := p) (a := a) (b := w) (fun i z1 z2 => (h i z1 (by omega) (by omega)).symm), C_congr (p := q) (q := p) (a := w + 1) (b := b) (fun i z1 z2 => (h i (by omega) z2 (by omega)).symm)]
  omega
theorem bf_irr {I : IN} {w : Int} : ¬ bf I w w := fun z => by rcases z with z | z <;> omega
theorem bf_tri {I : IN} {o w : Int} (h : ¬ o = w) : bf I o w ↔ ¬ bf I w o := by unfold bf; omega
theorem bf_trans {I : IN} {a b c : Int} (h1 : bf I a b) (h2 : bf I b c) : bf I a c := by unfold bf at *; omega
theorem rk_lt {I : IN} (hI : OKI I) {o w : Int} (h0 : 0 ≤ o) (h1 : o < nW I) (h : bf I o w) : rk I o < rk I w := by
  unfold rk
  have k1 := C_one (p := fun i => bf I i o) (q := fun i => bf I i o ∨ i = o) h0 h1 bf_irr (Or.inr rfl) (fun i _ _ z => ⟨Or.inl, fun y => y.resolve_right z⟩)
  have k2 := C_le (p := fun i => bf I i o ∨ i = o) (q := fun i => bf I i w) (a := 0) (b := nW I) (fun i _ _ z => by
    rcases z with z | z
    · exact bf_trans z h
    · rw [z]; exact h)
  omega
theorem rk_in {I : IN} (hI : OKI I) {w : Int} (h0 : 0 ≤ w) (h1 : w < nW I) : 0 ≤ rk I w ∧ rk I w < nW I := by
  have hn := nW_le hI
  have k0 := (C_bound (p := fun i => bf I i w) (a := 0) (b := nW I) hn.1).1
  have k1 := C_one (p := fun i => bf I i w) (q := fun i => bf I i w ∨ i = w) h0 h1 bf_irr (Or.inr rfl) (fun i _ _ z => ⟨Or.inl, fun y => y.resolve_right z⟩)
  have k2 := (C_bound (p := fun i => bf I i w ∨ i = w) (a := 0) (b := nW I) hn.1).2
  unfold rk
  omega
theorem rk_iff {I : IN} (hI : OKI I) {o w : Int} (h0 : 0 ≤ o) (h1 : o < nW I) (h2 : 0 ≤ w) (h3 : w < nW I) : rk I o < rk I w ↔ bf I o w := by
  constructor
  · intro z
    by_cases e : o = w
    · rw [e] at z; omega
    · rcases Classical.em (bf I o w) with y | y
      · exact y
      · have := rk_lt hI h2 h3 (by rcases Classical.em (bf I w o) with u | u; exact u; exact absurd ((bf_tri e).mpr u) y)
        omega
  · exact rk_lt hI h0 h1
theorem rk_inj {I : IN} (hI : OKI I) {o w : Int} (h0 : 0 ≤ o) (h1 : o < nW I) (h2 : 0 ≤ w) (h3 : w < nW I) (h : rk I o = rk I w) : o = w := by
  by_cases e : o = w
  · exact e
  · exfalso
    rcases Classical.em (bf I o w) with y | y
    · have := rk_lt hI h0 h1 y; omega
    · have y2 : bf I w o := by
        rcases Classical.em (bf I w o) with u | u
        · exact u
        · exact absurd ((bf_tri e).mpr u) y
      have := rk_lt hI h2 h3 y2; omega
/-- sorted: those less than a number are the first ones -/
theorem so_iff {g : Int → Int} {m i v : Int} (hs : ∀ i j, 0 ≤ i → i ≤ j → j < m → g i ≤ g j) (h0 : 0 ≤ i) (h1 : i < m) : g i < v ↔ i < C (fun j => g j < v) 0 m := by
  constructor
  · intro z
    rw [C_app (p := fun j => g j < v) (a := 0) (b := i + 1) (c := m) (by omega) (by omega)]
    have k1 : C (fun j => g j < v) 0 (i + 1) = i + 1 - 0 := C_all (by omega) (fun j q1 q2 => by have := hs j i q1 (by omega) h1; show g j < v; omega)
    have k2 := (C_bound (p := fun j => g j < v) (a := i + 1) (b := m) (by omega)).1
    omega
  · intro z
    rcases Int.lt_or_le (g i) v with y | y
    · exact y
    · exfalso
      rw [C_app (p := fun j => g j < v) (a := 0) (b := i) (c := m) (by omega) (by omega)] at z
      have k1 := (C_bound (p := fun j => g j < v) (a := 0) (b := i) h0).2
      have k2 : C (fun j => g j < v) i m = 0 := C_zero (fun j q1 q2 q3 => by
        have := hs i j h0 q1 q2
        have q3 : g j < v := q3
        omega)
      omega
theorem key_iff {I : IN} {o w : Int} (h0 : 0 ≤ o) (h1 : o < 300) (h2 : 0 ≤ w) (h3 : w < 300) : -(hW I o) * 300 + o < -(hW I w) * 300 + w ↔ bf I o w := by unfold bf; omega
/-- every rank is had -/
theorem rk_ex {I : IN} (hI : OKI I) {r : Int} (h0 : 0 ≤ r) (h1 : r < nW I) : ∃ w, 0 ≤ w ∧ w < nW I ∧ rk I w = r := by
  have hn := nW_le hI
  -- the number of waves of a rank below n is at most n
  have key : ∀ n : Nat, C (fun w => rk I w < n) 0 (nW I) ≤ n := by
    intro n
    induction n with
    | zero => rw [C_zero (fun i q1 q2 q3 => by have := (rk_in hI q1 q2).1; have q3 : rk I i < ((0 : Nat) : Int) := q3; omega)]; omega
    | succ n ih =>
      rcases Classical.em (∃ w, 0 ≤ w ∧ w < nW I ∧ rk I w = n) with ⟨w, q1, q2, q3⟩ | z
      · have := C_one (p := fun i => rk I i < n) (q := fun i => rk I i < ((n + 1 : Nat) : Int)) q1 q2 (by show ¬ rk I w < n; omega) (by show rk I w < ((n + 1 : Nat) : Int); omega) (fun i y1 y2 y3 => by
          have : ¬ rk I i = n := fun y => y3 (rk_inj hI y1 y2 q1 q2 (by omega))
          show rk I i < n ↔ rk I i < ((n + 1 : Nat) : Int)
          omega)
        omega
      · have := C_congr (p := fun i => rk I i < ((n + 1 : Nat) : Int)) (q := fun i => rk I i < n) (a := 0) (b := nW I) (fun i y1 y2 => by
          have : ¬ rk I i = n := fun y => z ⟨i, y1, y2, y⟩
          show rk I i < ((n + 1 : Nat) : Int) ↔ rk I i < n
          omega)
        omega
  have kr := key r.toNat
  rw [show ((r.toNat : Nat) : Int) = r by omega] at kr
  rcases Classical.em (∃ w, 0 ≤ w ∧ w < nW I ∧ rk I w = r) with z | z
  · exact z
  · exfalso
    -- all ranks above r: move them down by counting from the top
    have key2 : ∀ n : Nat, (n : Int) ≤ nW I - r - 1 → C (fun w => rk I w < r + 1 + n) 0 (nW I) ≤ r + n := by
      intro n
      induction n with
      | zero =>
        intro _
        have := C_congr (p := fun i => rk I i < r + 1 + ((0 : Nat) : Int)) (q := fun i => rk I i < r) (a := 0) (b := nW I) (fun i y1 y2 => by
          have : ¬ rk I i = r := fun y => z ⟨i, y1, y2, y⟩
          show rk I i < r + 1 + ((0 : Nat) : Int) ↔ rk I i < r
          omega)
        omega
      | succ n ih =>
        intro hh
        have ih := ih (by omega)
        rcases Classical.em (∃ w, 0 ≤ w ∧ w < nW I ∧ rk I w = r + 1 + n) with ⟨w, q1, q2, q3⟩ | z2
        · have := C_one (p := fun i => rk I i < r + 1 + n) (q := fun i => rk I i < r + 1 + ((n + 1 : Nat) : Int)) q1 q2 (by show ¬ rk I w < r + 1 + n; omega) (by show rk I w < r + 1 + ((n + 1 : Nat) : Int); omega) (fun i y1 y2 y3 => by
            have : ¬ rk I i = r + 1 + n := fun y => y3 (rk_inj hI y1 y2 q1 q2 (by omega))
            show rk I i < r + 1 + n ↔ rk I i < r + 1 + ((n + 1 : Nat) : Int)
            omega)
          omega
        · have := C_congr (p := fun i => rk I i < r + 1 + ((n + 1 : Nat) : Int)) (q := fun i => rk I i < r + 1 + n) (a := 0) (b := nW I) (fun i y1 y2 => by
            have : ¬ rk I i = r + 1 + n := fun y => z2 ⟨i, y1, y2, y⟩
            show rk I i < r + 1 + ((n + 1 : Nat) : Int) ↔ rk I i < r + 1 + n
            omega)
          omega
    have k3 := key2 (nW I - r - 1).toNat (by omega)
    rw [show r + 1 + (((nW I - r - 1).toNat : Nat) : Int) = nW I by omega, C_all hn.1 (fun i q1 q2 => (rk_in hI q1 q2).2)] at k3
    omega
noncomputable def oR (I : IN) (r : Int) : Int := Classical.epsilon (fun w => 0 ≤ w ∧ w < nW I ∧ rk I w = r)
theorem oR_at {I : IN} (hI : OKI I) {r : Int} (h0 : 0 ≤ r) (h1 : r < nW I) : 0 ≤ oR I r ∧ oR I r < nW I ∧ rk I (oR I r) = r := Classical.epsilon_spec (p := fun w => 0 ≤ w ∧ w < nW I ∧ rk I w = r) (rk_ex hI h0 h1)
theorem oR_rk {I : IN} (hI : OKI I) {w : Int} (h0 : 0 ≤ w) (h1 : w < nW I) : oR I (rk I w) = w := by
  have := oR_at hI (rk_in hI h0 h1).1 (rk_in hI h0 h1).2
  exact rk_inj hI this.1 this.2.1 h0 h1 this.2.2
/-- the class's ranking -/
def CRk (I : IN) (h : HP) : Prop := (∀ r, 0 ≤ r → r < nW I → h 34 r = oR I r) ∧ ∀ w, 0 ≤ w → w < nW I → h 35 w = rk I w
theorem p_rank {X : Nat × (Int → Int)} {h0 : HP} {Q : Int → HP → Prop} {I : IN} (hI : OKI I) (hW9 : CWn I h0) (hso : SO h0)
    (H : ∀ h' : HP, (∀ k i, ¬ (k = 34 ∨ k = 35 ∨ k = 39 ∨ k = 40 ∨ (k = 8 ∧ (i = 0 ∨ i = 1 ∨ i = 2))) → h' k i = h0 k i) → SO h' → CRk I h' → Q 0 h') : Wd mX2_rank X 0 [(2, 6), (2, 5), (2, 8), (9, 0), (9, 0)] [] h0 Q := by
  have hn := nW_le hI
  refine vX2_rank_0 (p_clear ?_)
  have L45 : ∀ (d : Nat) (x : Int) (h : HP), nW I - x < d → 0 ≤ x → x ≤ nW I → (∀ k i, ¬ (k = 34 ∨ k = 35 ∨ k = 39 ∨ k = 40 ∨ (k = 8 ∧ (i = 0 ∨ i = 1 ∨ i = 2))) → h k i = h0 k i) → SO h → h 8 2 = nW I → (∀ r, 0 ≤ r → r < nW I → h (h 8 0) r = -(hW I (oR I r)) * 300 + oR I r) → (∀ r, 0 ≤ r → r < x → h 34 r = oR I r ∧ h 35 (oR I r) = r) → Wd mX2_rank X 45 [(2, 6), (2, 5), (2, 8), (0, x), (9, 0)] [] h Q := by
    intro d
    induction d with
    | zero => intro x h q1 q2 q3; omega
    | succ d ih =>
      intro x h hd hx0 hx1 f hs h82 hk ho
      have e5 : h 5 10 = nW I := by rw [f 5 10 (by omega)]; exact hW9.1
      refine vX2_rank_45 ⟨fun c => ?_, fun c => ?_⟩
      · refine H h f hs ⟨fun r q1 q2 => (ho r q1 (by omega)).1, fun w q1 q2 => ?_⟩
        have := (ho (rk I w) (rk_in hI q1 q2).1 (by have := (rk_in hI q1 q2).2; omega)).2
        rw [oR_rk hI q1 q2] at this
        exact this
      · have hor := oR_at hI hx0 (show x < nW I by omega)
        have hb := (hW9.2 _ hor.1 hor.2.1).2.2.2.2.2.2.1
        refine p_keyAt hs hx0 (by omega) (by omega) ?_
        rw [hk x hx0 (by omega)]
        refine p_fmJ (by omega) (by omega) (by omega) ?_
        have em : (-(hW I (oR I x)) * 300 + oR I x) % 300 = oR I x := by omega
        rw [em]
        have hK : h 8 0 = 39 ∨ h 8 0 = 40 := by rcases hs with ⟨a, b⟩ | ⟨a, b⟩ <;> omega
        refine ⟨by omega, hx0, by omega, by omega, by omega, by omega, ?_⟩
        have e80 : (xu (xu h 34 x (oR I x)) 35 (oR I x) x) 8 0 = h 8 0 := by rw [xu_ne (by omega), xu_ne (by omega)]
        refine ih (x + 1) _ (by omega) (by omega) (by omega) (fun k i q => by rw [xu_ne (by omega), xu_ne (by omega)]; exact f k i q) (by unfold SO; rw [e80, xu_ne (by omega), xu_ne (by omega)]; exact hs) (by rw [xu_ne (by omega), xu_ne (by omega)]; exact h82) (fun r q1 q2 => by rw [e80, xu_ne (by omega), xu_ne (by omega)]; exact hk r q1 q2) (fun r q1 q2 => ?_)
        by_cases er : r = x
        · subst er
          exact ⟨by rw [xu_ne (by omega), xu_eq rfl rfl], xu_eq rfl rfl⟩
        · have hor2 := oR_at hI q1 (show r < nW I by omega)
          have hne : ¬ oR I r = oR I x := fun z => er (by rw [← hor2.2.2, z, hor.2.2])
          rw [xu_ne (by omega), xu_ne (by omega), xu_ne (by omega), xu_ne (by omega)]
          exact ho r q1 (by omega)
  have L6 : ∀ (d : Nat) (x : Int) (h : HP), nW I - x < d → 0 ≤ x → x ≤ nW I → (∀ k i, ¬ (k = 39 ∨ k = 40 ∨ (k = 8 ∧ (i = 0 ∨ i = 1 ∨ i = 2))) → h k i = h0 k i) → SO h → h 8 2 = x → (∀ w, 0 ≤ w → w < x → h (h 8 0) w = -(hW I w) * 300 + w) → Wd mX2_rank X 6 [(2, 6), (2, 5), (2, 8), (0, x), (9, 0)] [] h Q := by
    intro d
    induction d with
    | zero => intro x h q1 q2 q3; omega
    | succ d ih =>
      intro x h hd hx0 hx1 f hs h82 hk
      have e5 : h 5 10 = nW I := by rw [f 5 10 (by omega)]; exact hW9.1
      have hK : h 8 0 = 39 ∨ h 8 0 = 40 := by rcases hs with ⟨a, b⟩ | ⟨a, b⟩ <;> omega
      refine vX2_rank_6 ⟨fun c => ?_, fun c => ?_⟩
      · have ex : x = nW I := by omega
        subst ex
        refine p_sort hs h82 hx0 (by omega) (fun h' s1 s2 s3 s4 => ?_)
        refine L45 (nW I + 1).toNat 0 h' (by omega) (by omega) (by omega) (fun k i q => by rw [s2 k i (by omega)]; exact f k i (by omega)) s1 (by rw [s2 8 2 (by omega)]; exact h82) (fun r q1 q2 => ?_) (fun r q1 q2 => by omega)
        -- the wave of rank r stands at r
        obtain ⟨o1, o2, o3⟩ := oR_at hI q1 q2
        generalize hv : -(hW I (oR I r)) * 300 + oR I r = v
        have c1 : C (fun i => h' (h' 8 0) i < v) 0 (nW I) = r := by
          rw [s4 v, ← o3]
          unfold rk
          exact C_congr (fun i z1 z2 => by
            show h (h 8 0) i < v ↔ bf I i (oR I r)
            rw [hk i z1 z2, ← hv]
            exact key_iff z1 (by omega) o1 (by omega))
        have c2 : C (fun i => h' (h' 8 0) i < v + 1) 0 (nW I) = r + 1 := by
          have k1 := C_one (p := fun i => h (h 8 0) i < v) (q := fun i => h (h 8 0) i < v + 1) (a := 0) (b := nW I) o1 o2 (by show ¬ h (h 8 0) (oR I r) < v; rw [hk _ o1 o2, hv]; omega) (by show h (h 8 0) (oR I r) < v + 1; rw [hk _ o1 o2, hv]; omega) (fun i z1 z2 z3 => by
            show h (h 8 0) i < v ↔ h (h 8 0) i < v + 1
            rw [hk i z1 z2, ← hv]
            omega)
          rw [s4 (v + 1), k1, ← s4 v, c1]
        have k1 := so_iff (v := v) s3 q1 q2
        have k2 := so_iff (v := v + 1) s3 q1 q2
        rw [c1] at k1
        rw [c2] at k2
        have := k2.mpr (by omega)
        have : ¬ h' (h' 8 0) r < v := fun z => by have := k1.mp z; omega
        omega
      · obtain ⟨w1, w2, w3, w4, w5, w6, w7, w8, w9⟩ := hW9.2 x hx0 (by omega)
        have e27 : h 27 x = hW I x := by rw [f 27 x (by omega)]; exact w3
        rw [e27]
        refine ⟨hx0, by omega, by omega, by omega, by omega, ?_⟩
        refine p_add5 hs (by omega) (by omega) ⟨by omega, ?_⟩
        rw [h82]
        have e80 : (xu (xu h (h 8 0) x (-(hW I x) * 300 + x)) 8 2 (x + 1)) 8 0 = h 8 0 := by rw [xu_ne (by omega), xu_ne (by omega)]
        refine ih (x + 1) _ (by omega) (by omega) (by omega) (fun k i q => by rw [xu_ne (by omega), xu_ne (by omega)]; exact f k i q) (by unfold SO; rw [e80, xu_ne (by omega), xu_ne (by omega)]; exact hs) (xu_eq rfl rfl) (fun w q1 q2 => ?_)
        rw [e80]
        by_cases ew : w = x
        · rw [xu_ne (by omega), xu_eq rfl ew, ew]
        · rw [xu_ne (by omega), xu_ne (by omega)]; exact hk w q1 (by omega)
  exact L6 (nW I + 1).toNat 0 _ (by omega) (by omega) (by omega) (fun k i q => by rw [xu_ne (by omega)]) (by unfold SO; rw [xu_ne (by omega), xu_ne (by omega)]; exact hso) (xu_eq rfl rfl) (fun w q1 q2 => by omega)
/-! the model's ranks -/
theorem p_height {X : Nat × (Int → Int)} {h : HP} {Q : Int → HP → Prop} {I : IN} (hI : OKI I) (hM : MWn I h) {w : Int} (h0 : 0 ≤ w) (h1 : w < nW I) (H : Q (hW I w) h) : Wd mX9_height X 0 [(2, 41), (0, w)] [] h Q := by
  have hn := nW_le hI
  obtain ⟨w1, w2, w3, w4, w5, w6, w7, w8, w9⟩ := hM.2 w h0 h1
  refine vX9_height_0 ?_
  rw [w3, w4]
  have e : sn I (tW I w) - lW I w = hW I w := rfl
  rw [e]
  exact ⟨h0, by omega, by omega, H⟩
theorem MWn.keep {I : IN} {h h' : HP} (H : MWn I h) (hf : ∀ k i, ((57 ≤ k ∧ k ≤ 62) ∨ (k = 41 ∧ i = 28)) → h' k i = h k i) : MWn I h' :=
  ⟨by rw [hf 41 28 (by omega)]; exact H.1, fun w q1 q2 => by rw [hf 57 w (by omega), hf 58 w (by omega), hf 59 w (by omega), hf 60 w (by omega), hf 61 w (by omega), hf 62 w (by omega)]; exact H.2 w q1 q2⟩
theorem p_ranks9 {X : Nat × (Int → Int)} {h0 : HP} {Q : Int → HP → Prop} {I : IN} (hI : OKI I) (hM : MWn I h0)
    (H : ∀ h' : HP, (∀ k i, ¬ (k = 63) → h' k i = h0 k i) → (∀ w, 0 ≤ w → w < nW I → h' 63 w = rk I w) → Wd mX9_laysHigh X 0 [(2, 41), (9, 0), (9, 0), (9, 0), (9, 0), (9, 0)] [] h' (fun _ h2 => Q 0 h2)) : Wd mX9_laysWaves X 174 [(2, 41), (0, 0), (9, 0), (9, 0)] [] h0 Q := by
  have hn := nW_le hI
  have L174 : ∀ (d : Nat) (x : Int) (h : HP), nW I - x < d → 0 ≤ x → x ≤ nW I → (∀ k i, ¬ (k = 63) → h k i = h0 k i) → (∀ w, 0 ≤ w → w < x → h 63 w = rk I w) → Wd mX9_laysWaves X 174 [(2, 41), (0, x), (9, 0), (9, 0)] [] h Q := by
    intro d
    induction d with
    | zero => intro x h q1 q2 q3; omega
    | succ d ih =>
      intro x h hd hx0 hx1 f hr
      have hMh : MWn I h := hM.keep (fun k i q => f k i (by omega))
      have e28 := hMh.1
      refine vX9_laysWaves_174 ⟨fun c => ?_, fun c => ⟨hx0, by omega, ?_⟩⟩
      · exact H h f (fun w q1 q2 => hr w q1 (by omega))
      · have inner : ∀ (d2 : Nat) (o : Int) (h2 : HP), nW I - o < d2 → 0 ≤ o → o ≤ nW I → (∀ k i, ¬ (k = 63) → h2 k i = h0 k i) → (∀ w, 0 ≤ w → w < x → h2 63 w = rk I w) → h2 63 x = C (fun i => bf I i x) 0 o → Wd mX9_laysWaves X 191 [(2, 41), (0, x), (0, o), (9, 0)] [] h2 Q := by
          intro d2
          induction d2 with
          | zero => intro o h2 q1 q2 q3; omega
          | succ d2 ih2 =>
            intro o h2 hd2 ho0 ho1 f2 hr2 hx2
            have hM2 : MWn I h2 := hM.keep (fun k i q => f2 k i (by omega))
            have e28' := hM2.1
            have cb := C_bound (p := fun i => bf I i x) ho0
            refine vX9_laysWaves_191 ⟨fun c2 => ⟨by omega, ?_⟩, fun c2 => ⟨hx0, by omega, ?_⟩⟩
            · refine ih (x + 1) h2 (by omega) (by omega) (by omega) f2 (fun w q1 q2 => ?_)
              by_cases ew : w = x
              · rw [ew, hx2, show o = nW I by omega]; rfl
              · exact hr2 w q1 (by omega)
            · have go : ∀ v, v = C (fun i => bf I i x) 0 (o + 1) → inI (o + 1) ∧ Wd mX9_laysWaves X 191 [(2, 41), (0, x), (0, o + 1), (9, 0)] [] (xu h2 63 x v) Q := fun v ev => by
                refine ⟨by omega, ih2 (o + 1) _ (by omega) (by omega) (by omega) (fun k i q => by rw [xu_ne (by omega)]; exact f2 k i q) (fun w q1 q2 => by rw [xu_ne (by omega)]; exact hr2 w q1 q2) (by rw [xu_eq rfl rfl, ev])⟩
              refine p_height hI hM2 ho0 (by omega) (p_height hI hM2 hx0 (by omega) ⟨fun c3 => ⟨by omega, go _ ?_⟩, fun c3 => ?_⟩)
              · rw [C_succ (p := fun i => bf I i x) ho0 (Or.inl c3), hx2]
              · refine p_height hI hM2 ho0 (by omega) (p_height hI hM2 hx0 (by omega) ⟨fun c4 => ⟨by omega, go _ ?_⟩, fun c4 => ⟨fun c5 => ⟨by omega, go _ ?_⟩, fun c5 => ⟨by omega, go _ ?_⟩⟩⟩)
                · rw [C_skip (p := fun i => bf I i x) ho0 (by unfold bf; omega), hx2]; omega
                · rw [C_skip (p := fun i => bf I i x) ho0 (by unfold bf; omega), hx2]; omega
                · rw [C_succ (p := fun i => bf I i x) ho0 (by unfold bf; omega), hx2]
        exact inner (nW I + 1).toNat 0 _ (by omega) (by omega) (by omega) (fun k i q => by rw [xu_ne (by omega)]; exact f k i q) (fun w q1 q2 => by rw [xu_ne (by omega)]; exact hr w q1 q2) (by rw [xu_eq rfl rfl, C_nil (Int.le_refl 0)])
  exact L174 (nW I + 1).toNat 0 h0 (by omega) (by omega) (by omega) (fun k i _ => rfl) (fun w q1 q2 => by omega)

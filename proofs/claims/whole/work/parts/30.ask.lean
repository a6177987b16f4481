/-! questions: count, sample, through, stretch -/
theorem p_has3 {X : Nat × (Int → Int)} {h : HP} {Q : Int → HP → Prop} {n k : Int} (e : h 3 2 = n) (H1 : 0 ≤ k → k < n → Q 1 h) (H0 : ¬ (0 ≤ k ∧ k < n) → Q 0 h) : Wd mX3_has X 0 [(2, 3), (0, k)] [] h Q := by
  refine vX3_has_0 ⟨fun c => H0 (fun z => by omega), fun c => ⟨fun c1 => H0 (fun z => by omega), fun c1 => H1 (by omega) (by omega)⟩⟩
theorem p_has6 {X : Nat × (Int → Int)} {h : HP} {Q : Int → HP → Prop} {n k : Int} (e : h 4 6 = n) (H1 : 0 ≤ k → k < n → Q 1 h) (H0 : ¬ (0 ≤ k ∧ k < n) → Q 0 h) : Wd mX6_has X 0 [(2, 4), (0, k)] [] h Q := by
  refine vX6_has_0 ⟨fun c => H0 (fun z => by omega), fun c => ⟨fun c1 => H0 (fun z => by omega), fun c1 => H1 (by omega) (by omega)⟩⟩
theorem p_has7 {X : Nat × (Int → Int)} {h : HP} {Q : Int → HP → Prop} {n k : Int} (e : h 5 10 = n) (H1 : 0 ≤ k → k < n → Q 1 h) (H0 : ¬ (0 ≤ k ∧ k < n) → Q 0 h) : Wd mX7_has X 0 [(2, 5), (0, k)] [] h Q := by
  refine vX7_has_0 ⟨fun c => H0 (fun z => by omega), fun c => ⟨fun c1 => H0 (fun z => by omega), fun c1 => H1 (by omega) (by omega)⟩⟩
theorem p_has0 {X : Nat × (Int → Int)} {h : HP} {Q : Int → HP → Prop} {n k : Int} (e : h 7 3 = n) (H1 : 0 ≤ k → k < n → Q 1 h) (H0 : ¬ (0 ≤ k ∧ k < n) → Q 0 h) : Wd mX0_has X 0 [(2, 7), (0, k)] [] h Q := by
  refine vX0_has_0 ⟨fun c => H0 (fun z => by omega), fun c => ⟨fun c1 => H0 (fun z => by omega), fun c1 => H1 (by omega) (by omega)⟩⟩
theorem p_isSample {X : Nat × (Int → Int)} {h : HP} {Q : Int → HP → Prop} {n k : Int} (e : h 41 5 = n) (hn : 0 ≤ n ∧ n ≤ 600) (H1 : 0 ≤ k → k < n → Q 1 h) (H0 : ¬ (0 ≤ k ∧ k < n) → Q 0 h) : Wd mX9_isSample X 0 [(2, 41), (0, k)] [] h Q :=
  vX9_isSample_0 ⟨by omega, p_isIn (fun d1 d2 => ⟨Or.inr rfl, H1 d1 (by omega)⟩) (fun d => ⟨Or.inl rfl, H0 (fun z => by omega)⟩)⟩
theorem p_isWave {X : Nat × (Int → Int)} {h : HP} {Q : Int → HP → Prop} {n k : Int} (e : h 41 28 = n) (hn : 0 ≤ n ∧ n ≤ 300) (H1 : 0 ≤ k → k < n → Q 1 h) (H0 : ¬ (0 ≤ k ∧ k < n) → Q 0 h) : Wd mX9_isWave X 0 [(2, 41), (0, k)] [] h Q :=
  vX9_isWave_0 ⟨by omega, p_isIn (fun d1 d2 => ⟨Or.inr rfl, H1 d1 (by omega)⟩) (fun d => ⟨Or.inl rfl, H0 (fun z => by omega)⟩)⟩
/-! counting -/
theorem p_namesGiven {X : Nat × (Int → Int)} {h : HP} {Q : Int → HP → Prop} {n : Int} {nm : Int → Int} (e : h 3 2 = n) (hn : 0 ≤ n ∧ n ≤ 600) (hN : NMc n nm h) (H : Q (C (fun i => ¬ nm i = 0) 0 n) h) : Wd mX3_namesGiven X 0 [(2, 3), (9, 0), (9, 0)] [] h Q := by
  have key : ∀ (d : Nat) (x : Int), n - x < d → 0 ≤ x → x ≤ n → Wd mX3_namesGiven X 4 [(2, 3), (0, C (fun i => ¬ nm i = 0) 0 x), (0, x)] [] h Q := by
    intro d
    induction d with
    | zero => intro x q1 q2 q3; omega
    | succ d ih =>
      intro x hd hx0 hx1
      have cb := C_bound (p := fun i => ¬ nm i = 0) hx0
      refine vX3_namesGiven_4 ⟨fun c => by rw [show x = n by omega]; exact H, fun c => ⟨hx0, by omega, fun c1 => ⟨by omega, ?_⟩, fun c1 => ⟨by omega, by omega, ?_⟩⟩⟩
      · have t := ih (x + 1) (by omega) (by omega) (by omega)
        rw [hN x hx0 (by omega)] at c1
        rw [C_skip (p := fun i => ¬ nm i = 0) hx0 (fun z => z c1)] at t; exact t
      · have t := ih (x + 1) (by omega) (by omega) (by omega)
        rw [hN x hx0 (by omega)] at c1
        rw [C_succ (p := fun i => ¬ nm i = 0) hx0 c1] at t; exact t
  have := key (n + 1).toNat 0 (by omega) (by omega) hn.1
  rw [C_nil (Int.le_refl 0)] at this
  exact vX3_namesGiven_0 this
theorem NM.m1 {n : Int} {nm : Int → Int} {h : HP} (H : NM n nm h) {k : Int} (h0 : 0 ≤ k) (h1 : k < n) : h 46 k = -1 ↔ nm k = 0 := by
  obtain ⟨a, b, c, d⟩ := H.1 k h0 h1
  constructor
  · intro z
    by_cases e : nm k = 0
    · exact e
    · have := c e; omega
  · exact b
theorem p_names {X : Nat × (Int → Int)} {h : HP} {Q : Int → HP → Prop} {n : Int} {nm : Int → Int} (e : h 41 5 = n) (hn : 0 ≤ n ∧ n ≤ 600) (hN : NM n nm h) (H : Q (C (fun i => ¬ nm i = 0) 0 n) h) : Wd mX9_names X 0 [(2, 41), (9, 0), (9, 0)] [] h Q := by
  have key : ∀ (d : Nat) (x : Int), n - x < d → 0 ≤ x → x ≤ n → Wd mX9_names X 4 [(2, 41), (0, C (fun i => ¬ nm i = 0) 0 x), (0, x)] [] h Q := by
    intro d
    induction d with
    | zero => intro x q1 q2 q3; omega
    | succ d ih =>
      intro x hd hx0 hx1
      have cb := C_bound (p := fun i => ¬ nm i = 0) hx0
      refine vX9_names_4 ⟨fun c => by rw [show x = n by omega]; exact H, fun c => ⟨hx0, by omega, fun c1 => ⟨by omega, by omega, ?_⟩, fun c1 => ⟨by omega, by omega, ?_⟩⟩⟩
      · have t := ih (x + 1) (by omega) (by omega) (by omega)
        rw [hN.m1 hx0 (by omega)] at c1
        rw [C_succ (p := fun i => ¬ nm i = 0) hx0 c1] at t; exact t
      · have t := ih (x + 1) (by omega) (by omega) (by omega)
        rw [hN.m1 hx0 (by omega)] at c1
        rw [C_skip (p := fun i => ¬ nm i = 0) hx0 (fun z => z c1)] at t; rw [Int.add_zero]; exact t
  have := key (n + 1).toNat 0 (by omega) (by omega) hn.1
  rw [C_nil (Int.le_refl 0)] at this
  exact vX9_names_0 this
theorem p_gaps {X : Nat × (Int → Int)} {h : HP} {Q : Int → HP → Prop} {I : IN} (hI : OKI I) (hM : MIn I h) (H : Q (C (fun k => iR I k = -32768) 0 (iN I)) h) : Wd mX9_gaps X 0 [(2, 41), (9, 0), (9, 0)] [] h Q := by
  have hn := hI.1
  have key : ∀ (d : Nat) (x : Int), iN I - x < d → 0 ≤ x → x ≤ iN I → Wd mX9_gaps X 4 [(2, 41), (0, C (fun k => iR I k = -32768) 0 x), (0, x)] [] h Q := by
    intro d
    induction d with
    | zero => intro x q1 q2 q3; omega
    | succ d ih =>
      intro x hd hx0 hx1
      have cb := C_bound (p := fun k => iR I k = -32768) hx0
      have e5 := hM.1
      refine vX9_gaps_4 ⟨fun c => by rw [show x = iN I by omega]; exact H, fun c => ⟨hx0, by omega, fun c1 => ⟨by omega, by omega, ?_⟩, fun c1 => ⟨by omega, by omega, ?_⟩⟩⟩
      · have t := ih (x + 1) (by omega) (by omega) (by omega)
        rw [hM.2.1 x hx0 (by omega)] at c1
        rw [C_skip (p := fun k => iR I k = -32768) hx0 c1] at t; rw [Int.add_zero]; exact t
      · have t := ih (x + 1) (by omega) (by omega) (by omega)
        rw [hM.2.1 x hx0 (by omega)] at c1
        rw [C_succ (p := fun k => iR I k = -32768) hx0 c1] at t; exact t
  have := key (iN I + 1).toNat 0 (by omega) (by omega) hn.1
  rw [C_nil (Int.le_refl 0)] at this
  exact vX9_gaps_0 this
theorem pW_S {I : IN} {a b : Int} (hI : OKI I) (h0 : 0 ≤ a) (h1 : a ≤ b) (h2 : b ≤ nW I) (hp : ∀ w, 0 ≤ w → w < nW I → 2 ≤ pW I w ∧ pW I w ≤ 600) : 0 ≤ S (pW I) a b ∧ S (pW I) a b ≤ 180000 := by
  have hn := nW_le hI
  have := S_bound (f := pW I) (lo := 0) (hi := 600) h1 (fun i q1 q2 => by have := hp i (by omega) (by omega); omega)
  omega
theorem p_periodsFrom {X : Nat × (Int → Int)} {h : HP} {Q : Int → HP → Prop} {I : IN} (hI : OKI I) (hW9 : CWn I h) {a b : Int} (h0 : 0 ≤ a) (h1 : a ≤ b) (h2 : b ≤ nW I) (H : Q (S (pW I) a b) h) : Wd mX7_periodsFrom X 0 [(2, 5), (0, a), (0, b), (9, 0), (9, 0)] [] h Q := by
  have hn := nW_le hI
  have hp : ∀ w, 0 ≤ w → w < nW I → 2 ≤ pW I w ∧ pW I w ≤ 600 := fun w q1 q2 => (hW9.2 w q1 q2).2.2.2.2.2.2.2.1
  have key : ∀ (d : Nat) (x : Int), b - x < d → a ≤ x → x ≤ b → Wd mX7_periodsFrom X 5 [(2, 5), (9, 0), (0, b), (0, S (pW I) a x), (0, x)] [] h Q := by
    intro d
    induction d with
    | zero => intro x q1 q2 q3; omega
    | succ d ih =>
      intro x hd hx0 hx1
      refine vX7_periodsFrom_5 ⟨fun c => by rw [show x = b by omega]; exact H, fun c => ?_⟩
      rw [(hW9.2 x (by omega) (by omega)).2.1, ← S_succ hx0]
      have := pW_S (a := a) (b := x + 1) hI h0 (by omega) (by omega) hp
      exact ⟨by omega, by omega, by omega, by omega, ih (x + 1) (by omega) (by omega) (by omega)⟩
  have := key (b - a + 1).toNat a (by omega) (by omega) h1
  rw [S_nil (Int.le_refl a)] at this
  exact vX7_periodsFrom_0 this
theorem p_waved {X : Nat × (Int → Int)} {h : HP} {Q : Int → HP → Prop} {I : IN} (hI : OKI I) (hM : MWn I h) (H : Q (S (pW I) 0 (nW I)) h) : Wd mX9_waved X 0 [(2, 41), (9, 0), (9, 0)] [] h Q := by
  have hn := nW_le hI
  have hp : ∀ w, 0 ≤ w → w < nW I → 2 ≤ pW I w ∧ pW I w ≤ 600 := fun w q1 q2 => (hM.2 w q1 q2).2.2.2.2.2.2.2.1
  have key : ∀ (d : Nat) (x : Int), nW I - x < d → 0 ≤ x → x ≤ nW I → Wd mX9_waved X 4 [(2, 41), (0, S (pW I) 0 x), (0, x)] [] h Q := by
    intro d
    induction d with
    | zero => intro x q1 q2 q3; omega
    | succ d ih =>
      intro x hd hx0 hx1
      have e := hM.1
      refine vX9_waved_4 ⟨fun c => by rw [show x = nW I by omega]; exact H, fun c => ?_⟩
      rw [(hM.2 x (by omega) (by omega)).2.1, ← S_succ hx0]
      have := pW_S (a := 0) (b := x + 1) hI (by omega) (by omega) (by omega) hp
      exact ⟨by omega, by omega, by omega, by omega, ih (x + 1) (by omega) (by omega) (by omega)⟩
  have := key (nW I + 1).toNat 0 (by omega) (by omega) hn.1
  rw [S_nil (Int.le_refl 0)] at this
  exact vX9_waved_0 this
noncomputable def cA (I : IN) (nm : Int → Int) (x : Int) : Int := if x = 0 then iN I else if x = 1 then nS I else if x = 2 then nW I else if x = 3 then C (FK I) 0 (nW I) else if x = 4 then C (G I) 0 (nW I) else if x = 5 then iL I else if x = 6 then C (fun i => ¬ nm i = 0) 0 (iN I) else if x = 7 then iS I 0 else if x = 8 then iS I 1 else if x = 9 then iS I 2 else if x = 10 then iS I 3 else if x = 11 then iS I 4 else if x = 12 then iS I 6 else if x = 13 then C (fun k => iR I k = -32768) 0 (iN I) else if x = 14 then C (fun k => iR I k = -32768 ∧ ¬ mM I k = -32768) 0 (iN I) else if x = 15 then S (pW I) 0 (nW I) else -1
theorem cA_no {I : IN} {nm : Int → Int} {x : Int} (c : x < 0 ∨ 15 < x) : cA I nm x = -1 := by
  unfold cA
  rw [if_neg (by omega), if_neg (by omega), if_neg (by omega), if_neg (by omega), if_neg (by omega), if_neg (by omega), if_neg (by omega), if_neg (by omega), if_neg (by omega), if_neg (by omega), if_neg (by omega), if_neg (by omega), if_neg (by omega), if_neg (by omega), if_neg (by omega), if_neg (by omega)]
theorem m_count {X : Nat × (Int → Int)} {h : HP} {I : IN} {nm : Int → Int} (hI : OKI I) (hC : CIn I h) (hM : MIn I h) (hN : NM (iN I) nm h) (hso : SO h) (hst : h 0 8 = 0 → CD I h) {x r : Int} (hr : r = cA I nm x) : Wd mX9_count X 0 [(2, 41), (0, x)] [] h (fun r2 h2 => r = r2 ∧ RL9 h2) := by
  refine vX9_count_0 (q_lays hI hC hM hN hso hst (fun h1 c1 n1 x1 v1 rl => ?_))
  have rl1 : RL9 h1 := rl h1 (fun _ _ _ => rfl)
  have m1 := x1.1.1
  have s1 := x1.1.2.1
  have w1 := x1.2.1
  rw [hr]
  refine ⟨fun c => ⟨cA_no c, rl1⟩, fun c => ⟨?_, rl1⟩, fun c => ⟨?_, rl1⟩, fun c => ⟨?_, rl1⟩, fun c => p_freaks hI m1 w1 x1.2.2.1 ⟨?_, rl1⟩, fun c => p_groups hI x1 ⟨?_, rl1⟩, fun c => ⟨?_, rl1⟩, fun c => p_names m1.1 hI.1 n1 ⟨?_, rl1⟩, fun c => ⟨?_, rl1⟩, fun c => ⟨?_, rl1⟩, fun c => ⟨?_, rl1⟩, fun c => ⟨?_, rl1⟩, fun c => ⟨?_, rl1⟩, fun c => ⟨?_, rl1⟩, fun c => p_gaps hI m1 ⟨?_, rl1⟩, fun c => ⟨?_, rl1⟩, fun c => p_waved hI w1 ⟨?_, rl1⟩⟩
  · rw [c, m1.1]; rfl
  · rw [c, s1.2.1]; rfl
  · rw [c, w1.1]; rfl
  · rw [c]; rfl
  · rw [c]; rfl
  · rw [c, m1.2.2.2.1]; rfl
  · rw [c]; rfl
  · rw [c, m1.2.2.1 0 (by omega) (by omega)]; rfl
  · rw [c, m1.2.2.1 1 (by omega) (by omega)]; rfl
  · rw [c, m1.2.2.1 2 (by omega) (by omega)]; rfl
  · rw [c, m1.2.2.1 3 (by omega) (by omega)]; rfl
  · rw [c, m1.2.2.1 4 (by omega) (by omega)]; rfl
  · rw [c, m1.2.2.1 6 (by omega) (by omega)]; rfl
  · rw [c]; rfl
  · rw [c, s1.2.2.2]; rfl
  · rw [c]; rfl
theorem o_count {X : Nat × (Int → Int)} {h : HP} {x : Int} (H : RL9 h) : Wd mX8_count X 0 [(2, 0), (0, x)] [] h (fun r h1 => Wd mX9_count X 0 [(2, 41), (0, x)] [] h1 (fun r2 h2 => r = r2 ∧ RL9 h2)) := by
  obtain ⟨I, nm, hI, hC, hM, hN, hso, hst⟩ := H
  have hn := nW_le hI
  refine vX8_count_0 (q_both hI hC hM hN hso hst (fun h1 c1 m1 n1 so1 z1 d1 => ?_))
  have mc : ∀ {r : Int}, r = cA I nm x → Wd mX9_count X 0 [(2, 41), (0, x)] [] h1 (fun r2 h2 => r = r2 ∧ RL9 h2) := fun hr => m_count hI c1 m1 n1 so1 (fun _ => d1) hr
  have hwn := d1.2.1.n hI
  refine ⟨fun c => mc (cA_no c).symm, fun c => mc ?_, fun c => mc ?_, fun c => mc ?_, fun c => mc ?_, fun c => mc ?_, fun c => mc ?_, fun c => p_namesGiven c1.1 hI.1 n1.c (mc ?_), fun c => vX4_mend_0 (mc ?_), fun c => vX4_band_0 (mc ?_), fun c => vX4_factor_0 (mc ?_), fun c => vX4_least_0 (mc ?_), fun c => mc ?_, fun c => mc ?_, fun c => mc ?_, fun c => mc ?_, fun c => ?_⟩
  · rw [c, c1.1]; rfl
  · rw [c, d1.1.1.1]; rfl
  · rw [c, hwn.1]; rfl
  · rw [c, d1.2.2.2.1.1]; rfl
  · rw [c, d1.2.2.2.2.1.1]; rfl
  · rw [c, c1.2.2.2.2.1]; rfl
  · rw [c]; rfl
  · rw [c, c1.2.2.1 0 (by omega) (by omega)]; rfl
  · rw [c, c1.2.2.1 1 (by omega) (by omega)]; rfl
  · rw [c, c1.2.2.1 2 (by omega) (by omega)]; rfl
  · rw [c, c1.2.2.1 3 (by omega) (by omega)]; rfl
  · rw [c, c1.2.2.2.1.1]; rfl
  · rw [c, c1.2.2.2.1.2.2.1]; rfl
  · rw [c, d1.2.2.2.2.2.1]; rfl
  · rw [c, d1.2.2.2.2.2.2]; rfl
  · rw [hwn.1]
    exact p_periodsFrom hI hwn (by omega) hn.1 (Int.le_refl _) (mc (by rw [c]; rfl))
/-! sample -/
def WOs (I : IN) (k v : Int) : Prop := (∃ w s c e, w < nW I ∧ Wv I w s c e ∧ c ≤ k ∧ k < e ∧ v = w) ∨ ((∀ w s c e, w < nW I → Wv I w s c e → ¬ (c ≤ k ∧ k < e)) ∧ v = -1)
theorem WOs_uniq {I : IN} (hI : OKI I) {k v u : Int} (h1 : WOs I k v) (h2 : WOs I k u) : v = u := by
  rcases h1 with ⟨w, s, c, e, a1, a2, a3, a4, a5⟩ | ⟨a1, a2⟩ <;> rcases h2 with ⟨w', s', c', e', b1, b2, b3, b4, b5⟩ | ⟨b1, b2⟩
  · rw [a5, b5]; exact Wv_dis hI a2 b2 a3 a4 b3 b4
  · exact absurd ⟨a3, a4⟩ (b1 w s c e a1 a2)
  · exact absurd ⟨b3, b4⟩ (a1 w' s' c' e' b1 b2)
  · rw [a2, b2]
noncomputable def wO (I : IN) (k : Int) : Int := Classical.epsilon (WOs I k)
theorem wO_of {I : IN} (hI : OKI I) {h : HP} {p k : Int} (H : WO9 I h p (nW I)) (h0 : 0 ≤ k) (h1 : k < iN I) : h p k = wO I k := by
  have : WOs I k (h p k) := by
    rcases H k h0 h1 with ⟨w, s, c, e, a1, a2, a3, a4, a5⟩ | ⟨a1, a2⟩
    · exact Or.inl ⟨w, s, c, e, a1, a2, a3, a4, a5⟩
    · exact Or.inr ⟨a1, a2⟩
  exact WOs_uniq hI this (Classical.epsilon_spec (p := WOs I k) ⟨_, this⟩)
/-- a sample behind so many lenses -/
noncomputable def sV (I : IN) (l k : Int) : Int := if mM I k = -32768 then -32768 else V I l.toNat k
theorem p_shownBehind {X : Nat × (Int → Int)} {h : HP} {Q : Int → HP → Prop} {I : IN} (hI : OKI I) (hL : CL I h) {k l : Int} (h0 : 0 ≤ k) (h1 : k < iN I) (hl0 : 0 ≤ l) (hl1 : l ≤ iL I) (H : Q (sV I l k) h) : Wd mX6_shownBehind X 0 [(2, 4), (0, k), (0, l)] [] h Q := by
  have hn := hI.1
  have hL9 := hI.2.2.2.2.2.2.2.2.2.2.1
  unfold sV at H
  refine vX6_shownBehind_0 ⟨h0, by omega, ?_⟩
  rw [hL.1.2.1 k h0 h1]
  by_cases e : mM I k = -32768
  · rw [if_pos e] at H
    exact ⟨fun c => absurd (sO_ref e) c, fun _ => H⟩
  · rw [if_neg e] at H
    have := (SG_of h0 h1 e).1
    have e2 := hL.2.1.1 l.toNat (by omega) k h0 h1 e
    rw [show ((l.toNat : Nat) : Int) = l by omega] at e2
    refine ⟨fun _ => ⟨by omega, by omega, row_IA hl0 (by omega), ?_⟩, fun c => by omega⟩
    rw [e2]; exact H
noncomputable def sA (I : IN) (nm : Int → Int) (k x : Int) : Int := if x = 0 then iR I k else if x = 1 then sV I 0 k else if x = 2 then sV I (iL I) k else if x = 3 then sO I k else if x = 4 then wO I k else if x = 5 then (if nm k = 0 then -1 else nm k) else -1
theorem sV_0 {I : IN} {k : Int} : sV I 0 k = mM I k := by
  unfold sV
  by_cases e : mM I k = -32768
  · rw [if_pos e, e]
  · rw [if_neg e]; rfl
theorem p_nameAt {X : Nat × (Int → Int)} {h : HP} {Q : Int → HP → Prop} {n k : Int} {nm : Int → Int} (e : h 3 2 = n) (hn : n ≤ 600) (hN : NMc n nm h) (h0 : 0 ≤ k) (h1 : k < n) (H : Q (if nm k = 0 then -1 else nm k) h) : Wd mX3_nameAt X 0 [(2, 3), (0, k)] [] h Q := by
  refine vX3_nameAt_0 (p_has3 e (fun _ _ => ⟨fun z => by omega, fun _ => ⟨h0, by omega, ?_⟩⟩) (fun z => absurd ⟨h0, h1⟩ z))
  rw [hN k h0 h1]
  refine ⟨fun c => ?_, fun c => ?_⟩
  · rw [if_pos c] at H; exact H
  · rw [if_neg c] at H; exact H
theorem m_sample {X : Nat × (Int → Int)} {h : HP} {I : IN} {nm : Int → Int} (hI : OKI I) (hC : CIn I h) (hM : MIn I h) (hN : NM (iN I) nm h) (hso : SO h) (hst : h 0 8 = 0 → CD I h) {k x r : Int} (h0 : 0 ≤ k) (h1 : k < iN I) (hr : r = sA I nm k x) : Wd mX9_sample X 0 [(2, 41), (0, k), (0, x)] [] h (fun r2 h2 => r = r2 ∧ RL9 h2) := by
  have hn := hI.1
  have hL9 := hI.2.2.2.2.2.2.2.2.2.2.1
  refine vX9_sample_0 (p_isSample hM.1 hn (fun _ _ => ⟨fun _ => ?_, fun z => by omega⟩) (fun z => absurd ⟨h0, h1⟩ z))
  refine q_lays hI hC hM hN hso hst (fun h1' c1 n1 x1 v1 rl => ?_)
  have rl1 : RL9 h1' := rl h1' (fun _ _ _ => rfl)
  have m1 := x1.1.1
  have s1 := x1.1.2.1
  rw [hr]
  refine ⟨fun c => ⟨?_, rl1⟩, fun c => ⟨h0, by omega, ?_, rl1⟩, fun c => ⟨h0, by omega, ?_, rl1⟩, fun c => ⟨h0, by omega, ?_, rl1⟩, fun c => ⟨h0, by omega, ?_, rl1⟩, fun c => ⟨h0, by omega, ?_, rl1⟩, fun c => ⟨h0, by omega, ?_, rl1⟩⟩
  · unfold sA; rw [if_neg (by omega), if_neg (by omega), if_neg (by omega), if_neg (by omega), if_neg (by omega), if_neg (by omega)]
  · rw [c, m1.2.1 k h0 h1]; rfl
  · rw [c, (s1.1 k h0 h1).1]; exact sV_0
  · rw [c]
    show sV I (iL I) k = _
    unfold sV
    by_cases e : mM I k = -32768
    · rw [if_pos e, (v1 k h0 h1).2 e]
    · rw [if_neg e, (v1 k h0 h1).1 e]
  · rw [c, (s1.1 k h0 h1).2]; rfl
  · rw [c, wO_of hI x1.2.2.2.2.1 h0 h1]; rfl
  · rw [c]
    show (if nm k = 0 then -1 else nm k) = _
    by_cases e : nm k = 0
    · rw [if_pos e, (n1.m k h0 h1).1 e]
    · rw [if_neg e, (n1.m k h0 h1).2 e]
theorem o_sample {X : Nat × (Int → Int)} {h : HP} {k x : Int} (H : RL9 h) : Wd mX8_sample X 0 [(2, 0), (0, k), (0, x)] [] h (fun r h1 => Wd mX9_sample X 0 [(2, 41), (0, k), (0, x)] [] h1 (fun r2 h2 => r = r2 ∧ RL9 h2)) := by
  have HR := H
  obtain ⟨I, nm, hI, hC, hM, hN, hso, hst⟩ := H
  have hn := hI.1
  have hL9 := hI.2.2.2.2.2.2.2.2.2.2.1
  refine vX8_sample_0 (p_has3 hC.1 (fun h0 h1 => ⟨fun _ => ?_, fun z => by omega⟩) (fun z => ⟨fun y => absurd rfl y, fun _ => ?_⟩))
  · refine q_both hI hC hM hN hso hst (fun h1' c1 m1 n1 so1 z1 d1 => ?_)
    have mc : ∀ {r : Int}, r = sA I nm k x → Wd mX9_sample X 0 [(2, 41), (0, k), (0, x)] [] h1' (fun r2 h2 => r = r2 ∧ RL9 h2) := fun hr => m_sample hI c1 m1 n1 so1 (fun _ => d1) h0 h1 hr
    refine ⟨fun c => mc ?_, fun c => ⟨h0, by omega, mc ?_⟩, fun c => p_shownBehind hI d1.1 h0 h1 (by omega) (by omega) (mc ?_), fun c => ?_, fun c => ⟨h0, by omega, mc ?_⟩, fun c => ⟨h0, by omega, mc ?_⟩, fun c => p_nameAt c1.1 hn.2 n1.c h0 h1 (mc ?_)⟩
    · unfold sA; rw [if_neg (by omega), if_neg (by omega), if_neg (by omega), if_neg (by omega), if_neg (by omega), if_neg (by omega)]
    · rw [c, c1.2.1 k h0 h1]; rfl
    · rw [c]; rfl
    · rw [c1.2.2.2.2.1]
      exact p_shownBehind hI d1.1 h0 h1 (by omega) (by omega) (mc (by rw [c]; rfl))
    · rw [c, d1.1.1.2.1 k h0 h1]; rfl
    · rw [c, wO_of hI d1.2.1.2.2.1 h0 h1]; rfl
    · rw [c]; rfl
  · exact vX9_sample_0 (p_isSample hM.1 hn (fun y1 y2 => absurd ⟨y1, y2⟩ z) (fun _ => ⟨fun y => absurd rfl y, fun _ => ⟨rfl, HR⟩⟩))
theorem o_through {X : Nat × (Int → Int)} {h : HP} {k l : Int} (H : RL9 h) : Wd mX8_through X 0 [(2, 0), (0, k), (0, l)] [] h (fun r h1 => Wd mX9_through X 0 [(2, 41), (0, k), (0, l)] [] h1 (fun r2 h2 => r = r2 ∧ RL9 h2)) := by
  have HR := H
  obtain ⟨I, nm, hI, hC, hM, hN, hso, hst⟩ := H
  have hn := hI.1
  have hL9 := hI.2.2.2.2.2.2.2.2.2.2.1
  have no : ¬ ((0 ≤ k ∧ k < iN I) ∧ 0 ≤ l ∧ l ≤ iL I) → Wd mX9_through X 0 [(2, 41), (0, k), (0, l)] [] h (fun r2 h2 => -32768 = r2 ∧ RL9 h2) := fun z => by
    refine vX9_through_0 (p_isSample hM.1 hn (fun y1 y2 => ⟨fun y => by omega, fun _ => ?_⟩) (fun y => ⟨fun _ => ⟨rfl, HR⟩, fun y => absurd rfl y⟩))
    rw [hM.2.2.2.1]
    exact p_isIn (fun y3 y4 => absurd ⟨⟨y1, y2⟩, y3, y4⟩ z) (fun _ => ⟨fun y => absurd rfl y, fun _ => ⟨rfl, HR⟩⟩)
  refine vX8_through_0 (p_has3 hC.1 (fun h0 h1 => ⟨fun z => by omega, fun _ => ⟨fun c => no (fun z => by omega), fun c => ?_⟩⟩) (fun z => ⟨fun _ => no (fun y => z y.1), fun y => absurd rfl y⟩))
  rw [hC.2.2.2.2.1]
  refine ⟨fun c1 => ?_, fun c1 => no (fun z => c1 z.2.2)⟩
  refine q_both hI hC hM hN hso hst (fun h1' c1' m1 n1 so1 z1 d1 => ?_)
  refine p_shownBehind hI d1.1 h0 h1 (by omega) c1 ?_
  refine vX9_through_0 (p_isSample m1.1 hn (fun _ _ => ⟨fun z => by omega, fun _ => ?_⟩) (fun z => absurd ⟨h0, h1⟩ z))
  rw [m1.2.2.2.1]
  refine p_isIn (fun y3 y4 => ⟨fun _ => ?_, fun z => by omega⟩) (fun z => absurd ⟨by omega, c1⟩ z)
  have e := p_laysShown (X := X) (Q := fun _ h6 => 0 ≤ k ∧ k < 600 ∧ (sV I l k = h6 50 k ∧ RL9 h6)) hI m1 l.toNat (by omega) (fun h' f' s' v' => ?_)
  · rw [show ((l.toNat : Nat) : Int) = l by omega] at e
    exact e
  · refine ⟨h0, by omega, ?_, ?_⟩
    · unfold sV
      by_cases e : mM I k = -32768
      · rw [if_pos e, (v' k h0 h1).2 e]
      · rw [if_neg e, (v' k h0 h1).1 e]
    · exact ⟨I, nm, hI, c1'.keep (fun k i q => f' k i (by omega)), m1.keep (fun k i q => f' k i (by omega)), n1.keep (fun i => ⟨f' 13 i (by omega), f' 46 i (by omega)⟩), so1.keep (f' 8 0 (by omega)) (f' 8 1 (by omega)), fun z => d1.keep hI (fun k i q => f' k i (by omega))⟩

/-! names -/
def BR (n : Int) (nm : Int → Int) (a k : Int) : Prop := (0 ≤ k ∧ k < n ∧ nm k = a ∧ ∀ j, 0 ≤ j → j < k → ¬ nm j = a) ∨ (k = -1 ∧ ∀ j, 0 ≤ j → j < n → ¬ nm j = a)
theorem BR_uniq {n : Int} {nm : Int → Int} {a k l : Int} (h1 : BR n nm a k) (h2 : BR n nm a l) : k = l := by
  rcases h1 with ⟨a1, a2, a3, a4⟩ | ⟨a1, a2⟩ <;> rcases h2 with ⟨b1, b2, b3, b4⟩ | ⟨b1, b2⟩
  · rcases Int.lt_trichotomy k l with e | e | e
    · exact absurd a3 (b4 k a1 e)
    · exact e
    · exact absurd b3 (a4 l b1 e)
  · exact absurd a3 (b2 k a1 a2)
  · exact absurd b3 (a2 l b1 b2)
  · rw [a1, b1]
theorem p_bearerOf {X : Nat × (Int → Int)} {h : HP} {Q : Int → HP → Prop} {n a : Int} {nm : Int → Int} (e : h 3 2 = n) (hn : 0 ≤ n ∧ n ≤ 600) (hN : NMc n nm h) (H1 : 1 ≤ a → ∀ k, BR n nm a k → Q k h) (H0 : a < 1 → Q (-1) h) : Wd mX3_bearerOf X 0 [(2, 3), (0, a), (9, 0)] [] h Q := by
  refine vX3_bearerOf_0 ⟨fun c => ?_, fun c => H0 (by omega)⟩
  have key : ∀ (d : Nat) (x : Int), n - x < d → 0 ≤ x → x ≤ n → (∀ j, 0 ≤ j → j < x → ¬ nm j = a) → Wd mX3_bearerOf X 9 [(2, 3), (0, a), (0, x)] [] h Q := by
    intro d
    induction d with
    | zero => intro x q1 q2 q3; omega
    | succ d ih =>
      intro x hd hx0 hx1 hne
      refine vX3_bearerOf_9 ⟨fun c1 => H1 c _ (Or.inr ⟨rfl, fun j q1 q2 => hne j q1 (by omega)⟩), fun c1 => ?_⟩
      rw [hN x hx0 (by omega)]
      refine ⟨hx0, by omega, fun c2 => ⟨by omega, ih (x + 1) (by omega) (by omega) (by omega) (fun j q1 q2 => ?_)⟩, fun c2 => H1 c x (Or.inl ⟨hx0, by omega, c2, hne⟩)⟩
      by_cases z : j = x
      · rw [z]; exact c2
      · exact hne j q1 (by omega)
  exact key (n + 1).toNat 0 (by omega) (by omega) hn.1 (fun j q1 q2 => by omega)
theorem p_sampleOf {X : Nat × (Int → Int)} {h : HP} {Q : Int → HP → Prop} {n a : Int} {nm : Int → Int} (e : h 41 5 = n) (hn : 0 ≤ n ∧ n ≤ 600) (hN : NM n nm h) (ha : 1 ≤ a) (H : ∀ k, BR n nm a k → Q k h) : Wd mX9_sampleOf X 0 [(2, 41), (0, a), (9, 0)] [] h Q := by
  have key : ∀ (d : Nat) (x : Int), n - x < d → 0 ≤ x → x ≤ n → (∀ j, 0 ≤ j → j < x → ¬ nm j = a) → Wd mX9_sampleOf X 2 [(2, 41), (0, a), (0, x)] [] h Q := by
    intro d
    induction d with
    | zero => intro x q1 q2 q3; omega
    | succ d ih =>
      intro x hd hx0 hx1 hne
      refine vX9_sampleOf_2 ⟨fun c1 => H _ (Or.inr ⟨rfl, fun j q1 q2 => hne j q1 (by omega)⟩), fun c1 => ?_⟩
      obtain ⟨a1, a2, a3, a4⟩ := hN.1 x hx0 (by omega)
      have iff : h 46 x = a ↔ nm x = a := by
        by_cases z : nm x = 0
        · have := a2 z; omega
        · have := a3 z; omega
      rw [iff]
      refine ⟨hx0, by omega, fun c2 => ⟨by omega, ih (x + 1) (by omega) (by omega) (by omega) (fun j q1 q2 => ?_)⟩, fun c2 => H x (Or.inl ⟨hx0, by omega, c2, hne⟩)⟩
      by_cases z : j = x
      · rw [z]; exact c2
      · exact hne j q1 (by omega)
  exact vX9_sampleOf_0 (key (n + 1).toNat 0 (by omega) (by omega) hn.1 (fun j q1 q2 => by omega))
theorem o_name {X : Nat × (Int → Int)} {h : HP} {w a : Int} (H : RL9 h) : Wd mX8_name X 0 [(2, 0), (0, w), (0, a), (9, 0)] [] h (fun r h1 => Wd mX9_name X 0 [(2, 41), (0, w), (0, a)] [] h1 (fun r2 h2 => r = r2 ∧ RL9 h2)) := by
  obtain ⟨I, nm, hI, hC, hM, hN, hso, hst⟩ := H
  have hn := hI.1
  have hnw := nW_le hI
  refine vX8_name_0 (q_both hI hC hM hN hso hst (fun h1 c1 m1 n1 so1 z1 d1 => ?_))
  have hwn := d1.2.1.n hI
  have hcc := n1.o.2
  -- it cannot be
  have no : ¬ ((0 ≤ w ∧ w < nW I) ∧ (1 ≤ a ∧ a ≤ 999) ∧ nm (tW I w) = 0 ∧ (∀ j, 0 ≤ j → j < iN I → ¬ nm j = a) ∧ C (fun i => ¬ nm i = 0) 0 (iN I) < 20) → Wd mX9_name X 0 [(2, 41), (0, w), (0, a)] [] h1 (fun r2 h2 => 0 = r2 ∧ RL9 h2) := fun z => by
    refine vX9_name_0 (q_lays hI c1 m1 n1 so1 (fun _ => d1) (fun h2 c2 n2 x2 v2 rl => ?_))
    have rl2 : RL9 h2 := rl h2 (fun _ _ _ => rfl)
    refine p_isWave x2.2.1.1 hnw (fun w0 w1 => ⟨fun y => by omega, fun _ => p_isIn (fun a0 a1 => ⟨fun y => by omega, fun _ => ?_⟩) (fun y => ⟨fun _ => ⟨rfl, rl2⟩, fun y => absurd rfl y⟩)⟩) (fun y => ⟨fun _ => ⟨rfl, rl2⟩, fun y => absurd rfl y⟩)
    obtain ⟨f1, f2, f3, f4, f5, f6, f7, f8, f9⟩ := x2.2.1.2 w w0 w1
    rw [f5]
    have hm1 := n2.m1 f9.1 f9.2
    refine ⟨w0, by omega, f9.1, by omega, fun c => ⟨rfl, rl2⟩, fun c => p_sampleOf x2.1.1.1 hn n2 a0 (fun k hk => ⟨fun c3 => ⟨rfl, rl2⟩, fun c3 => p_names x2.1.1.1 hn n2 ⟨fun c4 => ?_, fun c4 => ⟨rfl, rl2⟩⟩⟩)⟩
    refine absurd ⟨⟨w0, w1⟩, ⟨a0, a1⟩, hm1.mp c, ?_, by omega⟩ z
    rcases hk with ⟨y1, y2, y3, y4⟩ | ⟨y1, y2⟩
    · omega
    · exact y2
  refine p_has7 hwn.1 (fun w0 w1 => ⟨fun z => by omega, fun _ => ⟨fun c => no (fun z => by omega), fun c => ⟨fun c2 => ⟨w0, by omega, ?_⟩, fun c2 => no (fun z => by omega)⟩⟩⟩) (fun z => ⟨fun _ => no (fun y => z y.1), fun y => absurd rfl y⟩)
  obtain ⟨f1, f2, f3, f4, f5, f6, f7, f8, f9⟩ := hwn.2 w w0 w1
  rw [f5]
  refine p_nameAt c1.1 hn.2 n1.c f9.1 f9.2 ?_
  by_cases zt : nm (tW I w) = 0
  · rw [if_pos zt]
    refine ⟨fun y => absurd rfl y, fun _ => p_bearerOf c1.1 hn n1.c (fun _ k hk => ⟨fun ck => p_namesGiven c1.1 hn n1.c ⟨fun c5 => ⟨f9.1, by omega, ?_⟩, fun c5 => no (fun z => c5 z.2.2.2.2)⟩, fun ck => no (fun z => ?_)⟩) (fun z => by omega)⟩
    · have hk2 : ∀ j, 0 ≤ j → j < iN I → ¬ nm j = a := by
        rcases hk with ⟨y1, y2, y3, y4⟩ | ⟨y1, y2⟩
        · omega
        · exact y2
      have g1 : ∀ k i, ¬ (k = 13 ∧ i = tW I w) → xu h1 13 (tW I w) a k i = h1 k i := fun k i q => xu_ne q
      have g2 : xu h1 13 (tW I w) a 13 (tW I w) = a := xu_eq rfl rfl
      generalize xu h1 13 (tW I w) a = h2 at g1 g2
      -- the model: names as they were are still in 46
      have mk : MIn I h2 := m1.keep (fun k i q => g1 k i (by omega))
      refine vX9_name_0 (p_laysWaves hI mk (fun h3 f3' m3 x3 v3 => ?_))
      have f : ∀ k i, (k ≤ 40 ∨ (42 ≤ k ∧ k ≤ 46) ∨ (k = 41 ∧ (i = 5 ∨ i = 6))) → ¬ (k = 13 ∧ i = tW I w) → h3 k i = h1 k i := fun k i q1 q2 => by rw [f3' k i q1, g1 k i q2]
      have e46 : ∀ i, h3 46 i = h1 46 i := fun i => f 46 i (by omega) (by omega)
      -- names in the model with the old function
      have nmx : ∀ (h4 : HP), h4 = h3 → ∀ (Q : Int → HP → Prop), (∀ k, BR (iN I) nm a k → Q k h3) → Wd mX9_sampleOf X 0 [(2, 41), (0, a), (9, 0)] [] h3 Q := fun h4 _ Q hQ => by
        have key : ∀ (d : Nat) (x : Int), iN I - x < d → 0 ≤ x → x ≤ iN I → (∀ j, 0 ≤ j → j < x → ¬ nm j = a) → Wd mX9_sampleOf X 2 [(2, 41), (0, a), (0, x)] [] h3 Q := by
          intro d
          induction d with
          | zero => intro x q1 q2 q3; omega
          | succ d ih =>
            intro x hd hx0 hx1 hne
            have e5 := m3.1
            refine vX9_sampleOf_2 ⟨fun c1 => hQ _ (Or.inr ⟨rfl, fun j q1 q2 => hne j q1 (by omega)⟩), fun c1 => ?_⟩
            obtain ⟨a1, a2, a3, a4⟩ := n1.1 x hx0 (by omega)
            have iff : h3 46 x = a ↔ nm x = a := by
              rw [e46]
              by_cases z : nm x = 0
              · have := a2 z; omega
              · have := a3 z; omega
            rw [iff]
            refine ⟨hx0, by omega, fun c2 => ⟨by omega, ih (x + 1) (by omega) (by omega) (by omega) (fun j q1 q2 => ?_)⟩, fun c2 => hQ x (Or.inl ⟨hx0, by omega, c2, hne⟩)⟩
            by_cases z : j = x
            · rw [z]; exact c2
            · exact hne j q1 (by omega)
        exact vX9_sampleOf_0 (key (iN I + 1).toNat 0 (by omega) (by omega) hn.1 (fun j q1 q2 => by omega))
      have cnt : ∀ (Q : Int → HP → Prop), Q (C (fun i => ¬ nm i = 0) 0 (iN I)) h3 → Wd mX9_names X 0 [(2, 41), (9, 0), (9, 0)] [] h3 Q := fun Q hQ => by
        have key : ∀ (d : Nat) (x : Int), iN I - x < d → 0 ≤ x → x ≤ iN I → Wd mX9_names X 4 [(2, 41), (0, C (fun i => ¬ nm i = 0) 0 x), (0, x)] [] h3 Q := by
          intro d
          induction d with
          | zero => intro x q1 q2 q3; omega
          | succ d ih =>
            intro x hd hx0 hx1
            have cb := C_bound (p := fun i => ¬ nm i = 0) hx0
            have e5 := m3.1
            refine vX9_names_4 ⟨fun c => by rw [show x = iN I by omega]; exact hQ, fun c => ⟨hx0, by omega, fun c1 => ⟨by omega, by omega, ?_⟩, fun c1 => ⟨by omega, by omega, ?_⟩⟩⟩
            · have t := ih (x + 1) (by omega) (by omega) (by omega)
              rw [e46, n1.m1 hx0 (by omega)] at c1
              rw [C_succ (p := fun i => ¬ nm i = 0) hx0 c1] at t; exact t
            · have t := ih (x + 1) (by omega) (by omega) (by omega)
              rw [e46, n1.m1 hx0 (by omega)] at c1
              rw [C_skip (p := fun i => ¬ nm i = 0) hx0 (fun z => z c1)] at t; rw [Int.add_zero]; exact t
        have := key (iN I + 1).toNat 0 (by omega) (by omega) hn.1
        rw [C_nil (Int.le_refl 0)] at this
        exact vX9_names_0 this
      refine p_isWave x3.2.1.1 hnw (fun _ _ => ⟨fun y => by omega, fun _ => p_isIn (fun a0 a1 => ⟨fun y => by omega, fun _ => ?_⟩) (fun y => absurd ⟨by omega, c2⟩ y)⟩) (fun y => absurd ⟨w0, w1⟩ y)
      have e61 := (x3.2.1.2 w w0 w1).2.2.2.2.1
      rw [e61]
      refine ⟨w0, by omega, f9.1, by omega, fun y => absurd (by rw [e46]; exact (n1.m1 f9.1 f9.2).mpr zt) y, fun _ => nmx h3 rfl _ (fun k' hk' => ⟨fun y => ?_, fun _ => cnt _ ⟨fun _ => ?_, fun y => by omega⟩⟩)⟩
      · rcases hk' with ⟨y1, y2, y3, y4⟩ | ⟨y1, y2⟩
        · exact absurd y3 (hk2 k' y1 y2)
        · exact absurd y1 y
      · rw [e61]
        refine ⟨f9.1, by omega, rfl, ?_⟩
        have u1 : ∀ k i, ¬ (k = 46 ∧ i = tW I w) → xu h3 46 (tW I w) a k i = h3 k i := fun k i q => xu_ne q
        have u2 : xu h3 46 (tW I w) a 46 (tW I w) = a := xu_eq rfl rfl
        generalize xu h3 46 (tW I w) a = h4 at u1 u2
        refine ⟨I, fun i => if i = tW I w then a else nm i, hI, c1.keep (fun k i q => by rw [u1 k i (by omega), f k i (by omega) (by omega)]), m3.keep (fun k i q => by rw [u1 k i (by omega)]), ⟨fun i q1 q2 => ?_, ?_⟩, so1.keep (by rw [u1 8 0 (by omega), f 8 0 (by omega) (by omega)]) (by rw [u1 8 1 (by omega), f 8 1 (by omega) (by omega)]), fun _ => d1.keep hI (fun k i q => by rw [u1 k i (by omega), f k i (by omega) (by omega)])⟩
        · show h4 13 i = (if i = tW I w then a else nm i) ∧ ((if i = tW I w then a else nm i) = 0 → h4 46 i = -1) ∧ (¬ (if i = tW I w then a else nm i) = 0 → h4 46 i = (if i = tW I w then a else nm i)) ∧ 0 ≤ (if i = tW I w then a else nm i) ∧ (if i = tW I w then a else nm i) ≤ 999
          by_cases e : i = tW I w
          · rw [if_pos e, u1 13 i (by omega), f3' 13 i (by omega), e, g2, u2]
            exact ⟨rfl, fun y => by omega, fun _ => rfl, by omega, by omega⟩
          · rw [if_neg e, u1 13 i (by omega), u1 46 i (by omega), f 13 i (by omega) (by omega), f 46 i (by omega) (by omega)]
            exact n1.1 i q1 q2
        · have := C_one (p := fun i => ¬ nm i = 0) (q := fun i => ¬ (if i = tW I w then a else nm i) = 0) f9.1 f9.2 (fun y => y zt) (by show ¬ (if tW I w = tW I w then a else nm (tW I w)) = 0; rw [if_pos rfl]; omega) (fun i _ _ y => by show ¬ nm i = 0 ↔ ¬ (if i = tW I w then a else nm i) = 0; rw [if_neg y])
          rw [this]; omega
    · rcases hk with ⟨y1, y2, y3, y4⟩ | ⟨y1, y2⟩
      · exact z.2.2.2.1 k y1 y2 y3
      · exact ck y1
  · rw [if_neg zt]
    have := n1.o.1 _ f9.1 f9.2
    exact ⟨fun _ => no (fun z => zt z.2.2.1), fun y => by omega⟩
theorem o_unname {X : Nat × (Int → Int)} {h : HP} {a : Int} (H : RL9 h) : Wd mX8_unname X 0 [(2, 0), (0, a), (9, 0)] [] h (fun r h1 => Wd mX9_unname X 0 [(2, 41), (0, a), (9, 0)] [] h1 (fun r2 h2 => r = r2 ∧ RL9 h2)) := by
  have HR := H
  obtain ⟨I, nm, hI, hC, hM, hN, hso, hst⟩ := H
  have hn := hI.1
  have no : (1 ≤ a → ∀ j, 0 ≤ j → j < iN I → ¬ nm j = a) → Wd mX9_unname X 0 [(2, 41), (0, a), (9, 0)] [] h (fun r2 h2 => -1 = r2 ∧ RL9 h2) := fun z => by
    refine vX9_unname_0 (p_isIn (fun a0 a1 => ⟨fun _ => p_sampleOf hM.1 hn hN a0 (fun k hk => ?_), fun y => by omega⟩) (fun y => ⟨fun y => absurd rfl y, fun _ => ⟨rfl, HR⟩⟩))
    rcases hk with ⟨y1, y2, y3, y4⟩ | ⟨y1, y2⟩
    · exact absurd y3 (z a0 k y1 y2)
    · exact ⟨fun _ => ⟨y1.symm, HR⟩, fun y => absurd y1 y⟩
  refine vX8_unname_0 (p_bearerOf hC.1 hn hN.c (fun a0 k hk => ?_) (fun z => ⟨fun _ => no (fun y => by omega), fun y => absurd rfl y⟩))
  have hk9 := hk
  rcases hk with ⟨k1, k2, k3, k4⟩ | ⟨k1, k2⟩
  · have hb := hN.o.1 k k1 k2
    refine ⟨fun y => by omega, fun _ => ⟨k1, by omega, ?_⟩⟩
    have g1 : ∀ l i, ¬ (l = 13 ∧ i = k) → xu h 13 k 0 l i = h l i := fun l i q => xu_ne q
    have g2 : xu h 13 k 0 13 k = 0 := xu_eq rfl rfl
    generalize xu h 13 k 0 = h1 at g1 g2
    have mk : MIn I h1 := hM.keep (fun l i q => g1 l i (by omega))
    refine vX9_unname_0 (p_isIn (fun a0 a1 => ⟨fun _ => ?_, fun y => by omega⟩) (fun y => absurd ⟨a0, by omega⟩ y))
    have key : ∀ (d : Nat) (x : Int), k - x < d → 0 ≤ x → x ≤ k → Wd mX9_sampleOf X 2 [(2, 41), (0, a), (0, x)] [] h1 (fun r3 h4 => ((r3 = (-1) → (k = r3 ∧ RL9 h4)) ∧ (¬ r3 = (-1) → (0 ≤ r3 ∧ r3 < 600 ∧ (k = r3 ∧ RL9 (xu h4 46 r3 (-1))))))) := by
      intro d
      induction d with
      | zero => intro x q1 q2 q3; omega
      | succ d ih =>
        intro x hd hx0 hx1
        have e5 := mk.1
        refine vX9_sampleOf_2 ⟨fun c1 => by omega, fun c1 => ?_⟩
        obtain ⟨a1', a2, a3, a4⟩ := hN.1 x hx0 (by omega)
        have iff : h1 46 x = a ↔ nm x = a := by
          rw [g1 46 x (by omega)]
          by_cases z : nm x = 0
          · have := a2 z; omega
          · have := a3 z; omega
        rw [iff]
        refine ⟨hx0, by omega, fun c2 => ⟨by omega, ih (x + 1) (by omega) (by omega) ?_⟩, fun c2 => ⟨fun y => by omega, fun _ => ⟨hx0, by omega, ?_⟩⟩⟩
        · by_cases e : x = k
          · rw [e] at c2; exact absurd k3 c2
          · omega
        · have ex : k = x := by
            by_cases e : x = k
            · exact e.symm
            · exact absurd c2 (k4 x hx0 (by omega))
          subst ex
          refine ⟨rfl, ?_⟩
          have u1 : ∀ l i, ¬ (l = 46 ∧ i = k) → xu h1 46 k (-1) l i = h1 l i := fun l i q => xu_ne q
          have u2 : xu h1 46 k (-1) 46 k = -1 := xu_eq rfl rfl
          generalize xu h1 46 k (-1) = h2 at u1 u2
          have f : ∀ l i, ¬ ((l = 13 ∨ l = 46) ∧ i = k) → h2 l i = h l i := fun l i q => by rw [u1 l i (by omega), g1 l i (by omega)]
          refine ⟨I, fun i => if i = k then 0 else nm i, hI, hC.keep (fun l i q => f l i (by omega)), hM.keep (fun l i q => f l i (by omega)), ⟨fun i q1 q2 => ?_, ?_⟩, hso.keep (f 8 0 (by omega)) (f 8 1 (by omega)), fun y => (hst (by rw [← f 0 8 (by omega)]; exact y)).keep hI (fun l i q => f l i (by omega))⟩
          · show h2 13 i = (if i = k then 0 else nm i) ∧ ((if i = k then 0 else nm i) = 0 → h2 46 i = -1) ∧ (¬ (if i = k then 0 else nm i) = 0 → h2 46 i = (if i = k then 0 else nm i)) ∧ 0 ≤ (if i = k then 0 else nm i) ∧ (if i = k then 0 else nm i) ≤ 999
            by_cases e : i = k
            · rw [if_pos e, u1 13 i (by omega), e, g2, u2]
              exact ⟨rfl, fun _ => rfl, fun y => absurd rfl y, by omega, by omega⟩
            · rw [if_neg e, f 13 i (by omega), f 46 i (by omega)]
              exact hN.1 i q1 q2
          · have := C_le (p := fun i => ¬ (if i = k then 0 else nm i) = 0) (q := fun i => ¬ nm i = 0) (a := 0) (b := iN I) (fun i _ _ y => by
              have y : ¬ (if i = k then 0 else nm i) = 0 := y
              by_cases e : i = k
              · rw [if_pos e] at y; exact absurd rfl y
              · rw [if_neg e] at y; exact y)
            exact Int.le_trans this hN.o.2
    exact vX9_sampleOf_0 (key (k + 1).toNat 0 (by omega) (by omega) k1)
  · exact ⟨fun _ => by rw [k1]; exact no (fun _ => k2), fun y => absurd k1 y⟩
theorem o_named {X : Nat × (Int → Int)} {h : HP} {a : Int} (H : RL9 h) : Wd mX8_named X 0 [(2, 0), (0, a), (9, 0)] [] h (fun r h1 => Wd mX9_named X 0 [(2, 41), (0, a)] [] h1 (fun r2 h2 => r = r2 ∧ RL9 h2)) := by
  obtain ⟨I, nm, hI, hC, hM, hN, hso, hst⟩ := H
  have hn := hI.1
  refine vX8_named_0 (q_both hI hC hM hN hso hst (fun h1 c1 m1 n1 so1 z1 d1 => ?_))
  have rl1 : RL9 h1 := ⟨I, nm, hI, c1, m1, n1, so1, fun _ => d1⟩
  have mo : ∀ r, (∀ k, 0 ≤ k → k < iN I → BR (iN I) nm a k → 1 ≤ a → r = wO I k) → ((1 ≤ a → BR (iN I) nm a (-1)) → r = -1) → Wd mX9_named X 0 [(2, 41), (0, a)] [] h1 (fun r2 h2 => r = r2 ∧ RL9 h2) := fun r k1 k2 => by
    refine vX9_named_0 (p_isIn (fun a0 a1 => ⟨fun y => by omega, fun _ => p_sampleOf m1.1 hn n1 a0 (fun k hk => ?_)⟩) (fun y => ⟨fun _ => ⟨k2 (fun a0 => Or.inr ⟨rfl, fun j q1 q2 q3 => ?_⟩), rl1⟩, fun y => absurd rfl y⟩))
    · have hk9 := hk
      rcases hk with ⟨y1, y2, y3, y4⟩ | ⟨y1, y2⟩
      · refine ⟨fun _ => q_lays hI c1 m1 n1 so1 (fun _ => d1) (fun h2 c2 n2 x2 v2 rl => ?_), fun y => by omega⟩
        refine p_sampleOf x2.1.1.1 hn n2 a0 (fun k' hk' => ?_)
        have ek : k' = k := BR_uniq hk' hk9
        subst ek
        exact ⟨y1, by omega, by rw [wO_of hI x2.2.2.2.2.1 y1 y2]; exact k1 k' y1 y2 hk9 a0, rl h2 (fun _ _ _ => rfl)⟩
      · exact ⟨fun y => absurd y1 y, fun _ => ⟨k2 (fun _ => Or.inr ⟨rfl, y2⟩), rl1⟩⟩
    · have := n1.o.1 j q1 q2; omega
  refine p_bearerOf c1.1 hn n1.c (fun a0 k hk => ?_) (fun z => ⟨fun y => absurd rfl y, fun _ => mo _ (fun _ _ _ _ y => by omega) (fun _ => rfl)⟩)
  have hk9 := hk
  rcases hk with ⟨y1, y2, y3, y4⟩ | ⟨y1, y2⟩
  · refine ⟨fun _ => ⟨y1, by omega, mo _ (fun k' _ _ hk' _ => ?_) (fun y => ?_)⟩, fun y => by omega⟩
    · rw [BR_uniq hk' hk9]; exact wO_of hI d1.2.1.2.2.1 y1 y2
    · have := BR_uniq (y a0) hk9; omega
  · exact ⟨fun y => absurd y1 y, fun _ => mo _ (fun k' q1 _ hk' _ => by have := BR_uniq hk' hk9; omega) (fun _ => rfl)⟩
/-! would, quiet -/
theorem o_would {X : Nat × (Int → Int)} {h : HP} {b : Int} (H : RL9 h) : Wd mX8_would X 0 [(2, 0), (0, b)] [] h (fun r h1 => Wd mX9_would X 0 [(2, 41), (0, b)] [] h1 (fun r2 h2 => r = r2 ∧ RL9 h2)) := by
  have HR := H
  obtain ⟨I, nm, hI, hC, hM, hN, hso, hst⟩ := H
  have no : ¬ (0 ≤ b ∧ b ≤ 500) → Wd mX9_would X 0 [(2, 41), (0, b)] [] h (fun r2 h2 => -1 = r2 ∧ RL9 h2) := fun z => vX9_would_0 (p_isIn (fun y1 y2 => absurd ⟨y1, y2⟩ z) (fun _ => ⟨fun y => absurd rfl y, fun _ => ⟨rfl, HR⟩⟩))
  refine vX8_would_0 ⟨fun c => no (fun z => by omega), fun c => ⟨fun c1 => ?_, fun c1 => no (fun z => by omega)⟩⟩
  refine q_both hI hC hM hN hso hst (fun h1 c1' m1 n1 so1 z1 d1 => p_wavesBy hI d1.1 (by omega) c1 ?_)
  refine vX9_would_0 (p_isIn (fun y1 y2 => ⟨fun _ => ?_, fun y => by omega⟩) (fun z => absurd ⟨by omega, c1⟩ z))
  refine q_lays hI c1' m1 n1 so1 (fun _ => d1) (fun h2 c2 n2 x2 v2 rl => ?_)
  exact p_countWaves hI x2.1 (fun s q1 q2 => (x2.2.2.2.2.2 s q1 q2).1) y1 y2 (fun h3 f3 => ⟨rfl, rl h3 (fun k i q => f3 k i (by omega))⟩)
/-- a wider band has no more crossings -/
theorem CR_mono {f : Int → Int} {lv b c a : Int} (hb : 0 ≤ b) (hbc : b ≤ c) : ∀ n : Nat, C (CR f lv c a) a (a + n) ≤ C (CR f lv b a) a (a + n) ∧ (AR f lv c a (a + n) → AR f lv b a (a + n) ∨ C (CR f lv c a) a (a + n) < C (CR f lv b a) a (a + n)) := by
  intro n
  induction n with
  | zero =>
    rw [show a + ((0 : Nat) : Int) = a by omega, C_nil (Int.le_refl a), C_nil (Int.le_refl a)]
    exact ⟨Int.le_refl 0, fun z => absurd z AR_0⟩
  | succ n ih =>
    rw [show a + ((n + 1 : Nat) : Int) = a + n + 1 by omega]
    obtain ⟨i1, i2⟩ := ih
    have sb := AR_succ (f := f) (lv := lv) (b := b) (a := a) (k := a + n) (by omega)
    have sc := AR_succ (f := f) (lv := lv) (b := c) (a := a) (k := a + n) (by omega)
    have ub : CR f lv b a (a + n) → C (CR f lv b a) a (a + n + 1) = C (CR f lv b a) a (a + n) + 1 := fun z => C_succ (by omega) z
    have vb : ¬ CR f lv b a (a + n) → C (CR f lv b a) a (a + n + 1) = C (CR f lv b a) a (a + n) := fun z => C_skip (by omega) z
    have uc : CR f lv c a (a + n) → C (CR f lv c a) a (a + n + 1) = C (CR f lv c a) a (a + n) + 1 := fun z => C_succ (by omega) z
    have vc : ¬ CR f lv c a (a + n) → C (CR f lv c a) a (a + n + 1) = C (CR f lv c a) a (a + n) := fun z => C_skip (by omega) z
    unfold CR at ub vb uc vc
    unfold CR at i1 i2 ⊢
    generalize C (fun k => AR f lv b a k ∧ lv + b < f k) a (a + n + 1) = B1 at *
    generalize C (fun k => AR f lv b a k ∧ lv + b < f k) a (a + n) = B0 at *
    generalize C (fun k => AR f lv c a k ∧ lv + c < f k) a (a + n + 1) = C1 at *
    generalize C (fun k => AR f lv c a k ∧ lv + c < f k) a (a + n) = C0 at *
    rw [sb, sc]
    by_cases p : AR f lv b a (a + n) <;> by_cases q : AR f lv c a (a + n) <;> simp only [p, q, true_and, false_and, or_false, not_true, not_false_iff, true_implies, false_implies, true_or, false_or] at * <;> omega
theorem WB_band {I : IN} (hI : OKI I) {b c : Int} (hb : 0 ≤ b) (hbc : b ≤ c) : WB I c (nS I) ≤ WB I b (nS I) := by
  unfold WB
  refine S_le (fun s q1 q2 => ?_)
  have hs := SG_at hI.1.1 q1 q2
  have := hs.2.1
  have k := (CR_mono (f := sn I) (lv := LV I s) (a := fr9 I s) hb hbc (en9 I s - fr9 I s).toNat).1
  rw [show fr9 I s + (((en9 I s - fr9 I s).toNat : Nat) : Int) = en9 I s by omega] at k
  show max 0 (C (CR (sn I) (LV I s) c (fr9 I s)) (fr9 I s) (en9 I s) - 1) ≤ max 0 (C (CR (sn I) (LV I s) b (fr9 I s)) (fr9 I s) (en9 I s) - 1)
  omega
theorem o_quiet {X : Nat × (Int → Int)} {h : HP} {n : Int} (H : RL9 h) : Wd mX8_quiet X 0 [(2, 0), (0, n), (9, 0), (9, 0), (9, 0), (9, 0)] [] h (fun r h1 => Wd mX9_quiet X 0 [(2, 41), (0, n), (9, 0)] [] h1 (fun r2 h2 => r = r2 ∧ RL9 h2)) := by
  have HR := H
  obtain ⟨I, nm, hI, hC, hM, hN, hso, hst⟩ := H
  refine vX8_quiet_0 ⟨fun c => ?_, fun c => vX9_quiet_0 ⟨fun z => absurd z c, fun _ => ⟨rfl, HR⟩⟩⟩
  refine q_both hI hC hM hN hso hst (fun h1 c1 m1 n1 so1 z1 d1 => ?_)
  have mo : ∀ (t r : Int), 0 ≤ t → t ≤ 501 → (∀ b, 0 ≤ b → b < t → n < WB I b (nS I)) → (t ≤ 500 → WB I t (nS I) ≤ n ∧ r = t) → (t = 501 → r = -1) → Wd mX9_quiet X 0 [(2, 41), (0, n), (9, 0)] [] h1 (fun r2 h2 => r = r2 ∧ RL9 h2) := fun t r t0 t1 k1 k2 k3 => by
    refine vX9_quiet_0 ⟨fun _ => q_lays hI c1 m1 n1 so1 (fun _ => d1) (fun h2 c2 n2 x2 v2 rl => ?_), fun z => absurd c z⟩
    have key : ∀ (d : Nat) (x : Int) (h3 : HP), t - x < d → 0 ≤ x → x ≤ t → (∀ k i, ¬ (k = 41 ∧ i = 29) → h3 k i = h2 k i) → Wd mX9_quiet X 12 [(2, 41), (0, n), (0, x)] [] h3 (fun r2 h2 => r = r2 ∧ RL9 h2) := by
      intro d
      induction d with
      | zero => intro x h3 q1 q2 q3; omega
      | succ d ih =>
        intro x h3 hd hx0 hx1 f3
        have rl3 : RL9 h3 := rl h3 (fun k i q => f3 k i (by omega))
        refine vX9_quiet_12 ⟨fun e => ⟨k3 (by omega), rl3⟩, fun e => ?_⟩
        refine p_countWaves hI (x2.1.keep (fun k i q => f3 k i (by omega))) (fun s q1 q2 => by rw [f3 52 s (by omega)]; exact (x2.2.2.2.2.2 s q1 q2).1) hx0 (by omega) (fun h4 f4 => ⟨fun e2 => ⟨by omega, ih (x + 1) h4 (by omega) (by omega) ?_ (fun k i q => by rw [f4 k i q]; exact f3 k i q)⟩, fun e2 => ⟨?_, rl h4 (fun k i q => by rw [f4 k i (by omega)]; exact f3 k i (by omega))⟩⟩)
        · by_cases ex : x = t
          · subst ex; have := (k2 (by omega)).1; omega
          · omega
        · have ex : x = t := by
            by_cases ex : x = t
            · exact ex
            · have := k1 x hx0 (by omega); omega
          subst ex
          exact (k2 (by omega)).2
    exact key (t + 1).toNat 0 h2 (by omega) (by omega) t0 (fun _ _ _ => rfl)
  have key : ∀ (d : Nat) (x y s : Int), y - x < d → 0 ≤ x → x ≤ y → y ≤ 501 → 0 ≤ s → y - x + s ≤ 501 → (∀ b, 0 ≤ b → b < x → n < WB I b (nS I)) → (y = 501 ∨ WB I y (nS I) ≤ n) → Wd mX8_quiet X 19 [(2, 0), (0, n), (0, x), (0, y), (0, s), (9, 0)] [] h1 (fun r h1 => Wd mX9_quiet X 0 [(2, 41), (0, n), (9, 0)] [] h1 (fun r2 h2 => r = r2 ∧ RL9 h2)) := by
    intro d
    induction d with
    | zero => intro x y s q1 q2 q3; omega
    | succ d ih =>
      intro x y s hd hx0 hxy hy hs0 hs1 hlow hhi
      have fin : x = y → ((x ≤ 500 → Wd mX9_quiet X 0 [(2, 41), (0, n), (9, 0)] [] h1 (fun r2 h2 => x = r2 ∧ RL9 h2)) ∧ (¬ x ≤ 500 → Wd mX9_quiet X 0 [(2, 41), (0, n), (9, 0)] [] h1 (fun r2 h2 => -1 = r2 ∧ RL9 h2))) := fun e => by
        subst e
        exact ⟨fun e1 => mo x x hx0 hy hlow (fun _ => ⟨by omega, rfl⟩) (fun z => by omega), fun e1 => mo x (-1) hx0 hy hlow (fun z => absurd z e1) (fun _ => rfl)⟩
      refine vX8_quiet_19 ⟨fun e => fin (by omega), fun e => ⟨fun e1 => fin (by omega), fun e1 => ?_⟩⟩
      rw [tdivp (by omega)]
      refine ⟨by omega, by omega, p_wavesBy hI d1.1 (by omega) (by omega) ⟨fun e2 => ⟨by omega, by omega, ?_⟩, fun e2 => ⟨by omega, ?_⟩⟩⟩
      · refine ih _ y (s + 1) (by omega) (by omega) (by omega) hy (by omega) (by omega) (fun b q1 q2 => ?_) hhi
        have := WB_band hI q1 (show b ≤ (x + y) / 2 by omega)
        omega
      · exact ih x _ (s + 1) (by omega) hx0 (by omega) (by omega) (by omega) (by omega) hlow (Or.inr (by omega))
  exact key 502 0 501 0 (by omega) (by omega) (by omega) (by omega) (by omega) (by omega) (fun b q1 q2 => by omega) (Or.inl rfl)

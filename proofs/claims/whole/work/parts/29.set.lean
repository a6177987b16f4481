/-! set, level, mark, lens, off -/
theorem sxv : (sx 0 0 = 0 ∧ sx 0 1 = 0 ∧ sx 0 2 = 10 ∧ sx 0 3 = 1) ∧ (sx 1 0 = 20 ∧ sx 1 1 = 500 ∧ sx 1 2 = 50 ∧ sx 1 3 = 9) ∧ (sx 2 0 = 1 ∧ sx 2 1 = 0 ∧ sx 2 2 = 0 ∧ sx 2 3 = 1 ∧ sx 2 4 = 1) ∧ (sx 3 0 = 5 ∧ sx 3 1 = 9999 ∧ sx 3 2 = 0 ∧ sx 3 3 = 30 ∧ sx 3 4 = 9) := by decide
/-- a number can be set -/
def can9 (j v : Int) : Prop := (j = 0 ∧ 0 ≤ v ∧ v ≤ 20) ∨ (j = 1 ∧ 0 ≤ v ∧ v ≤ 500) ∨ (j = 2 ∧ 10 ≤ v ∧ v ≤ 50) ∨ (j = 3 ∧ 1 ≤ v ∧ v ≤ 9)
def setI (I : IN) (j v : Int) : IN := (iN I, iR I, fun i => if i = j then v else iS I i, iL I, iK I, iB I)
theorem setI_ok {I : IN} (hI : OKI I) {j v : Int} (h : can9 j v) : OKI (setI I j v) := by
  obtain ⟨a1, a2, b0, b1, b2, b3, b4, b5, b6, b7, a3⟩ := hI
  refine ⟨a1, a2, ?_, ?_, ?_, ?_, ?_, ?_, ?_, ?_, a3⟩
  · show 0 ≤ (if (0 : Int) = j then v else iS I 0) ∧ (if (0 : Int) = j then v else iS I 0) ≤ 20
    unfold can9 at h; split <;> omega
  · show 0 ≤ (if (1 : Int) = j then v else iS I 1) ∧ (if (1 : Int) = j then v else iS I 1) ≤ 500
    unfold can9 at h; split <;> omega
  · show 10 ≤ (if (2 : Int) = j then v else iS I 2) ∧ (if (2 : Int) = j then v else iS I 2) ≤ 50
    unfold can9 at h; split <;> omega
  · show 1 ≤ (if (3 : Int) = j then v else iS I 3) ∧ (if (3 : Int) = j then v else iS I 3) ≤ 9
    unfold can9 at h; split <;> omega
  · show 0 ≤ (if (4 : Int) = j then v else iS I 4) ∧ (if (4 : Int) = j then v else iS I 4) ≤ 2
    unfold can9 at h; split <;> omega
  · show -9999 ≤ (if (5 : Int) = j then v else iS I 5) ∧ (if (5 : Int) = j then v else iS I 5) ≤ 9999
    unfold can9 at h; split <;> omega
  · show 0 ≤ (if (6 : Int) = j then v else iS I 6) ∧ (if (6 : Int) = j then v else iS I 6) ≤ 3
    unfold can9 at h; split <;> omega
  · show 0 ≤ (if (7 : Int) = j then v else iS I 7) ∧ (if (7 : Int) = j then v else iS I 7) ≤ 99999
    unfold can9 at h; split <;> omega
theorem p_changeNumber {X : Nat × (Int → Int)} {h : HP} {Q : Int → HP → Prop} {j v : Int} (H1 : can9 j v → ¬ h 9 j = v → Q 1 (xu h 9 j v)) (H0 : ¬ (can9 j v ∧ ¬ h 9 j = v) → Q 0 h) : Wd mX4_changeNumber X 0 [(2, 1), (0, j), (0, v)] [] h Q := by
  obtain ⟨⟨a0, a1, a2, a3⟩, ⟨b0, b1, b2, b3⟩, -⟩ := sxv
  refine vX4_changeNumber_0 ⟨fun c => H0 (fun z => by unfold can9 at z; omega), fun c => ⟨fun c1 => ⟨by omega, c1, ?_⟩, fun c1 => H0 (fun z => by unfold can9 at z; omega)⟩⟩
  rcases (by omega : j = 0 ∨ j = 1 ∨ j = 2 ∨ j = 3) with e | e | e | e <;> subst e
  · rw [a0, b0]
    exact ⟨fun c2 => H0 (fun z => by unfold can9 at z; omega), fun c2 => ⟨fun c3 => H0 (fun z => by unfold can9 at z; omega), fun c3 => ⟨fun c4 => H1 (by unfold can9; omega) (by omega), fun c4 => H0 (fun z => by omega)⟩⟩⟩
  · rw [a1, b1]
    exact ⟨fun c2 => H0 (fun z => by unfold can9 at z; omega), fun c2 => ⟨fun c3 => H0 (fun z => by unfold can9 at z; omega), fun c3 => ⟨fun c4 => H1 (by unfold can9; omega) (by omega), fun c4 => H0 (fun z => by omega)⟩⟩⟩
  · rw [a2, b2]
    exact ⟨fun c2 => H0 (fun z => by unfold can9 at z; omega), fun c2 => ⟨fun c3 => H0 (fun z => by unfold can9 at z; omega), fun c3 => ⟨fun c4 => H1 (by unfold can9; omega) (by omega), fun c4 => H0 (fun z => by omega)⟩⟩⟩
  · rw [a3, b3]
    exact ⟨fun c2 => H0 (fun z => by unfold can9 at z; omega), fun c2 => ⟨fun c3 => H0 (fun z => by unfold can9 at z; omega), fun c3 => ⟨fun c4 => H1 (by unfold can9; omega) (by omega), fun c4 => H0 (fun z => by omega)⟩⟩⟩
theorem p_set9 {X : Nat × (Int → Int)} {h : HP} {Q : Int → HP → Prop} {j v : Int} (H1 : can9 j v → ¬ h 43 j = v → Q 1 (xu h 43 j v)) (H0 : ¬ (can9 j v ∧ ¬ h 43 j = v) → Q 0 h) : Wd mX9_set X 0 [(2, 41), (0, j), (0, v), (9, 0)] [] h Q := by
  refine vX9_set_0 ⟨fun c0 => ⟨fun c1 => ⟨fun c2 => ⟨fun c3 => H0 (fun z => by unfold can9 at z; omega), fun c3 => ?_⟩, fun c2 => ?_⟩, fun c1 => ?_⟩, fun c0 => ?_⟩
  · exact p_isIn (fun d1 d2 => ⟨fun z => by omega, fun _ => ⟨by omega, by omega, fun c4 => H1 (by unfold can9; omega) c4, fun c4 => H0 (fun z => z.2 c4)⟩⟩) (fun d => ⟨fun _ => H0 (fun z => by unfold can9 at z; omega), fun z => absurd rfl z⟩)
  · exact p_isIn (fun d1 d2 => ⟨fun z => by omega, fun _ => ⟨by omega, by omega, fun c4 => H1 (by unfold can9; omega) c4, fun c4 => H0 (fun z => z.2 c4)⟩⟩) (fun d => ⟨fun _ => H0 (fun z => by unfold can9 at z; omega), fun z => absurd rfl z⟩)
  · exact p_isIn (fun d1 d2 => ⟨fun z => by omega, fun _ => ⟨by omega, by omega, fun c4 => H1 (by unfold can9; omega) c4, fun c4 => H0 (fun z => z.2 c4)⟩⟩) (fun d => ⟨fun _ => H0 (fun z => by unfold can9 at z; omega), fun z => absurd rfl z⟩)
  · exact p_isIn (fun d1 d2 => ⟨fun z => by omega, fun _ => ⟨by omega, by omega, fun c4 => H1 (by unfold can9; omega) c4, fun c4 => H0 (fun z => z.2 c4)⟩⟩) (fun d => ⟨fun _ => H0 (fun z => by unfold can9 at z; omega), fun z => absurd rfl z⟩)
theorem p_changed1 {X : Nat × (Int → Int)} {h : HP} {Q : Int → HP → Prop} (H : Q 1 (xu h 0 8 1)) : Wd mX8_changed X 0 [(2, 0), (0, 1)] [] h (fun r h1 => (r = 0 ∨ r = 1) ∧ Q r h1) :=
  vX8_changed_0 ⟨fun z => by omega, fun _ => ⟨Or.inr rfl, Or.inr rfl, H⟩⟩
theorem p_changed0 {X : Nat × (Int → Int)} {h : HP} {Q : Int → HP → Prop} (H : Q 0 h) : Wd mX8_changed X 0 [(2, 0), (0, 0)] [] h (fun r h1 => (r = 0 ∨ r = 1) ∧ Q r h1) :=
  vX8_changed_0 ⟨fun _ => ⟨Or.inl rfl, Or.inl rfl, H⟩, fun z => absurd rfl z⟩
theorem o_set {X : Nat × (Int → Int)} {h : HP} {j v : Int} (H : RL9 h) : Wd mX8_set X 0 [(2, 0), (0, j), (0, v)] [] h (fun r h1 => Wd mX9_set X 0 [(2, 41), (0, j), (0, v), (9, 0)] [] h1 (fun r2 h2 => r = r2 ∧ RL9 h2)) := by
  have HR := H
  obtain ⟨I, nm, hI, hC, hM, hN, hso, hst⟩ := H
  have e0 : can9 j v → h 9 j = iS I j ∧ h 43 j = iS I j := fun z => ⟨hC.2.2.1 j (by unfold can9 at z; omega) (by unfold can9 at z; omega), hM.2.2.1 j (by unfold can9 at z; omega) (by unfold can9 at z; omega)⟩
  refine vX8_set_0 (p_changeNumber (fun k1 k2 => p_changed1 ?_) (fun k => p_changed0 ?_))
  · obtain ⟨e1, e2⟩ := e0 k1
    have kj : 0 ≤ j ∧ j < 4 := by unfold can9 at k1; omega
    refine p_set9 (fun _ _ => ⟨rfl, setI I j v, nm, setI_ok hI k1, ?_, ?_, hN.keep (fun i => ⟨by rw [xu_ne (by omega), xu_ne (by omega), xu_ne (by omega)], by rw [xu_ne (by omega), xu_ne (by omega), xu_ne (by omega)]⟩), hso.keep (by rw [xu_ne (by omega), xu_ne (by omega), xu_ne (by omega)]) (by rw [xu_ne (by omega), xu_ne (by omega), xu_ne (by omega)]), fun z => ?_⟩) (fun z => absurd ⟨k1, by rw [xu_ne (by omega), xu_ne (by omega)]; omega⟩ z)
    · obtain ⟨c1, c2, c3, c4, c5, c6⟩ := hC
      refine ⟨by rw [xu_ne (by omega), xu_ne (by omega), xu_ne (by omega)]; exact c1, fun i q1 q2 => by rw [xu_ne (by omega), xu_ne (by omega), xu_ne (by omega)]; exact c2 i q1 q2, fun i q1 q2 => ?_, ?_, by rw [xu_ne (by omega), xu_ne (by omega), xu_ne (by omega)]; exact c5, fun l q1 q2 => by rw [xu_ne (by omega), xu_ne (by omega), xu_ne (by omega), xu_ne (by omega), xu_ne (by omega), xu_ne (by omega)]; exact c6 l q1 q2⟩
      · show _ = (if i = j then v else iS I i)
        by_cases e : i = j
        · rw [if_pos e, xu_ne (by omega), xu_ne (by omega), xu_eq rfl e]
        · rw [if_neg e, xu_ne (by omega), xu_ne (by omega), xu_ne (by omega)]; exact c3 i q1 q2
      · show _ = (if (4 : Int) = j then v else iS I 4) ∧ _ = (if (5 : Int) = j then v else iS I 5) ∧ _ = (if (6 : Int) = j then v else iS I 6) ∧ _ = (if (7 : Int) = j then v else iS I 7)
        rw [if_neg (by omega), if_neg (by omega), if_neg (by omega), if_neg (by omega), xu_ne (by omega), xu_ne (by omega), xu_ne (by omega), xu_ne (by omega), xu_ne (by omega), xu_ne (by omega), xu_ne (by omega), xu_ne (by omega), xu_ne (by omega), xu_ne (by omega), xu_ne (by omega), xu_ne (by omega)]
        exact c4
    · obtain ⟨c1, c2, c3, c4, c5⟩ := hM
      refine ⟨by rw [xu_ne (by omega), xu_ne (by omega), xu_ne (by omega)]; exact c1, fun i q1 q2 => by rw [xu_ne (by omega), xu_ne (by omega), xu_ne (by omega)]; exact c2 i q1 q2, fun i q1 q2 => ?_, by rw [xu_ne (by omega), xu_ne (by omega), xu_ne (by omega)]; exact c4, fun l q1 q2 => by rw [xu_ne (by omega), xu_ne (by omega), xu_ne (by omega), xu_ne (by omega), xu_ne (by omega), xu_ne (by omega)]; exact c5 l q1 q2⟩
      show _ = (if i = j then v else iS I i)
      by_cases e : i = j
      · rw [if_pos e, xu_eq rfl e]
      · rw [if_neg e, xu_ne (by omega), xu_ne (by omega), xu_ne (by omega)]; exact c3 i q1 q2
    · rw [xu_ne (by omega), xu_eq rfl rfl] at z; omega
  · refine p_set9 (fun k1 k2 => ?_) (fun _ => ⟨rfl, HR⟩)
    obtain ⟨e1, e2⟩ := e0 k1
    exact absurd ⟨k1, by rw [e1, ← e2]; exact k2⟩ k
/-- rule and number together -/
def set2 (I : IN) (j u v : Int) : IN := (iN I, iR I, fun i => if i = j then u else if i = j + 1 then v else iS I i, iL I, iK I, iB I)
def lv9 (u v : Int) : Prop := (u = 0 ∧ -9999 ≤ v ∧ v ≤ 9999) ∨ (u = 1 ∧ v = 0) ∨ (u = 2 ∧ v = 0)
def mk9 (u v : Int) : Prop := (u = 0 ∧ 0 ≤ v ∧ v ≤ 99999) ∨ (u = 1 ∧ v = 0) ∨ (u = 2 ∧ v = 0) ∨ (u = 3 ∧ v = 0)
theorem p_changeRule {X : Nat × (Int → Int)} {h : HP} {Q : Int → HP → Prop} {u v : Int} (H1 : lv9 u v → ¬ (u = h 1 1 ∧ v = h 1 2) → Q 1 (xu (xu h 1 1 u) 1 2 v)) (H0 : ¬ (lv9 u v ∧ ¬ (u = h 1 1 ∧ v = h 1 2)) → Q 0 h) : Wd mX4_changeRule X 0 [(2, 1), (0, u), (0, v), (9, 0)] [] h Q := by
  have n1 : ¬ lv9 u v → Q 0 h := fun z => H0 (fun y => z y.1)
  refine vX4_changeRule_0 ⟨fun c => ⟨fun c1 => ⟨fun c2 => n1 (by unfold lv9; omega), fun c2 => ⟨fun c3 => n1 (by unfold lv9; omega), fun c3 => n1 (by unfold lv9; omega)⟩⟩, fun c1 => ⟨fun c2 => n1 (by unfold lv9; omega), fun c2 => ⟨fun c3 => n1 (by unfold lv9; omega), fun c3 => ⟨fun c4 => H1 (by unfold lv9; omega) (fun z => c4 z.1), fun c4 => ⟨fun c5 => H1 (by unfold lv9; omega) (fun z => c5 z.2), fun c5 => H0 (fun z => z.2 ⟨c4, c5⟩)⟩⟩⟩⟩⟩, fun c => ⟨fun c1 => ⟨fun c2 => by omega, fun c2 => ⟨fun c3 => by omega, fun c3 => n1 (by unfold lv9; omega)⟩⟩, fun c1 => ⟨fun c2 => ⟨fun c3 => by omega, fun c3 => ⟨fun c4 => by omega, fun c4 => n1 (by unfold lv9; omega)⟩⟩, fun c2 => ⟨fun c3 => by omega, fun c3 => ⟨fun c4 => by omega, fun c4 => ⟨fun c5 => H1 (by unfold lv9; omega) (fun z => c5 z.1), fun c5 => ⟨fun c6 => H1 (by unfold lv9; omega) (fun z => c6 z.2), fun c6 => H0 (fun z => z.2 ⟨c5, c6⟩)⟩⟩⟩⟩⟩⟩⟩
theorem p_changeMark {X : Nat × (Int → Int)} {h : HP} {Q : Int → HP → Prop} {u v : Int} (H1 : mk9 u v → ¬ (u = h 1 3 ∧ v = h 1 4) → Q 1 (xu (xu h 1 3 u) 1 4 v)) (H0 : ¬ (mk9 u v ∧ ¬ (u = h 1 3 ∧ v = h 1 4)) → Q 0 h) : Wd mX4_changeMark X 0 [(2, 1), (0, u), (0, v), (9, 0)] [] h Q := by
  have n1 : ¬ mk9 u v → Q 0 h := fun z => H0 (fun y => z y.1)
  refine vX4_changeMark_0 ⟨fun c => ⟨fun c1 => ⟨fun c2 => n1 (by unfold mk9; omega), fun c2 => ⟨fun c3 => n1 (by unfold mk9; omega), fun c3 => n1 (by unfold mk9; omega)⟩⟩, fun c1 => ⟨fun c2 => n1 (by unfold mk9; omega), fun c2 => ⟨fun c3 => n1 (by unfold mk9; omega), fun c3 => ⟨fun c4 => H1 (by unfold mk9; omega) (fun z => c4 z.1), fun c4 => ⟨fun c5 => H1 (by unfold mk9; omega) (fun z => c5 z.2), fun c5 => H0 (fun z => z.2 ⟨c4, c5⟩)⟩⟩⟩⟩⟩, fun c => ⟨fun c1 => ⟨fun c2 => by omega, fun c2 => ⟨fun c3 => by omega, fun c3 => n1 (by unfold mk9; omega)⟩⟩, fun c1 => ⟨fun c2 => ⟨fun c3 => by omega, fun c3 => ⟨fun c4 => by omega, fun c4 => n1 (by unfold mk9; omega)⟩⟩, fun c2 => ⟨fun c3 => by omega, fun c3 => ⟨fun c4 => by omega, fun c4 => ⟨fun c5 => H1 (by unfold mk9; omega) (fun z => c5 z.1), fun c5 => ⟨fun c6 => H1 (by unfold mk9; omega) (fun z => c6 z.2), fun c6 => H0 (fun z => z.2 ⟨c5, c6⟩)⟩⟩⟩⟩⟩⟩⟩
theorem p_both {X : Nat × (Int → Int)} {h : HP} {Q : Int → HP → Prop} {j u v : Int} (h0 : 0 ≤ j) (h1 : j < 7) (H1 : ¬ (u = h 43 j ∧ v = h 43 (j + 1)) → Q 1 (xu (xu h 43 j u) 43 (j + 1) v)) (H0 : (u = h 43 j ∧ v = h 43 (j + 1)) → Q 0 h) : Wd mX9_both X 0 [(2, 41), (0, j), (0, u), (0, v)] [] h (fun r h1 => (r = 0 ∨ r = 1) ∧ Q r h1) :=
  vX9_both_0 ⟨h0, by omega, fun c => ⟨by omega, by omega, by omega, Or.inr rfl, H1 (fun z => by omega)⟩, fun c => ⟨by omega, by omega, by omega, fun c1 => ⟨Or.inr rfl, H1 (fun z => by omega)⟩, fun c1 => ⟨Or.inl rfl, H0 ⟨c.symm, c1.symm⟩⟩⟩⟩
theorem p_levelm {X : Nat × (Int → Int)} {h : HP} {Q : Int → HP → Prop} {u v : Int} (H1 : lv9 u v → ¬ (u = h 43 4 ∧ v = h 43 5) → Q 1 (xu (xu h 43 4 u) 43 5 v)) (H0 : ¬ (lv9 u v ∧ ¬ (u = h 43 4 ∧ v = h 43 5)) → Q 0 h) : Wd mX9_level X 0 [(2, 41), (0, u), (0, v)] [] h Q := by
  have n1 : ¬ lv9 u v → Q 0 h := fun z => H0 (fun y => z y.1)
  have b : lv9 u v → Wd mX9_both X 0 [(2, 41), (0, 4), (0, u), (0, v)] [] h (fun r h1 => (r = 0 ∨ r = 1) ∧ Q r h1) := fun z => p_both (by omega) (by omega) (fun y => H1 z y) (fun y => H0 (fun x => x.2 y))
  refine vX9_level_0 (p_isIn (fun d1 d2 => ⟨fun z => by omega, fun _ => ⟨fun c => ⟨fun c1 => b (by unfold lv9; omega), fun c1 => n1 (by unfold lv9; omega)⟩, fun c => ?_⟩⟩) (fun d => ⟨fun _ => n1 (by unfold lv9; omega), fun z => absurd rfl z⟩))
  exact p_isIn (fun e1 e2 => ⟨fun _ => b (by unfold lv9; omega), fun z => by omega⟩) (fun e => ⟨fun z => absurd rfl z, fun _ => n1 (by unfold lv9; omega)⟩)
theorem p_markm {X : Nat × (Int → Int)} {h : HP} {Q : Int → HP → Prop} {u v : Int} (H1 : mk9 u v → ¬ (u = h 43 6 ∧ v = h 43 7) → Q 1 (xu (xu h 43 6 u) 43 7 v)) (H0 : ¬ (mk9 u v ∧ ¬ (u = h 43 6 ∧ v = h 43 7)) → Q 0 h) : Wd mX9_mark X 0 [(2, 41), (0, u), (0, v)] [] h Q := by
  have n1 : ¬ mk9 u v → Q 0 h := fun z => H0 (fun y => z y.1)
  have b : mk9 u v → Wd mX9_both X 0 [(2, 41), (0, 6), (0, u), (0, v)] [] h (fun r h1 => (r = 0 ∨ r = 1) ∧ Q r h1) := fun z => p_both (by omega) (by omega) (fun y => H1 z y) (fun y => H0 (fun x => x.2 y))
  refine vX9_mark_0 (p_isIn (fun d1 d2 => ⟨fun z => by omega, fun _ => ⟨fun c => ⟨fun c1 => b (by unfold mk9; omega), fun c1 => n1 (by unfold mk9; omega)⟩, fun c => ?_⟩⟩) (fun d => ⟨fun _ => n1 (by unfold mk9; omega), fun z => absurd rfl z⟩))
  exact p_isIn (fun e1 e2 => ⟨fun _ => b (by unfold mk9; omega), fun z => by omega⟩) (fun e => ⟨fun z => absurd rfl z, fun _ => n1 (by unfold mk9; omega)⟩)
theorem set2_ok4 {I : IN} (hI : OKI I) {u v : Int} (h : lv9 u v) : OKI (set2 I 4 u v) := by
  obtain ⟨a1, a2, b0, b1, b2, b3, b4, b5, b6, b7, a3⟩ := hI
  refine ⟨a1, a2, b0, b1, b2, b3, ?_, ?_, b6, b7, a3⟩
  · show 0 ≤ u ∧ u ≤ 2
    unfold lv9 at h; omega
  · show -9999 ≤ v ∧ v ≤ 9999
    unfold lv9 at h; omega
theorem set2_ok6 {I : IN} (hI : OKI I) {u v : Int} (h : mk9 u v) : OKI (set2 I 6 u v) := by
  obtain ⟨a1, a2, b0, b1, b2, b3, b4, b5, b6, b7, a3⟩ := hI
  refine ⟨a1, a2, b0, b1, b2, b3, b4, b5, ?_, ?_, a3⟩
  · show 0 ≤ u ∧ u ≤ 3
    unfold mk9 at h; omega
  · show 0 ≤ v ∧ v ≤ 99999
    unfold mk9 at h; omega
theorem set2_M {I : IN} {h h' : HP} (hM : MIn I h) {j u v : Int} (hf : ∀ k i, ¬ (k = 43 ∧ (i = j ∨ i = j + 1)) → 41 ≤ k → h' k i = h k i) (h1 : h' 43 j = u) (h2 : h' 43 (j + 1) = v) : MIn (set2 I j u v) h' := by
  obtain ⟨c1, c2, c3, c4, c5⟩ := hM
  refine ⟨by rw [hf 41 5 (by omega) (by omega)]; exact c1, fun i q1 q2 => by rw [hf 42 i (by omega) (by omega)]; exact c2 i q1 q2, fun i q1 q2 => ?_, by rw [hf 41 6 (by omega) (by omega)]; exact c4, fun l q1 q2 => by rw [hf 44 l (by omega) (by omega), hf 45 l (by omega) (by omega)]; exact c5 l q1 q2⟩
  show _ = (if i = j then u else if i = j + 1 then v else iS I i)
  by_cases e : i = j
  · rw [if_pos e, e]; exact h1
  · by_cases e2 : i = j + 1
    · rw [if_neg e, if_pos e2, e2]; exact h2
    · rw [if_neg e, if_neg e2, hf 43 i (by omega) (by omega)]; exact c3 i q1 q2
theorem o_level {X : Nat × (Int → Int)} {h : HP} {u v : Int} (H : RL9 h) : Wd mX8_level X 0 [(2, 0), (0, u), (0, v)] [] h (fun r h1 => Wd mX9_level X 0 [(2, 41), (0, u), (0, v)] [] h1 (fun r2 h2 => r = r2 ∧ RL9 h2)) := by
  have HR := H
  obtain ⟨I, nm, hI, hC, hM, hN, hso, hst⟩ := H
  have e1 : h 1 1 = iS I 4 ∧ h 1 2 = iS I 5 := ⟨hC.2.2.2.1.1, hC.2.2.2.1.2.1⟩
  have e2 : h 43 4 = iS I 4 ∧ h 43 5 = iS I 5 := ⟨hM.2.2.1 4 (by omega) (by omega), hM.2.2.1 5 (by omega) (by omega)⟩
  refine vX8_level_0 (p_changeRule (fun k1 k2 => p_changed1 ?_) (fun k => p_changed0 ?_))
  · have f1 : ∀ k i, ¬ (k = 1 ∧ (i = 1 ∨ i = 2)) → ¬ (k = 0 ∧ i = 8) → xu (xu (xu h 1 1 u) 1 2 v) 0 8 1 k i = h k i := fun k i q1 q2 => by rw [xu_ne (by omega), xu_ne (by omega), xu_ne (by omega)]
    have z1 : xu (xu (xu h 1 1 u) 1 2 v) 0 8 1 0 8 = 1 := xu_eq rfl rfl
    have z2 : xu (xu (xu h 1 1 u) 1 2 v) 0 8 1 1 1 = u := by rw [xu_ne (by omega), xu_ne (by omega), xu_eq rfl rfl]
    have z3 : xu (xu (xu h 1 1 u) 1 2 v) 0 8 1 1 2 = v := by rw [xu_ne (by omega), xu_eq rfl rfl]
    generalize xu (xu (xu h 1 1 u) 1 2 v) 0 8 1 = h1 at f1 z1 z2 z3
    refine p_levelm (fun _ _ => ⟨rfl, ?_⟩) (fun z => absurd ⟨k1, by rw [f1 43 4 (by omega) (by omega), f1 43 5 (by omega) (by omega), e2.1, e2.2, ← e1.1, ← e1.2]; exact k2⟩ z)
    have f2 : ∀ k i, ¬ (k = 43 ∧ (i = 4 ∨ i = 5)) → xu (xu h1 43 4 u) 43 5 v k i = h1 k i := fun k i q1 => by rw [xu_ne (by omega), xu_ne (by omega)]
    have y1 : xu (xu h1 43 4 u) 43 5 v 43 4 = u := by rw [xu_ne (by omega), xu_eq rfl rfl]
    have y2 : xu (xu h1 43 4 u) 43 5 v 43 5 = v := xu_eq rfl rfl
    generalize xu (xu h1 43 4 u) 43 5 v = h2 at f2 y1 y2
    refine ⟨set2 I 4 u v, nm, set2_ok4 hI k1, ?_, set2_M hM (fun k i q1 q2 => by rw [f2 k i (by omega), f1 k i (by omega) (by omega)]) y1 y2, hN.keep (fun i => ⟨by rw [f2 13 i (by omega), f1 13 i (by omega) (by omega)], by rw [f2 46 i (by omega), f1 46 i (by omega) (by omega)]⟩), hso.keep (by rw [f2 8 0 (by omega), f1 8 0 (by omega) (by omega)]) (by rw [f2 8 1 (by omega), f1 8 1 (by omega) (by omega)]), fun z => by rw [f2 0 8 (by omega), z1] at z; omega⟩
    obtain ⟨c1, c2, c3, c4, c5, c6⟩ := hC
    refine ⟨by rw [f2 3 2 (by omega), f1 3 2 (by omega) (by omega)]; exact c1, fun i q1 q2 => by rw [f2 12 i (by omega), f1 12 i (by omega) (by omega)]; exact c2 i q1 q2, fun i q1 q2 => ?_, ⟨by rw [f2 1 1 (by omega)]; exact z2, by rw [f2 1 2 (by omega)]; exact z3, by rw [f2 1 3 (by omega), f1 1 3 (by omega) (by omega)]; exact c4.2.2.1, by rw [f2 1 4 (by omega), f1 1 4 (by omega) (by omega)]; exact c4.2.2.2⟩, by rw [f2 2 2 (by omega), f1 2 2 (by omega) (by omega)]; exact c5, fun l q1 q2 => by rw [f2 10 l (by omega), f1 10 l (by omega) (by omega), f2 11 l (by omega), f1 11 l (by omega) (by omega)]; exact c6 l q1 q2⟩
    rw [f2 9 i (by omega), f1 9 i (by omega) (by omega)]
    show _ = (if i = 4 then u else if i = 4 + 1 then v else iS I i)
    rw [if_neg (by omega), if_neg (by omega)]
    exact c3 i q1 q2
  · exact p_levelm (fun k1 k2 => absurd ⟨k1, by rw [e1.1, e1.2, ← e2.1, ← e2.2]; exact k2⟩ k) (fun _ => ⟨rfl, HR⟩)
theorem o_mark {X : Nat × (Int → Int)} {h : HP} {u v : Int} (H : RL9 h) : Wd mX8_mark X 0 [(2, 0), (0, u), (0, v)] [] h (fun r h1 => Wd mX9_mark X 0 [(2, 41), (0, u), (0, v)] [] h1 (fun r2 h2 => r = r2 ∧ RL9 h2)) := by
  have HR := H
  obtain ⟨I, nm, hI, hC, hM, hN, hso, hst⟩ := H
  have e1 : h 1 3 = iS I 6 ∧ h 1 4 = iS I 7 := ⟨hC.2.2.2.1.2.2.1, hC.2.2.2.1.2.2.2⟩
  have e2 : h 43 6 = iS I 6 ∧ h 43 7 = iS I 7 := ⟨hM.2.2.1 6 (by omega) (by omega), hM.2.2.1 7 (by omega) (by omega)⟩
  refine vX8_mark_0 (p_changeMark (fun k1 k2 => p_changed1 ?_) (fun k => p_changed0 ?_))
  · have f1 : ∀ k i, ¬ (k = 1 ∧ (i = 3 ∨ i = 4)) → ¬ (k = 0 ∧ i = 8) → xu (xu (xu h 1 3 u) 1 4 v) 0 8 1 k i = h k i := fun k i q1 q2 => by rw [xu_ne (by omega), xu_ne (by omega), xu_ne (by omega)]
    have z1 : xu (xu (xu h 1 3 u) 1 4 v) 0 8 1 0 8 = 1 := xu_eq rfl rfl
    have z2 : xu (xu (xu h 1 3 u) 1 4 v) 0 8 1 1 3 = u := by rw [xu_ne (by omega), xu_ne (by omega), xu_eq rfl rfl]
    have z3 : xu (xu (xu h 1 3 u) 1 4 v) 0 8 1 1 4 = v := by rw [xu_ne (by omega), xu_eq rfl rfl]
    generalize xu (xu (xu h 1 3 u) 1 4 v) 0 8 1 = h1 at f1 z1 z2 z3
    refine p_markm (fun _ _ => ⟨rfl, ?_⟩) (fun z => absurd ⟨k1, by rw [f1 43 6 (by omega) (by omega), f1 43 7 (by omega) (by omega), e2.1, e2.2, ← e1.1, ← e1.2]; exact k2⟩ z)
    have f2 : ∀ k i, ¬ (k = 43 ∧ (i = 6 ∨ i = 7)) → xu (xu h1 43 6 u) 43 7 v k i = h1 k i := fun k i q1 => by rw [xu_ne (by omega), xu_ne (by omega)]
    have y1 : xu (xu h1 43 6 u) 43 7 v 43 6 = u := by rw [xu_ne (by omega), xu_eq rfl rfl]
    have y2 : xu (xu h1 43 6 u) 43 7 v 43 7 = v := xu_eq rfl rfl
    generalize xu (xu h1 43 6 u) 43 7 v = h2 at f2 y1 y2
    refine ⟨set2 I 6 u v, nm, set2_ok6 hI k1, ?_, set2_M hM (fun k i q1 q2 => by rw [f2 k i (by omega), f1 k i (by omega) (by omega)]) y1 y2, hN.keep (fun i => ⟨by rw [f2 13 i (by omega), f1 13 i (by omega) (by omega)], by rw [f2 46 i (by omega), f1 46 i (by omega) (by omega)]⟩), hso.keep (by rw [f2 8 0 (by omega), f1 8 0 (by omega) (by omega)]) (by rw [f2 8 1 (by omega), f1 8 1 (by omega) (by omega)]), fun z => by rw [f2 0 8 (by omega), z1] at z; omega⟩
    obtain ⟨c1, c2, c3, c4, c5, c6⟩ := hC
    refine ⟨by rw [f2 3 2 (by omega), f1 3 2 (by omega) (by omega)]; exact c1, fun i q1 q2 => by rw [f2 12 i (by omega), f1 12 i (by omega) (by omega)]; exact c2 i q1 q2, fun i q1 q2 => ?_, ⟨by rw [f2 1 1 (by omega), f1 1 1 (by omega) (by omega)]; exact c4.1, by rw [f2 1 2 (by omega), f1 1 2 (by omega) (by omega)]; exact c4.2.1, by rw [f2 1 3 (by omega)]; exact z2, by rw [f2 1 4 (by omega)]; exact z3⟩, by rw [f2 2 2 (by omega), f1 2 2 (by omega) (by omega)]; exact c5, fun l q1 q2 => by rw [f2 10 l (by omega), f1 10 l (by omega) (by omega), f2 11 l (by omega), f1 11 l (by omega) (by omega)]; exact c6 l q1 q2⟩
    rw [f2 9 i (by omega), f1 9 i (by omega) (by omega)]
    show _ = (if i = 6 then u else if i = 6 + 1 then v else iS I i)
    rw [if_neg (by omega), if_neg (by omega)]
    exact c3 i q1 q2
  · exact p_markm (fun k1 k2 => absurd ⟨k1, by rw [e1.1, e1.2, ← e2.1, ← e2.2]; exact k2⟩ k) (fun _ => ⟨rfl, HR⟩)
/-! lens, off -/
def layI (I : IN) (u v : Int) : IN := (iN I, iR I, iS I, iL I + 1, fun l => if l = iL I then u else iK I l, fun l => if l = iL I then v else iB I l)
theorem layI_ok {I : IN} (hI : OKI I) {u v : Int} (h : lok u v) (hl : iL I < 4) : OKI (layI I u v) := by
  obtain ⟨a1, a2, b0, b1, b2, b3, b4, b5, b6, b7, b8, a3⟩ := hI
  refine ⟨a1, a2, b0, b1, b2, b3, b4, b5, b6, b7, ⟨by show 0 ≤ iL I + 1; omega, by show iL I + 1 ≤ 4; omega⟩, fun l q1 q2 => ?_⟩
  have q2 : l < iL I + 1 := q2
  show lok (if l = iL I then u else iK I l) (if l = iL I then v else iB I l)
  by_cases e : l = iL I
  · rw [if_pos e, if_pos e]; exact h
  · rw [if_neg e, if_neg e]; exact a3 l q1 (by omega)
theorem p_canBe {X : Nat × (Int → Int)} {h : HP} {Q : Int → HP → Prop} {u v : Int} (H1 : lok u v → Q 1 h) (H0 : ¬ lok u v → Q 0 h) : Wd mX1_canBe X 0 [(0, u), (0, v)] [] h Q := by
  obtain ⟨-, -, ⟨a0, a1, a2, a3, a4⟩, ⟨b0, b1, b2, b3, b4⟩⟩ := sxv
  refine vX1_canBe_0 ⟨fun c => H0 (by unfold lok; omega), fun c => ⟨fun c1 => H0 (by unfold lok; omega), fun c1 => ⟨by omega, by omega, ?_⟩⟩⟩
  rcases (by omega : u = 0 ∨ u = 1 ∨ u = 2 ∨ u = 3 ∨ u = 4) with e | e | e | e | e <;> subst e
  · rw [a0, b0]
    exact ⟨fun c2 => H0 (by unfold lok; omega), fun c2 => ⟨fun c3 => H0 (by unfold lok; omega), fun c3 => H1 (by unfold lok; omega)⟩⟩
  · rw [a1, b1]
    exact ⟨fun c2 => H0 (by unfold lok; omega), fun c2 => ⟨fun c3 => H0 (by unfold lok; omega), fun c3 => H1 (by unfold lok; omega)⟩⟩
  · rw [a2, b2]
    exact ⟨fun c2 => H0 (by unfold lok; omega), fun c2 => ⟨fun c3 => H0 (by unfold lok; omega), fun c3 => H1 (by unfold lok; omega)⟩⟩
  · rw [a3, b3]
    exact ⟨fun c2 => H0 (by unfold lok; omega), fun c2 => ⟨fun c3 => H0 (by unfold lok; omega), fun c3 => H1 (by unfold lok; omega)⟩⟩
  · rw [a4, b4]
    exact ⟨fun c2 => H0 (by unfold lok; omega), fun c2 => ⟨fun c3 => H0 (by unfold lok; omega), fun c3 => H1 (by unfold lok; omega)⟩⟩
theorem p_lens9 {X : Nat × (Int → Int)} {h : HP} {Q : Int → HP → Prop} {u v : Int} (hl : 0 ≤ h 41 6 ∧ h 41 6 ≤ 4) (H1 : lok u v → h 41 6 < 4 → Q (h 41 6 + 1) (xu (xu (xu h 44 (h 41 6) u) 45 (h 41 6) v) 41 6 (h 41 6 + 1))) (H0 : ¬ (lok u v ∧ h 41 6 < 4) → Q (-1) h) : Wd mX9_lens X 0 [(2, 41), (0, u), (0, v), (9, 0)] [] h Q := by
  have g : lok u v → ((¬ h 41 6 = 4 → (0 ≤ h 41 6 ∧ h 41 6 < 4 ∧ inI (h 41 6 + 1) ∧ Q (h 41 6 + 1) (xu (xu (xu h 44 (h 41 6) u) 45 (h 41 6) v) 41 6 (h 41 6 + 1)))) ∧ (h 41 6 = 4 → (Q (-1) h))) := fun z => ⟨fun c => ⟨by omega, by omega, by omega, H1 z (by omega)⟩, fun c => H0 (fun y => by omega)⟩
  have n1 : ¬ lok u v → Q (-1) h := fun z => H0 (fun y => z y.1)
  refine vX9_lens_0 ⟨fun c0 => ⟨fun c1 => ⟨fun c2 => ⟨fun c3 => ⟨fun c4 => n1 (by unfold lok; omega), fun c4 => ?_⟩, fun c3 => ?_⟩, fun c2 => ⟨fun c5 => n1 (by unfold lok; omega), fun c5 => g (by unfold lok; omega)⟩⟩, fun c1 => ?_⟩, fun c0 => ?_⟩
  · exact p_isIn (fun d1 d2 => ⟨fun z => by omega, fun _ => g (by unfold lok; omega)⟩) (fun d => ⟨fun _ => n1 (by unfold lok; omega), fun z => absurd rfl z⟩)
  · exact p_isIn (fun d1 d2 => ⟨fun z => by omega, fun _ => g (by unfold lok; omega)⟩) (fun d => ⟨fun _ => n1 (by unfold lok; omega), fun z => absurd rfl z⟩)
  · exact p_isIn (fun d1 d2 => ⟨fun z => by omega, fun _ => g (by unfold lok; omega)⟩) (fun d => ⟨fun _ => n1 (by unfold lok; omega), fun z => absurd rfl z⟩)
  · exact p_isIn (fun d1 d2 => ⟨fun z => by omega, fun _ => g (by unfold lok; omega)⟩) (fun d => ⟨fun _ => n1 (by unfold lok; omega), fun z => absurd rfl z⟩)
theorem o_lens {X : Nat × (Int → Int)} {h : HP} {u v : Int} (H : RL9 h) : Wd mX8_lens X 0 [(2, 0), (0, u), (0, v)] [] h (fun r h1 => Wd mX9_lens X 0 [(2, 41), (0, u), (0, v), (9, 0)] [] h1 (fun r2 h2 => r = r2 ∧ RL9 h2)) := by
  have HR := H
  obtain ⟨I, nm, hI, hC, hM, hN, hso, hst⟩ := H
  have hL := hI.2.2.2.2.2.2.2.2.2.2.1
  have e1 := hC.2.2.2.2.1
  have e2 := hM.2.2.2.1
  have no : ¬ (lok u v ∧ iL I < 4) → Wd mX9_lens X 0 [(2, 41), (0, u), (0, v), (9, 0)] [] h (fun r2 h2 => -1 = r2 ∧ RL9 h2) := fun z => p_lens9 (by omega) (fun y1 y2 => absurd ⟨y1, by omega⟩ z) (fun _ => ⟨rfl, HR⟩)
  refine vX8_lens_0 (p_canBe (fun k => ⟨fun z => by omega, fun _ => ?_⟩) (fun k => ⟨fun _ => no (fun z => k z.1), fun z => absurd rfl z⟩))
  rw [e1]
  refine ⟨fun c => vX1_lay_0 ?_, fun c => no (fun z => c z.2)⟩
  rw [e1]
  refine ⟨fun _ => ⟨by omega, by omega, by omega, ?_⟩, fun z => absurd c z⟩
  have f1 : ∀ k i, ¬ (k = 10 ∨ k = 11 ∨ (k = 2 ∧ i = 2) ∨ (k = 0 ∧ i = 8)) → xu (xu (xu (xu h 10 (iL I) u) 11 (iL I) v) 2 2 (iL I + 1)) 0 8 1 k i = h k i := fun k i q => by rw [xu_ne (by omega), xu_ne (by omega), xu_ne (by omega), xu_ne (by omega)]
  have z1 : xu (xu (xu (xu h 10 (iL I) u) 11 (iL I) v) 2 2 (iL I + 1)) 0 8 1 0 8 = 1 := xu_eq rfl rfl
  have z2 : xu (xu (xu (xu h 10 (iL I) u) 11 (iL I) v) 2 2 (iL I + 1)) 0 8 1 2 2 = iL I + 1 := by rw [xu_ne (by omega), xu_eq rfl rfl]
  have z3 : ∀ l, 0 ≤ l → l < iL I + 1 → xu (xu (xu (xu h 10 (iL I) u) 11 (iL I) v) 2 2 (iL I + 1)) 0 8 1 10 l = (if l = iL I then u else iK I l) ∧ xu (xu (xu (xu h 10 (iL I) u) 11 (iL I) v) 2 2 (iL I + 1)) 0 8 1 11 l = (if l = iL I then v else iB I l) := fun l q1 q2 => by
    by_cases e : l = iL I
    · rw [if_pos e, if_pos e]
      exact ⟨by rw [xu_ne (by omega), xu_ne (by omega), xu_ne (by omega), xu_eq rfl e], by rw [xu_ne (by omega), xu_ne (by omega), xu_eq rfl e]⟩
    · rw [if_neg e, if_neg e, xu_ne (by omega), xu_ne (by omega), xu_ne (by omega), xu_ne (by omega), xu_ne (by omega), xu_ne (by omega), xu_ne (by omega), xu_ne (by omega)]
      exact hC.2.2.2.2.2 l q1 (by omega)
  rw [show xu (xu (xu h 10 (iL I) u) 11 (iL I) v) 2 2 (iL I + 1) 2 2 = iL I + 1 from xu_eq rfl rfl]
  generalize xu (xu (xu (xu h 10 (iL I) u) 11 (iL I) v) 2 2 (iL I + 1)) 0 8 1 = h1 at f1 z1 z2 z3
  have e3 : h1 41 6 = iL I := by rw [f1 41 6 (by omega)]; exact e2
  refine p_lens9 (by omega) (fun _ _ => ?_) (fun z => absurd ⟨k, by omega⟩ z)
  rw [e3]
  refine ⟨rfl, layI I u v, nm, layI_ok hI k c, ?_, ?_, hN.keep (fun i => ⟨by rw [xu_ne (by omega), xu_ne (by omega), xu_ne (by omega), f1 13 i (by omega)], by rw [xu_ne (by omega), xu_ne (by omega), xu_ne (by omega), f1 46 i (by omega)]⟩), hso.keep (by rw [xu_ne (by omega), xu_ne (by omega), xu_ne (by omega), f1 8 0 (by omega)]) (by rw [xu_ne (by omega), xu_ne (by omega), xu_ne (by omega), f1 8 1 (by omega)]), fun z => by rw [xu_ne (by omega), xu_ne (by omega), xu_ne (by omega), z1] at z; omega⟩
  · have f2 : ∀ k i, k ≤ 40 → xu (xu (xu h1 44 (iL I) u) 45 (iL I) v) 41 6 (iL I + 1) k i = h1 k i := fun k i q => by rw [xu_ne (by omega), xu_ne (by omega), xu_ne (by omega)]
    generalize xu (xu (xu h1 44 (iL I) u) 45 (iL I) v) 41 6 (iL I + 1) = h2 at f2
    obtain ⟨c1, c2, c3, c4, c5, c6⟩ := hC
    exact ⟨by rw [f2 3 2 (by omega), f1 3 2 (by omega)]; exact c1, fun i q1 q2 => by rw [f2 12 i (by omega), f1 12 i (by omega)]; exact c2 i q1 q2, fun i q1 q2 => by rw [f2 9 i (by omega), f1 9 i (by omega)]; exact c3 i q1 q2, by rw [f2 1 1 (by omega), f1 1 1 (by omega), f2 1 2 (by omega), f1 1 2 (by omega), f2 1 3 (by omega), f1 1 3 (by omega), f2 1 4 (by omega), f1 1 4 (by omega)]; exact c4, by rw [f2 2 2 (by omega)]; exact z2, fun l q1 q2 => by rw [f2 10 l (by omega), f2 11 l (by omega)]; exact z3 l q1 q2⟩
  · obtain ⟨c1, c2, c3, c4, c5⟩ := hM
    refine ⟨by rw [xu_ne (by omega), xu_ne (by omega), xu_ne (by omega), f1 41 5 (by omega)]; exact c1, fun i q1 q2 => by rw [xu_ne (by omega), xu_ne (by omega), xu_ne (by omega), f1 42 i (by omega)]; exact c2 i q1 q2, fun i q1 q2 => by rw [xu_ne (by omega), xu_ne (by omega), xu_ne (by omega), f1 43 i (by omega)]; exact c3 i q1 q2, xu_eq rfl rfl, fun l q1 q2 => ?_⟩
    have q2 : l < iL I + 1 := q2
    show _ = (if l = iL I then u else iK I l) ∧ _ = (if l = iL I then v else iB I l)
    by_cases e : l = iL I
    · rw [if_pos e, if_pos e]
      exact ⟨by rw [xu_ne (by omega), xu_ne (by omega), xu_eq rfl e], by rw [xu_ne (by omega), xu_eq rfl e]⟩
    · rw [if_neg e, if_neg e, xu_ne (by omega), xu_ne (by omega), xu_ne (by omega), xu_ne (by omega), xu_ne (by omega), xu_ne (by omega), f1 44 l (by omega), f1 45 l (by omega)]
      exact c5 l q1 (by omega)
def offI (I : IN) : IN := (iN I, iR I, iS I, iL I - 1, iK I, iB I)
theorem o_off {X : Nat × (Int → Int)} {h : HP} (H : RL9 h) : Wd mX8_off X 0 [(2, 0)] [] h (fun r h1 => Wd mX9_off X 0 [(2, 41)] [] h1 (fun r2 h2 => r = r2 ∧ RL9 h2)) := by
  have HR := H
  obtain ⟨I, nm, hI, hC, hM, hN, hso, hst⟩ := H
  have hL := hI.2.2.2.2.2.2.2.2.2.2.1
  have e1 := hC.2.2.2.2.1
  have e2 := hM.2.2.2.1
  refine vX8_off_0 ?_
  rw [e1]
  refine ⟨fun c => vX1_takeOff_0 ?_, fun c => vX9_off_0 ⟨fun z => by omega, fun _ => ⟨rfl, HR⟩⟩⟩
  rw [e1]
  refine ⟨fun z => by omega, fun _ => ⟨by omega, ?_⟩⟩
  rw [show xu h 2 2 (iL I - 1) 2 2 = iL I - 1 from xu_eq rfl rfl]
  refine vX9_off_0 ?_
  rw [show xu (xu h 2 2 (iL I - 1)) 0 8 1 41 6 = iL I by rw [xu_ne (by omega), xu_ne (by omega)]; exact e2]
  refine ⟨fun _ => ⟨by omega, rfl, offI I, nm, ?_, ?_, ?_, hN.keep (fun i => ⟨by rw [xu_ne (by omega), xu_ne (by omega), xu_ne (by omega)], by rw [xu_ne (by omega), xu_ne (by omega), xu_ne (by omega)]⟩), hso.keep (by rw [xu_ne (by omega), xu_ne (by omega), xu_ne (by omega)]) (by rw [xu_ne (by omega), xu_ne (by omega), xu_ne (by omega)]), fun z => by rw [xu_ne (by omega), xu_eq rfl rfl] at z; omega⟩, fun z => by omega⟩
  · obtain ⟨a1, a2, b0, b1, b2, b3, b4, b5, b6, b7, b8, a3⟩ := hI
    exact ⟨a1, a2, b0, b1, b2, b3, b4, b5, b6, b7, ⟨by show 0 ≤ iL I - 1; omega, by show iL I - 1 ≤ 4; omega⟩, fun l q1 q2 => a3 l q1 (by have q2 : l < iL I - 1 := q2; omega)⟩
  · obtain ⟨c1, c2, c3, c4, c5, c6⟩ := hC
    refine ⟨by rw [xu_ne (by omega), xu_ne (by omega), xu_ne (by omega)]; exact c1, fun i q1 q2 => by rw [xu_ne (by omega), xu_ne (by omega), xu_ne (by omega)]; exact c2 i q1 q2, fun i q1 q2 => by rw [xu_ne (by omega), xu_ne (by omega), xu_ne (by omega)]; exact c3 i q1 q2, ?_, by rw [xu_ne (by omega), xu_ne (by omega), xu_eq rfl rfl]; rfl, fun l q1 q2 => by rw [xu_ne (by omega), xu_ne (by omega), xu_ne (by omega), xu_ne (by omega), xu_ne (by omega), xu_ne (by omega)]; exact c6 l q1 (by have q2 : l < iL I - 1 := q2; omega)⟩
    rw [xu_ne (by omega), xu_ne (by omega), xu_ne (by omega), xu_ne (by omega), xu_ne (by omega), xu_ne (by omega), xu_ne (by omega), xu_ne (by omega), xu_ne (by omega), xu_ne (by omega), xu_ne (by omega), xu_ne (by omega)]
    exact c4
  · obtain ⟨c1, c2, c3, c4, c5⟩ := hM
    exact ⟨by rw [xu_ne (by omega), xu_ne (by omega), xu_ne (by omega)]; exact c1, fun i q1 q2 => by rw [xu_ne (by omega), xu_ne (by omega), xu_ne (by omega)]; exact c2 i q1 q2, fun i q1 q2 => by rw [xu_ne (by omega), xu_ne (by omega), xu_ne (by omega)]; exact c3 i q1 q2, xu_eq rfl rfl, fun l q1 q2 => by rw [xu_ne (by omega), xu_ne (by omega), xu_ne (by omega), xu_ne (by omega), xu_ne (by omega), xu_ne (by omega)]; exact c5 l q1 (by have q2 : l < iL I - 1 := q2; omega)⟩

/-! stretches by number; the class's split -/
theorem C_nth {p : Int → Prop} {n s : Int} (h0 : 0 ≤ n) (hs : 0 ≤ s) (h : s < C p 0 n) : ∃ a, 0 ≤ a ∧ a < n ∧ p a ∧ C p 0 a = s := by
  obtain ⟨m, rfl⟩ : ∃ m : Nat, n = m := ⟨n.toNat, by omega⟩
  clear h0
  induction m with
  | zero => rw [C_nil (by omega)] at h; omega
  | succ m ih =>
    rw [show ((m + 1 : Nat) : Int) = (m : Int) + 1 by omega] at h ⊢
    by_cases hp : p (m : Int)
    · rw [C_succ (by omega) hp] at h
      by_cases e : s = C p 0 (m : Int)
      · exact ⟨m, by omega, by omega, hp, e.symm⟩
      · obtain ⟨a, q1, q2, q3⟩ := ih (by omega)
        exact ⟨a, q1, by omega, q3⟩
    · rw [C_skip (by omega) hp] at h
      obtain ⟨a, q1, q2, q3⟩ := ih h
      exact ⟨a, q1, by omega, q3⟩
theorem st_end {M : Int → Int} {n : Int} : ∀ (d : Nat) (a : Int), n - a ≤ d → a < n → ¬ M a = -32768 → ∃ b, a < b ∧ b ≤ n ∧ (∀ k, a ≤ k → k < b → ¬ M k = -32768) ∧ (b = n ∨ M b = -32768)
  | 0, a, h, h1, _ => by omega
  | d + 1, a, h, h1, h2 => by
    by_cases e : a + 1 = n ∨ M (a + 1) = -32768
    · refine ⟨a + 1, by omega, by omega, fun k q1 q2 => by rw [show k = a by omega]; exact h2, e⟩
    · obtain ⟨b, q1, q2, q3, q4⟩ := st_end (M := M) (n := n) d (a + 1) (by omega) (by omega) (fun z => e (Or.inr z))
      refine ⟨b, by omega, q2, fun k z1 z2 => ?_, q4⟩
      by_cases e2 : k = a
      · rw [e2]; exact h2
      · exact q3 k (by omega) z2
theorem SG_ex {I : IN} (hn : 0 ≤ iN I) {s : Int} (h0 : 0 ≤ s) (h1 : s < nS I) : ∃ a b, SG I s a b := by
  obtain ⟨a, q1, q2, q3, q4⟩ := C_nth (p := isS (mM I)) hn h0 h1
  obtain ⟨b, p1, p2, p3, p4⟩ := st_end (M := mM I) (n := iN I) (iN I - a).toNat a (by omega) q2 q3.1
  exact ⟨a, b, q1, p1, p2, q3, q4, p3, p4⟩
theorem SG_uniq {I : IN} {s a b c d : Int} (h1 : SG I s a b) (h2 : SG I s c d) : a = c ∧ b = d := by
  obtain ⟨a1, a2, a3, a4, a5, a6, a7⟩ := h1
  obtain ⟨b1, b2, b3, b4, b5, b6, b7⟩ := h2
  have e : a = c := by
    rcases Int.lt_trichotomy a c with e | e | e
    · have := st_mono a1 e a4; omega
    · exact e
    · have := st_mono b1 e b4; omega
  subst e
  refine ⟨rfl, ?_⟩
  rcases Int.lt_trichotomy b d with e | e | e
  · rcases a7 with z | z
    · omega
    · exact absurd z (b6 b (by omega) e)
  · exact e
  · rcases b7 with z | z
    · omega
    · exact absurd z (a6 d (by omega) e)
noncomputable def fr9 (I : IN) (s : Int) : Int := Classical.epsilon (fun a => ∃ b, SG I s a b)
noncomputable def en9 (I : IN) (s : Int) : Int := Classical.epsilon (fun b => SG I s (fr9 I s) b)
theorem SG_eq {I : IN} {s a b : Int} (h : SG I s a b) : fr9 I s = a ∧ en9 I s = b := by
  obtain ⟨b2, h2⟩ := Classical.epsilon_spec (p := fun a => ∃ b, SG I s a b) ⟨a, b, h⟩
  have e1 : fr9 I s = a := (SG_uniq h2 h).1
  have h3 : SG I s (fr9 I s) b := by rw [e1]; exact h
  have h4 := Classical.epsilon_spec (p := fun b => SG I s (fr9 I s) b) ⟨b, h3⟩
  exact ⟨e1, (SG_uniq h4 h).2⟩
theorem SG_at {I : IN} (hn : 0 ≤ iN I) {s : Int} (h0 : 0 ≤ s) (h1 : s < nS I) : SG I s (fr9 I s) (en9 I s) := by
  obtain ⟨a, b, h⟩ := SG_ex hn h0 h1
  obtain ⟨e1, e2⟩ := SG_eq h
  rw [e1, e2]; exact h
theorem SG_sO {I : IN} {s a b k : Int} (h : SG I s a b) (h1 : a ≤ k) (h2 : k < b) : sO I k = s := by
  obtain ⟨a1, a2, a3, a4, a5, a6, a7⟩ := h
  rw [sO_in (a6 k h1 h2), st_in a1 h1 a4 (fun j q1 q2 => a6 j q1 (by omega))]
  omega
theorem SG_of {I : IN} {k : Int} (h0 : 0 ≤ k) (h1 : k < iN I) (hk : ¬ mM I k = -32768) : 0 ≤ sO I k ∧ sO I k < nS I ∧ SG I (sO I k) (fr9 I (sO I k)) (en9 I (sO I k)) ∧ fr9 I (sO I k) ≤ k ∧ k < en9 I (sO I k) := by
  obtain ⟨a, q1, q2, q3, q4⟩ := st_start h0 hk
  obtain ⟨b, p1, p2, p3, p4⟩ := st_end (M := mM I) (n := iN I) (iN I - k).toNat k (by omega) h1 hk
  have hg : SG I (C (isS (mM I)) 0 a) a b := ⟨q1, by omega, p2, q3, rfl, fun j z1 z2 => by
    by_cases e : j ≤ k
    · exact q4 j z1 e
    · exact p3 j (by omega) z2, p4⟩
  have e := SG_sO hg q2 p1
  rw [e]
  obtain ⟨e1, e2⟩ := SG_eq hg
  rw [e1, e2]
  refine ⟨(C_bound (p := isS (mM I)) q1).1, ?_, hg, q2, p1⟩
  exact st_mono q1 (by omega) q3
theorem SG_lt {I : IN} {s t a b c d : Int} (h1 : SG I s a b) (h2 : SG I t c d) (hst : s < t) : b < c := by
  obtain ⟨a1, a2, a3, a4, a5, a6, a7⟩ := h1
  have h2' := h2
  obtain ⟨b1, b2, b3, b4, b5, b6, b7⟩ := h2
  rcases Int.lt_or_le b c with e | e
  · exact e
  · exfalso
    rcases Int.lt_or_le c a with e2 | e2
    · have := st_mono b1 e2 b4; omega
    · rcases Int.lt_or_le c b with e3 | e3
      · have := SG_sO ⟨a1, a2, a3, a4, a5, a6, a7⟩ e2 e3
        have := SG_sO h2' (Int.le_refl c) b2
        omega
      · have e4 : b = c := by omega
        rcases a7 with z | z
        · omega
        · rw [e4] at z; exact b4.1 z
theorem nS_le {I : IN} (hI : OKI I) : 0 ≤ nS I ∧ nS I ≤ 300 := by
  have h1 := (C_bound (p := isS (mM I)) (a := 0) (b := iN I) hI.1.1).1
  have h2 := (st_half (M := mM I) hI.1.1).1
  have h3 := hI.1.2
  unfold nS
  omega
/-- the class's stretches -/
def CS (I : IN) (h : HP) : Prop := h 4 6 = nS I ∧ (∀ k, 0 ≤ k → k < iN I → h 20 k = sO I k) ∧ ∀ s, 0 ≤ s → s < nS I → h 21 s = fr9 I s ∧ h 22 s = en9 I s - fr9 I s
theorem p_split {X : Nat × (Int → Int)} {h0 : HP} {Q : Int → HP → Prop} {I : IN} (hI : OKI I) (hM : CM I h0)
    (H : ∀ h' : HP, (∀ k i, ¬ (k = 20 ∨ k = 21 ∨ k = 22 ∨ (k = 4 ∧ i = 6)) → h' k i = h0 k i) → CS I h' → Q 0 h') :
    Wd mX6_split X 0 [(2, 4), (0, iN I), (9, 0), (9, 0)] [] h0 Q := by
  have hN := hI.1
  refine vX6_split_0 ?_
  have key : ∀ (d : Nat) (o x : Int) (h : HP), iN I - x < d → 0 ≤ x → x ≤ iN I → (o = 0 ∨ o = 1) → (o = 1 → 0 < x ∧ ¬ mM I (x - 1) = -32768) → (o = 0 → x = 0 ∨ mM I (x - 1) = -32768) → h 4 6 = C (isS (mM I)) 0 x → (∀ k, 0 ≤ k → k < x → h 20 k = sO I k) → (∀ k, x ≤ k → k < iN I → h 20 k = h0 20 k) →
      (∀ a e, 0 ≤ a → isS (mM I) a → a < e → e ≤ x → (∀ k, a ≤ k → k < e → ¬ mM I k = -32768) → (e = x ∨ mM I e = -32768) → h 21 (C (isS (mM I)) 0 a) = a ∧ h 22 (C (isS (mM I)) 0 a) = e - a) → (∀ k i, ¬ (k = 20 ∨ k = 21 ∨ k = 22 ∨ (k = 4 ∧ i = 6)) → h k i = h0 k i) →
      Wd mX6_split X 9 [(2, 4), (0, iN I), (0, o), (0, x)] [] h Q := by
    intro d
    induction d with
    | zero => intro o x h q1 q2 q3; omega
    | succ d ih =>
      intro o x h hd hx0 hx1 ho ho1 ho0 h46 h20 h20' hst hf
      have hcb := C_bound (p := isS (mM I)) (a := 0) (b := x) hx0
      have hhf := st_half (M := mM I) hx0
      refine vX6_split_9 ⟨fun c => ?_, fun c => ?_⟩
      · have e : x = iN I := by omega
        subst e
        refine H h hf ⟨h46, h20, fun s q1 q2 => ?_⟩
        have hg := SG_at hN.1 q1 q2
        obtain ⟨g1, g2, g3, g4, g5, g6, g7⟩ := hg
        have := hst (fr9 I s) (en9 I s) g1 g4 g2 g3 g6 g7
        rw [g5] at this
        exact this
      · have hxn : x < iN I := by omega
        have hcm := hM.1 x hx0 hxn
        have e20 := h20' x (Int.le_refl x) hxn
        refine ⟨hx0, by omega, fun c1 => ?_, fun c1 => ?_⟩
        · -- kept
          have hk : ¬ mM I x = -32768 := by
            rcases hcm with z | z
            · rw [e20] at c1; exact absurd z.1 c1
            · exact z.2.1
          refine ⟨fun c2 => ?_, fun c2 => ⟨fun c3 => ?_, fun c3 => ?_⟩⟩
          · -- goes on
            have ho1' := ho1 (by omega)
            have hns : ¬ isS (mM I) x := fun z => by
              rcases z.2 with z | z
              · omega
              · exact ho1'.2 z
            have es := C_skip (p := isS (mM I)) hx0 hns
            obtain ⟨a0, g1, g2, g3, g4⟩ := st_start (M := mM I) (k := x - 1) (by omega) ho1'.2
            have ein := st_in g1 g2 g3 g4
            rw [show x - 1 + 1 = x by omega] at ein
            have hpos := (C_bound (p := isS (mM I)) (a := 0) (b := a0) g1).1
            have hcur := hst a0 x g1 g3 (by omega) (Int.le_refl x) (fun k q1 q2 => g4 k q1 (by omega)) (Or.inl rfl)
            have e4 : h 4 6 - 1 = C (isS (mM I)) 0 a0 := by omega
            rw [e4]
            refine ⟨by omega, by omega, by omega, by omega, by omega, ?_⟩
            refine ih o (x + 1) _ (by omega) (by omega) (by omega) ho (fun _ => ⟨by omega, by rw [show x + 1 - 1 = x by omega]; exact hk⟩) (fun z => by omega) (by rw [xu_ne (by omega), xu_ne (by omega), h46, es]) (fun k q1 q2 => ?_) (fun k q1 q2 => by rw [xu_ne (by omega), xu_ne (by omega)]; exact h20' k (by omega) q2) (fun a e q1 q2 q3 q4 q5 q6 => ?_) (fun k i q => by rw [xu_ne (by omega), xu_ne (by omega)]; exact hf k i q)
            · by_cases e : k = x
              · rw [xu_ne (by omega), xu_eq rfl e, e, sO_in hk, es]; omega
              · rw [xu_ne (by omega), xu_ne (by omega)]; exact h20 k q1 (by omega)
            · by_cases e1 : e = x + 1
              · have hax : a < x := by
                  rcases Int.lt_or_le a x with z | z
                  · exact z
                  · have : a = x := by omega
                    rw [this] at q2; exact absurd q2 hns
                have ein2 := st_in q1 (show a ≤ x - 1 by omega) q2 (fun j z1 z2 => q5 j z1 (by omega))
                rw [show x - 1 + 1 = x by omega] at ein2
                have ea : a = a0 := by
                  rcases Int.lt_trichotomy a a0 with z | z | z
                  · have := st_mono q1 z q2; omega
                  · exact z
                  · have := st_mono g1 z g3; omega
                subst ea
                rw [xu_ne (by omega), xu_ne (by omega), xu_eq rfl rfl, hcur.2]
                exact ⟨hcur.1, by omega⟩
              · have hre : mM I e = -32768 := by
                  rcases q6 with z | z
                  · omega
                  · exact z
                have hex : e < x := by
                  rcases Int.lt_or_le e x with z | z
                  · exact z
                  · have : e = x := by omega
                    rw [this] at hre; exact absurd hre hk
                have ha0 : a < a0 := by
                  rcases Int.lt_or_le a a0 with z | z
                  · exact z
                  · exact absurd hre (g4 e (by omega) (by omega))
                have := st_mono q1 ha0 q2
                rw [xu_ne (by omega), xu_ne (by omega), xu_ne (by omega), xu_ne (by omega)]
                exact hst a e q1 q2 q3 (by omega) q5 (Or.inr hre)
          · -- too many: never
            have ho0' := ho0 (by omega)
            have := hhf.2 ho0'
            omega
          · -- begins
            have ho0' := ho0 (by omega)
            have hs : isS (mM I) x := ⟨hk, ho0'⟩
            have es := C_succ (p := isS (mM I)) hx0 hs
            have e4 : h 4 6 + 1 - 1 = h 4 6 := by omega
            rw [e4]
            have ev : (xu (xu h 21 (h 4 6) x) 22 (h 4 6) 0) 22 (h 4 6) = 0 := xu_eq rfl rfl
            rw [ev]
            refine ⟨by omega, by omega, by omega, by omega, by omega, by omega, by omega, by omega, ?_⟩
            refine ih 1 (x + 1) _ (by omega) (by omega) (by omega) (Or.inr rfl) (fun _ => ⟨by omega, by rw [show x + 1 - 1 = x by omega]; exact hk⟩) (fun z => by omega) (by rw [xu_ne (by omega), xu_ne (by omega), xu_eq rfl rfl, h46, es]) (fun k q1 q2 => ?_) (fun k q1 q2 => by rw [xu_ne (by omega), xu_ne (by omega), xu_ne (by omega), xu_ne (by omega), xu_ne (by omega)]; exact h20' k (by omega) q2) (fun a e q1 q2 q3 q4 q5 q6 => ?_) (fun k i q => by rw [xu_ne (by omega), xu_ne (by omega), xu_ne (by omega), xu_ne (by omega), xu_ne (by omega)]; exact hf k i q)
            · by_cases e : k = x
              · rw [xu_ne (by omega), xu_eq rfl e, e, sO_in hk, es, h46]; omega
              · rw [xu_ne (by omega), xu_ne (by omega), xu_ne (by omega), xu_ne (by omega), xu_ne (by omega)]; exact h20 k q1 (by omega)
            · by_cases e1 : a = x
              · rw [e1, xu_ne (by omega), xu_ne (by omega), xu_ne (by omega), xu_ne (by omega), xu_eq rfl h46.symm, xu_eq rfl h46.symm]
                exact ⟨rfl, by omega⟩
              · have hax : a < x := by omega
                have hre : e = x ∨ mM I e = -32768 := by
                  by_cases e2 : e = x + 1
                  · exfalso
                    rcases ho0' with z | z
                    · omega
                    · exact q5 (x - 1) (by omega) (by omega) z
                  · rcases q6 with z | z
                    · omega
                    · exact Or.inr z
                have hle : e ≤ x := by
                  by_cases e2 : e = x + 1
                  · exfalso
                    rcases ho0' with z | z
                    · omega
                    · exact q5 (x - 1) (by omega) (by omega) z
                  · omega
                have := st_mono q1 hax q2
                rw [xu_ne (by omega), xu_ne (by omega), xu_ne (by omega), xu_ne (by omega), xu_ne (by omega), xu_ne (by omega), xu_ne (by omega), xu_ne (by omega), xu_ne (by omega), xu_ne (by omega)]
                exact hst a e q1 q2 q3 hle q5 hre
        · -- refused
          have hk : mM I x = -32768 := by
            rcases hcm with z | z
            · exact z.2
            · rw [e20, z.1] at c1; omega
          have hns : ¬ isS (mM I) x := fun z => z.1 hk
          have es := C_skip (p := isS (mM I)) hx0 hns
          refine ⟨by omega, ih 0 (x + 1) h (by omega) (by omega) (by omega) (Or.inl rfl) (fun z => by omega) (fun _ => Or.inr (by rw [show x + 1 - 1 = x by omega]; exact hk)) (by rw [h46, es]) (fun k q1 q2 => ?_) (fun k q1 q2 => h20' k (by omega) q2) (fun a e q1 q2 q3 q4 q5 q6 => ?_) hf⟩
          · by_cases e : k = x
            · rw [e, c1, sO_ref hk]
            · exact h20 k q1 (by omega)
          · have hle : e ≤ x := by
              rcases Int.lt_or_le x e with z | z
              · exact absurd hk (q5 x (by omega) z)
              · exact z
            refine hst a e q1 q2 q3 hle q5 ?_
            by_cases e2 : e = x
            · exact Or.inl e2
            · rcases q6 with z | z
              · omega
              · exact Or.inr z
  refine key (iN I + 1).toNat 0 0 _ (by omega) (by omega) (by omega) (Or.inl rfl) (fun z => by omega) (fun _ => Or.inl rfl) (by rw [xu_eq rfl rfl, C_nil (Int.le_refl 0)]) (fun k q1 q2 => by omega) (fun k q1 q2 => by rw [xu_ne (by omega)]) (fun a e q1 q2 q3 q4 => by omega) (fun k i q => by rw [xu_ne (by omega)])
theorem MS_from {I : IN} (hI : OKI I) {h : HP} (hM : MS I h) {s : Int} (h0 : 0 ≤ s) (h1 : s < nS I) : h 49 s = fr9 I s := by
  obtain ⟨g1, g2, g3, g4, g5, g6, g7⟩ := SG_at hI.1.1 h0 h1
  have := hM.2.2.1 (fr9 I s) g1 (by omega) g4
  rw [g5] at this
  exact this
theorem p_endOf9 {X : Nat × (Int → Int)} {h : HP} {Q : Int → HP → Prop} {I : IN} (hI : OKI I) (hn : h 41 5 = iN I) (hM : MS I h) {s : Int} (h0 : 0 ≤ s) (h1 : s < nS I) (H : Q (en9 I s) h) : Wd mX9_endOf X 0 [(2, 41), (0, s), (9, 0)] [] h Q := by
  have hN := hI.1
  have hns := nS_le hI
  obtain ⟨g1, g2, g3, g4, g5, g6, g7⟩ := SG_at hI.1.1 h0 h1
  refine vX9_endOf_0 ⟨h0, by omega, ?_⟩
  rw [MS_from hI hM h0 h1]
  have key : ∀ (d : Nat) (x : Int), en9 I s - x < d → fr9 I s ≤ x → x ≤ en9 I s → Wd mX9_endOf X 7 [(2, 41), (9, 0), (0, x)] [] h Q := by
    intro d
    induction d with
    | zero => intro x q1 q2 q3; omega
    | succ d ih =>
      intro x q1 q2 q3
      refine vX9_endOf_7 ⟨fun c => ?_, fun c => ?_⟩
      · have : x = en9 I s := by omega
        rw [this]; exact H
      · have e := (hM.1 x (by omega) (by omega)).1
        refine ⟨by omega, by omega, fun c1 => ?_, fun c1 => ?_⟩
        · have : x = en9 I s := by
            rcases Int.lt_or_le x (en9 I s) with z | z
            · rw [e] at c1; exact absurd c1 (g6 x q2 z)
            · omega
          rw [this]; exact H
        · refine ⟨by omega, ih (x + 1) (by omega) (by omega) ?_⟩
          rcases Int.lt_or_le x (en9 I s) with z | z
          · omega
          · exfalso
            have e2 : x = en9 I s := by omega
            rcases g7 with z2 | z2
            · omega
            · rw [e, e2] at c1; exact c1 z2
  exact key (en9 I s - fr9 I s + 1).toNat (fr9 I s) (by omega) (Int.le_refl _) (by omega)

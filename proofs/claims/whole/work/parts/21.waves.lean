/-! waves -/
theorem C_nthA {p : Int → Prop} {a n s : Int} (h0 : a ≤ n) (hs : 0 ≤ s) (h : s < C p a n) : ∃ x, a ≤ x ∧ x < n ∧ p x ∧ C p a x = s := by
  obtain ⟨m, rfl⟩ : ∃ m : Nat, n = a + m := ⟨(n - a).toNat, by omega⟩
  clear h0
  induction m with
  | zero => rw [C_nil (by omega)] at h; omega
  | succ m ih =>
    rw [show a + ((m + 1 : Nat) : Int) = a + m + 1 by omega] at h ⊢
    by_cases hp : p (a + m)
    · rw [C_succ (by omega) hp] at h
      by_cases e : s = C p a (a + m)
      · exact ⟨a + m, by omega, by omega, hp, e.symm⟩
      · obtain ⟨x, q1, q2, q3⟩ := ih (by omega)
        exact ⟨x, q1, by omega, q3⟩
    · rw [C_skip (by omega) hp] at h
      obtain ⟨x, q1, q2, q3⟩ := ih h
      exact ⟨x, q1, by omega, q3⟩
theorem C_lt {p : Int → Prop} {a x y : Int} (h0 : a ≤ x) (hxy : x < y) (hp : p x) : C p a x + 1 ≤ C p a y := by
  rw [C_app (p := p) (a := a) (b := x + 1) (c := y) (by omega) (by omega), C_succ h0 hp]
  have := (C_bound (p := p) (a := x + 1) (b := y) (by omega)).1
  omega
theorem C_none {p : Int → Prop} {a b : Int} (h : C p a b = 0) : ∀ k, a ≤ k → k < b → ¬ p k := fun k q1 q2 q3 => by
  have := C_pos q1 q2 q3
  omega
def Wv (I : IN) (w s c e : Int) : Prop := (0 ≤ s ∧ s < nS I) ∧ (fr9 I s ≤ c ∧ c < e ∧ e < en9 I s) ∧ cr I (iS I 1) s c ∧ cr I (iS I 1) s e ∧ (∀ k, c < k → k < e → ¬ cr I (iS I 1) s k) ∧ w = WB I (iS I 1) s + C (cr I (iS I 1) s) (fr9 I s) c
noncomputable def nW (I : IN) : Int := WB I (iS I 1) (nS I)
theorem WB_mono {I : IN} {b : Int} {s t : Int} (h0 : 0 ≤ s) (h : s ≤ t) : WB I b s ≤ WB I b t := by
  unfold WB
  rw [S_app (f := wv9 I b) h0 h]
  have := S_bound (f := wv9 I b) (lo := 0) (hi := 100000) h
  have k := S_le (f := fun _ => 0) (g := wv9 I b) (a := s) (b := t) (fun i _ _ => by unfold wv9; omega)
  have k2 := S_bound (f := fun _ => 0) (lo := 0) (hi := 0) h (fun i _ _ => by omega)
  omega
theorem Wv_idx {I : IN} (hI : OKI I) {w s c e : Int} (h : Wv I w s c e) : WB I (iS I 1) s ≤ w ∧ w < WB I (iS I 1) (s + 1) ∧ 2 * w + 2 ≤ iN I := by
  obtain ⟨⟨a1, a2⟩, ⟨b1, b2, b3⟩, c1, c2, c3, d⟩ := h
  have k1 := C_lt (p := cr I (iS I 1) s) b1 b2 c1
  have k2 := C_lt (p := cr I (iS I 1) s) (show fr9 I s ≤ e by omega) b3 c2
  have k3 := (C_bound (p := cr I (iS I 1) s) (a := fr9 I s) (b := c) b1).1
  have hb := hI.2.2.2.1
  have k4 := ncr_half hI (b := iS I 1) hb.1 a1 a2
  have k5 := WB_at hI (b := iS I 1) hb.1 a1 (by omega)
  have k6 := k5.2.2 a2
  have e1 : ncr I (iS I 1) s = C (cr I (iS I 1) s) (fr9 I s) (en9 I s) := rfl
  have e2 := WB_succ (I := I) (b := iS I 1) a1
  have e3 : wv9 I (iS I 1) s = max 0 (ncr I (iS I 1) s - 1) := rfl
  obtain ⟨g1, g2, g3, g4, g5, g6, g7⟩ := SG_at hI.1.1 a1 a2
  omega
theorem Wv_lt {I : IN} (hI : OKI I) {w s c e : Int} (h : Wv I w s c e) : 0 ≤ w ∧ w < nW I := by
  have k := Wv_idx hI h
  have hb := hI.2.2.2.1
  have k5 := WB_at hI (b := iS I 1) hb.1 h.1.1 (by have := h.1.2; omega)
  have := WB_mono (I := I) (b := iS I 1) (s := s + 1) (t := nS I) (by have := h.1.1; omega) (by have := h.1.2; omega)
  unfold nW
  omega
theorem Wv_uniq {I : IN} (hI : OKI I) {w s c e s' c' e' : Int} (h1 : Wv I w s c e) (h2 : Wv I w s' c' e') : s = s' ∧ c = c' ∧ e = e' := by
  have k1 := Wv_idx hI h1
  have k2 := Wv_idx hI h2
  have es : s = s' := by
    rcases Int.lt_trichotomy s s' with z | z | z
    · have := WB_mono (I := I) (b := iS I 1) (s := s + 1) (t := s') (by have := h1.1.1; omega) (by omega); omega
    · exact z
    · have := WB_mono (I := I) (b := iS I 1) (s := s' + 1) (t := s) (by have := h2.1.1; omega) (by omega); omega
  subst es
  obtain ⟨⟨a1, a2⟩, ⟨b1, b2, b3⟩, c1, c2, c3, d⟩ := h1
  obtain ⟨-, ⟨b1', b2', b3'⟩, c1', c2', c3', d'⟩ := h2
  have ec : c = c' := by
    rcases Int.lt_trichotomy c c' with z | z | z
    · have := C_lt (p := cr I (iS I 1) s) b1 z c1; omega
    · exact z
    · have := C_lt (p := cr I (iS I 1) s) b1' z c1'; omega
  subst ec
  refine ⟨rfl, rfl, ?_⟩
  rcases Int.lt_trichotomy e e' with z | z | z
  · exact absurd c2 (c3' e b2 z)
  · exact z
  · exact absurd c2' (c3 e' b2' z)
theorem Wv_ex {I : IN} (hI : OKI I) {w : Int} (h0 : 0 ≤ w) (h1 : w < nW I) : ∃ s c e, Wv I w s c e := by
  have hb := hI.2.2.2.1
  have hns := nS_le hI
  -- the stretch
  have key : ∀ n : Nat, (n : Int) ≤ nS I → w < WB I (iS I 1) n → ∃ s : Int, 0 ≤ s ∧ s < n ∧ WB I (iS I 1) s ≤ w ∧ w < WB I (iS I 1) (s + 1) := by
    intro n
    induction n with
    | zero =>
      intro _ q
      unfold WB at q
      rw [S_nil (by omega)] at q
      omega
    | succ n ih =>
      intro hn q
      by_cases e : w < WB I (iS I 1) n
      · obtain ⟨s, q1, q2, q3⟩ := ih (by omega) e
        exact ⟨s, q1, by omega, q3⟩
      · exact ⟨n, by omega, by omega, by omega, by rw [show (n : Int) + 1 = ((n + 1 : Nat) : Int) by omega]; exact q⟩
  obtain ⟨s, q1, q2, q3, q4⟩ := key (nS I).toNat (by omega) (by rw [show (((nS I).toNat : Nat) : Int) = nS I by omega]; exact h1)
  have hs : s < nS I := by omega
  obtain ⟨g1, g2, g3, g4, g5, g6, g7⟩ := SG_at hI.1.1 q1 hs
  rw [WB_succ q1] at q4
  have e3 : wv9 I (iS I 1) s = max 0 (C (cr I (iS I 1) s) (fr9 I s) (en9 I s) - 1) := rfl
  obtain ⟨c, c1, c2, c3, c4⟩ := C_nthA (p := cr I (iS I 1) s) (a := fr9 I s) (n := en9 I s) (s := w - WB I (iS I 1) s) (by omega) (by omega) (by omega)
  obtain ⟨e, d1, d2, d3, d4⟩ := C_nthA (p := cr I (iS I 1) s) (a := fr9 I s) (n := en9 I s) (s := w - WB I (iS I 1) s + 1) (by omega) (by omega) (by omega)
  have hce : c < e := by
    rcases Int.lt_trichotomy c e with z | z | z
    · exact z
    · rw [z] at c4; omega
    · have := C_lt (p := cr I (iS I 1) s) d1 z d3; omega
  refine ⟨s, c, e, ⟨q1, hs⟩, ⟨c1, hce, d2⟩, c3, d3, fun k z1 z2 => ?_, by omega⟩
  have e9 := C_app (p := cr I (iS I 1) s) (a := fr9 I s) (b := c + 1) (c := e) (by omega) (by omega)
  rw [C_succ c1 c3] at e9
  exact C_none (p := cr I (iS I 1) s) (a := c + 1) (b := e) (by omega) k (by omega) z2
noncomputable def wS (I : IN) (w : Int) : Int := Classical.epsilon (fun s => ∃ c e, Wv I w s c e)
noncomputable def wC (I : IN) (w : Int) : Int := Classical.epsilon (fun c => ∃ s e, Wv I w s c e)
noncomputable def wE (I : IN) (w : Int) : Int := Classical.epsilon (fun e => ∃ s c, Wv I w s c e)
theorem Wv_eq {I : IN} (hI : OKI I) {w s c e : Int} (h : Wv I w s c e) : wS I w = s ∧ wC I w = c ∧ wE I w = e := by
  obtain ⟨c1, e1, k1⟩ := Classical.epsilon_spec (p := fun s => ∃ c e, Wv I w s c e) ⟨s, c, e, h⟩
  obtain ⟨s2, e2, k2⟩ := Classical.epsilon_spec (p := fun c => ∃ s e, Wv I w s c e) ⟨c, s, e, h⟩
  obtain ⟨s3, c3, k3⟩ := Classical.epsilon_spec (p := fun e => ∃ s c, Wv I w s c e) ⟨e, s, c, h⟩
  exact ⟨(Wv_uniq hI k1 h).1, (Wv_uniq hI k2 h).2.1, (Wv_uniq hI k3 h).2.2⟩
theorem Wv_at {I : IN} (hI : OKI I) {w : Int} (h0 : 0 ≤ w) (h1 : w < nW I) : Wv I w (wS I w) (wC I w) (wE I w) := by
  obtain ⟨s, c, e, h⟩ := Wv_ex hI h0 h1
  obtain ⟨e1, e2, e3⟩ := Wv_eq hI h
  rw [e1, e2, e3]; exact h
theorem nW_le {I : IN} (hI : OKI I) : 0 ≤ nW I ∧ nW I ≤ 300 := by
  have hb := hI.2.2.2.1
  have := WB_at hI (b := iS I 1) hb.1 (nS_le hI).1 (Int.le_refl _)
  have := hI.1
  unfold nW
  omega
/-- the top of a part: the first of its greatest; its least -/
def TP (f : Int → Int) (c e t : Int) : Prop := c ≤ t ∧ t < e ∧ (∀ j, c ≤ j → j < e → f j ≤ f t) ∧ ∀ j, c ≤ j → j < t → f j < f t
def LS9 (f : Int → Int) (c e v : Int) : Prop := (∃ j, c ≤ j ∧ j < e ∧ f j = v) ∧ ∀ j, c ≤ j → j < e → v ≤ f j
theorem TP_uniq {f : Int → Int} {c e t u : Int} (h1 : TP f c e t) (h2 : TP f c e u) : t = u := by
  obtain ⟨a1, a2, a3, a4⟩ := h1
  obtain ⟨b1, b2, b3, b4⟩ := h2
  rcases Int.lt_trichotomy t u with z | z | z
  · have := b4 t a1 z; have := a3 u b1 b2; omega
  · exact z
  · have := a4 u b1 z; have := b3 t a1 a2; omega
theorem LS9_uniq {f : Int → Int} {c e t u : Int} (h1 : LS9 f c e t) (h2 : LS9 f c e u) : t = u := by
  obtain ⟨⟨j, a1, a2, a3⟩, a4⟩ := h1
  obtain ⟨⟨k, b1, b2, b3⟩, b4⟩ := h2
  have := a4 k b1 b2
  have := b4 j a1 a2
  omega
theorem TP_congr {f g : Int → Int} {c e t : Int} (h : ∀ i, c ≤ i → i < e → f i = g i) (h1 : TP f c e t) : TP g c e t := by
  obtain ⟨a1, a2, a3, a4⟩ := h1
  exact ⟨a1, a2, fun j q1 q2 => by rw [← h j q1 q2, ← h t a1 a2]; exact a3 j q1 q2, fun j q1 q2 => by rw [← h j q1 (by omega), ← h t a1 a2]; exact a4 j q1 q2⟩
theorem LS9_congr {f g : Int → Int} {c e t : Int} (h : ∀ i, c ≤ i → i < e → f i = g i) (h1 : LS9 f c e t) : LS9 g c e t := by
  obtain ⟨⟨j, a1, a2, a3⟩, a4⟩ := h1
  exact ⟨⟨j, a1, a2, by rw [← h j a1 a2]; exact a3⟩, fun j q1 q2 => by rw [← h j q1 q2]; exact a4 j q1 q2⟩
/-! the class -/
theorem p_topIn {X : Nat × (Int → Int)} {h : HP} {Q : Int → HP → Prop} {c e : Int} (hp : IA (h 4 1) 600) (h0 : 0 ≤ c) (h1 : c < e) (h2 : e ≤ 600) (H : ∀ t, TP (h (h 4 1)) c e t → Q t h) : Wd mX6_topIn X 0 [(2, 4), (0, c), (0, e), (9, 0), (9, 0)] [] h Q := by
  refine vX6_topIn_0 ?_
  have key : ∀ (d : Nat) (t x : Int), e - x < d → c ≤ x → x ≤ e → c ≤ t → (t < x ∨ t = c) → (∀ j, c ≤ j → j < x → h (h 4 1) j ≤ h (h 4 1) t) → (∀ j, c ≤ j → j < t → h (h 4 1) j < h (h 4 1) t) → t < e → Wd mX6_topIn X 5 [(2, 4), (9, 0), (0, e), (0, t), (0, x)] [] h Q := by
    intro d
    induction d with
    | zero => intro t x q1 q2 q3; omega
    | succ d ih =>
      intro t x hd hx0 hx1 ht0 ht1 hle hlt hte
      refine vX6_topIn_5 ⟨fun c1 => ?_, fun c1 => ⟨hp, by omega, by omega, by omega, by omega, fun c2 => ⟨by omega, ?_⟩, fun c2 => ⟨by omega, ?_⟩⟩⟩
      · exact H t ⟨ht0, hte, fun j q1 q2 => hle j q1 (by omega), hlt⟩
      · refine ih t (x + 1) (by omega) (by omega) (by omega) ht0 (by omega) (fun j q1 q2 => ?_) hlt hte
        by_cases ej : j = x
        · rw [ej]; exact c2
        · exact hle j q1 (by omega)
      · refine ih x (x + 1) (by omega) (by omega) (by omega) hx0 (by omega) (fun j q1 q2 => ?_) (fun j q1 q2 => ?_) (by omega)
        · by_cases ej : j = x
          · rw [ej]; exact Int.le_refl _
          · have := hle j q1 (by omega); omega
        · have := hle j q1 (by omega); omega
  exact key (e - c + 1).toNat c c (by omega) (Int.le_refl _) (by omega) (Int.le_refl _) (Or.inr rfl) (fun j q1 q2 => by omega) (fun j q1 q2 => by omega) h1
theorem p_leastIn {X : Nat × (Int → Int)} {h : HP} {Q : Int → HP → Prop} {c e : Int} (hp : IA (h 4 1) 600) (h0 : 0 ≤ c) (h1 : c < e) (h2 : e ≤ 600) (H : ∀ v, LS9 (h (h 4 1)) c e v → Q v h) : Wd mX6_leastIn X 0 [(2, 4), (0, c), (0, e), (9, 0), (9, 0)] [] h Q := by
  refine vX6_leastIn_0 ⟨hp, h0, by omega, ?_⟩
  have key : ∀ (d : Nat) (v x : Int), e - x < d → c ≤ x → x ≤ e → (∃ j, c ≤ j ∧ j < e ∧ h (h 4 1) j = v) → (∀ j, c ≤ j → j < x → v ≤ h (h 4 1) j) → Wd mX6_leastIn X 10 [(2, 4), (9, 0), (0, e), (0, v), (0, x)] [] h Q := by
    intro d
    induction d with
    | zero => intro v x q1 q2 q3; omega
    | succ d ih =>
      intro v x hd hx0 hx1 hex hle
      refine vX6_leastIn_10 ⟨fun c1 => ?_, fun c1 => ⟨hp, by omega, by omega, p_min ⟨by omega, ?_⟩⟩⟩
      · exact H v ⟨hex, fun j q1 q2 => hle j q1 (by omega)⟩
      · refine ih _ (x + 1) (by omega) (by omega) (by omega) ?_ (fun j q1 q2 => ?_)
        · rcases Int.le_total v (h (h 4 1) x) with z | z
          · rw [show min v (h (h 4 1) x) = v by omega]; exact hex
          · exact ⟨x, hx0, by omega, by omega⟩
        · by_cases ej : j = x
          · rw [ej]; omega
          · have := hle j q1 (by omega); omega
  exact key (e - c + 1).toNat _ c (by omega) (Int.le_refl _) (by omega) ⟨c, Int.le_refl _, h1, rfl⟩ (fun j q1 q2 => by omega)
/-- a wave as the class keeps it -/
def WR (I : IN) (h : HP) (w s c e : Int) : Prop := h 25 w = c ∧ h 26 w = e - c ∧ h 30 w = s ∧ ∃ t v, TP (sn I) c e t ∧ LS9 (sn I) c e v ∧ h 29 w = t ∧ h 27 w = sn I t - v ∧ h 28 w = sn I t - LV I s
/-- the waves up to a number, of each sample (p: the row) -/
def WO9 (I : IN) (h : HP) (p W : Int) : Prop := ∀ k, 0 ≤ k → k < iN I → (∃ w s c e, w < W ∧ Wv I w s c e ∧ c ≤ k ∧ k < e ∧ h p k = w) ∨ ((∀ w s c e, w < W → Wv I w s c e → ¬ (c ≤ k ∧ k < e)) ∧ h p k = -1)
theorem Wv_in {I : IN} (hI : OKI I) {w s c e : Int} (h : Wv I w s c e) : 0 ≤ c ∧ e < iN I ∧ ∀ k, c ≤ k → k ≤ e → ¬ mM I k = -32768 ∧ sO I k = s := by
  obtain ⟨⟨a1, a2⟩, ⟨b1, b2, b3⟩, -⟩ := h
  have hg := SG_at hI.1.1 a1 a2
  obtain ⟨g1, g2, g3, g4, g5, g6, g7⟩ := id hg
  exact ⟨by omega, by omega, fun k q1 q2 => ⟨g6 k (by omega) (by omega), SG_sO hg (by omega) (by omega)⟩⟩
theorem Wv_dis {I : IN} (hI : OKI I) {w s c e w' s' c' e' k : Int} (h : Wv I w s c e) (h' : Wv I w' s' c' e') (q1 : c ≤ k) (q2 : k < e) (q3 : c' ≤ k) (q4 : k < e') : w = w' := by
  have es := ((Wv_in hI h).2.2 k q1 (by omega)).2
  have es' := ((Wv_in hI h').2.2 k q3 (by omega)).2
  have e1 : s = s' := by omega
  subst e1
  obtain ⟨⟨a1, a2⟩, ⟨b1, b2, b3⟩, c1, c2, c3, d⟩ := h
  obtain ⟨-, ⟨b1', b2', b3'⟩, c1', c2', c3', d'⟩ := h'
  have ec : c = c' := by
    rcases Int.lt_trichotomy c c' with z | z | z
    · exact absurd c1' (c3 c' z (by omega))
    · exact z
    · exact absurd c1 (c3' c z (by omega))
  subst ec
  omega
/-- a wave is laid into the row of the samples' waves -/
theorem WO9_add {I : IN} (hI : OKI I) {h h' : HP} {p W s c e : Int} (H : WO9 I h p W) (hw : Wv I W s c e) (h1 : ∀ k, c ≤ k → k < e → h' p k = W) (h2 : ∀ k, ¬ (c ≤ k ∧ k < e) → h' p k = h p k) : WO9 I h' p (W + 1) := by
  intro k q1 q2
  by_cases z : c ≤ k ∧ k < e
  · exact Or.inl ⟨W, s, c, e, by omega, hw, z.1, z.2, h1 k z.1 z.2⟩
  · rw [h2 k z]
    rcases H k q1 q2 with ⟨w, s2, c2, e2, y1, y2, y3, y4, y5⟩ | ⟨y1, y2⟩
    · exact Or.inl ⟨w, s2, c2, e2, by omega, y2, y3, y4, y5⟩
    · refine Or.inr ⟨fun w s2 c2 e2 z1 z2 z3 => ?_, y2⟩
      by_cases ew : w = W
      · subst ew
        obtain ⟨u1, u2, u3⟩ := Wv_uniq hI hw z2
        subst u2; subst u3
        exact z z3
      · exact y1 w s2 c2 e2 (by omega) z2 z3
/-- what the class keeps of a stretch's waves -/
def HT (I : IN) (h : HP) (s : Int) : Prop := h 31 s = wv9 I (iS I 1) s ∧ (ncr I (iS I 1) s = 0 → h 32 s = en9 I s - fr9 I s ∧ h 33 s = 0) ∧ (∀ c, fr9 I s ≤ c → c < en9 I s → cr I (iS I 1) s c → (∀ k, fr9 I s ≤ k → k < c → ¬ cr I (iS I 1) s k) → h 32 s = c - fr9 I s) ∧ (∀ c, fr9 I s ≤ c → c < en9 I s → cr I (iS I 1) s c → (∀ k, c < k → k < en9 I s → ¬ cr I (iS I 1) s k) → h 33 s = en9 I s - c)
theorem CL.keep {I : IN} {h h' : HP} (H : CL I h) (hf : ∀ k i, ((15 ≤ k ∧ k ≤ 23) ∨ (k = 4 ∧ (i = 1 ∨ i = 6))) → h' k i = h k i) (hL : 0 ≤ iL I ∧ iL I ≤ 4) : CL I h' := by
  obtain ⟨⟨a1, a2, a3⟩, ⟨b1, b2⟩, c⟩ := H
  exact ⟨⟨by rw [hf 4 6 (by omega)]; exact a1, fun k q1 q2 => by rw [hf 20 k (by omega)]; exact a2 k q1 q2, fun s q1 q2 => by rw [hf 21 s (by omega), hf 22 s (by omega)]; exact a3 s q1 q2⟩, ⟨fun l hl k q1 q2 q3 => by rw [hf _ k (by omega)]; exact b1 l hl k q1 q2 q3, by rw [hf 4 1 (by omega)]; exact b2⟩, fun s q1 q2 => by rw [hf 23 s (by omega)]; exact c s q1 q2⟩
theorem p_add7 {X : Nat × (Int → Int)} {h0 : HP} {Q : Int → HP → Prop} {I : IN} (hI : OKI I) (hL : CL I h0) {w s c e : Int} (hw : Wv I w s c e) (h5 : h0 5 10 = w)
    (H : ∀ h' : HP, (∀ k i, ¬ ((k = 24 ∧ c ≤ i ∧ i < e) ∨ ((25 ≤ k ∧ k ≤ 30) ∧ i = w) ∨ (k = 5 ∧ i = 10)) → h' k i = h0 k i) → h' 5 10 = w + 1 → WR I h' w s c e → (∀ k, c ≤ k → k < e → h' 24 k = w) → Q 0 h') : Wd mX7_add X 0 [(2, 5), (2, 4), (0, s), (0, c), (0, e), (9, 0), (9, 0)] [] h0 Q := by
  have hN := hI.1
  have hns := nS_le hI
  have hnw := nW_le hI
  have hwl := Wv_lt hI hw
  have hw2 := (Wv_idx hI hw).2.2
  have hin := Wv_in hI hw
  obtain ⟨⟨a1, a2⟩, ⟨b1, b2, b3⟩, -⟩ := id hw
  obtain ⟨hp, hp2, hsn⟩ := CV_sn hI hL.2.1
  have hlv := hL.2.2 s a1 a2
  have hlb := LV_in hI a1 a2
  have hvs : ∀ k, c ≤ k → k < e → h0 (h0 4 1) k = sn I k := fun k q1 q2 => hsn k (by omega) (by omega) (hin.2.2 k q1 (by omega)).1
  refine vX7_add_0 ⟨fun _ => ?_, fun z => by omega⟩
  refine p_topIn hp (by omega) b2 (by omega) (fun t ht => ?_)
  have htp := TP_congr hvs ht
  rw [h5]
  have htb := sn_in hI (show 0 ≤ t by have := ht.1; omega) (show t < iN I by have := ht.2.1; omega) (hin.2.2 t ht.1 (by have := ht.2.1; omega)).1
  have et := hvs t ht.1 ht.2.1
  have ht0 := ht.1
  have ht1 := ht.2.1
  refine ⟨by omega, by omega, by omega, hp, by omega, by omega, ?_⟩
  generalize hh1 : xu (xu h0 25 w c) 26 w (e - c) = h1
  have f1 : ∀ k i, ¬ ((k = 25 ∨ k = 26) ∧ i = w) → h1 k i = h0 k i := fun k i q => by rw [← hh1, xu_ne (by omega), xu_ne (by omega)]
  have f25 : h1 25 w = c := by rw [← hh1, xu_ne (by omega), xu_eq rfl rfl]
  have f26 : h1 26 w = e - c := by rw [← hh1, xu_eq rfl rfl]
  have e41 : h1 4 1 = h0 4 1 := f1 4 1 (by omega)
  refine p_leastIn (by rw [e41]; exact hp) (by omega) b2 (by omega) (fun v hv => ?_)
  have hls : LS9 (sn I) c e v := LS9_congr (fun i q1 q2 => by rw [e41, f1 _ i (by omega)]; exact hvs i q1 q2) hv
  have hvb : -809919 ≤ v ∧ v ≤ 809919 := by
    obtain ⟨⟨j, y1, y2, y3⟩, -⟩ := hls
    rw [← y3]
    exact sn_in hI (by omega) (by omega) (hin.2.2 j y1 (by omega)).1
  have e1t : h1 (h0 4 1) t = sn I t := by rw [f1 _ t (by omega), et]
  rw [e1t, e41]
  have e2t : (xu h1 27 w (sn I t - v)) (h0 4 1) t = sn I t := by rw [xu_ne (by omega)]; exact e1t
  have e23 : h1 23 s = LV I s := by rw [f1 23 s (by omega)]; exact hlv
  have e510 : h1 5 10 = w := by rw [f1 5 10 (by omega)]; exact h5
  rw [e2t, e23, e510]
  refine ⟨by omega, hp, a1, by omega, by omega, by omega, by omega, ?_⟩
  generalize hh2 : xu (xu (xu (xu h1 27 w (sn I t - v)) 28 w (sn I t - LV I s)) 29 w t) 30 w s = h2
  have f2 : ∀ k i, ¬ ((27 ≤ k ∧ k ≤ 30) ∧ i = w) → h2 k i = h1 k i := fun k i q => by rw [← hh2, xu_ne (by omega), xu_ne (by omega), xu_ne (by omega), xu_ne (by omega)]
  have f27 : h2 27 w = sn I t - v := by rw [← hh2, xu_ne (by omega), xu_ne (by omega), xu_ne (by omega), xu_eq rfl rfl]
  have f28 : h2 28 w = sn I t - LV I s := by rw [← hh2, xu_ne (by omega), xu_ne (by omega), xu_eq rfl rfl]
  have f29 : h2 29 w = t := by rw [← hh2, xu_ne (by omega), xu_eq rfl rfl]
  have f30 : h2 30 w = s := by rw [← hh2, xu_eq rfl rfl]
  have key : ∀ (d : Nat) (x : Int) (h : HP), e - x < d → c ≤ x → x ≤ e → (∀ k i, ¬ (k = 24 ∧ c ≤ i ∧ i < x) → h k i = h2 k i) → (∀ k, c ≤ k → k < x → h 24 k = w) → Wd mX7_add X 116 [(2, 5), (9, 0), (9, 0), (9, 0), (0, e), (9, 0), (0, x)] [] h Q := by
    intro d
    induction d with
    | zero => intro x h q1 q2 q3; omega
    | succ d ih =>
      intro x h hd hx0 hx1 f h24
      have e5 : h 5 10 = w := by rw [f 5 10 (by omega), f2 5 10 (by omega)]; exact e510
      refine vX7_add_116 ⟨fun c1 => ?_, fun c1 => ⟨by omega, by omega, by omega, ?_⟩⟩
      · rw [e5]
        refine ⟨by omega, H _ (fun k i q => ?_) (xu_eq rfl rfl) ?_ (fun k q1 q2 => by rw [xu_ne (by omega)]; exact h24 k q1 (by omega))⟩
        · rw [xu_ne (by omega), f k i (by omega), f2 k i (by omega), f1 k i (by omega)]
        · have g : ∀ k, ¬ k = 5 → ¬ k = 24 → (xu h 5 10 (w + 1)) k w = h2 k w := fun k z1 z2 => by rw [xu_ne (by omega), f k w (by omega)]
          refine ⟨by rw [g 25 (by omega) (by omega), f2 25 w (by omega)]; exact f25, by rw [g 26 (by omega) (by omega), f2 26 w (by omega)]; exact f26, by rw [g 30 (by omega) (by omega)]; exact f30, t, v, htp, hls, by rw [g 29 (by omega) (by omega)]; exact f29, by rw [g 27 (by omega) (by omega)]; exact f27, by rw [g 28 (by omega) (by omega)]; exact f28⟩
      · rw [e5]
        refine ih (x + 1) _ (by omega) (by omega) (by omega) (fun k i q => by rw [xu_ne (by omega)]; exact f k i (by omega)) (fun k q1 q2 => ?_)
        by_cases ek : k = x
        · rw [xu_eq rfl ek]
        · rw [xu_ne (by omega)]; exact h24 k q1 (by omega)
  exact key (e - c + 1).toNat c h2 (by omega) (Int.le_refl _) (by omega) (fun k i _ => rfl) (fun k q1 q2 => by omega)
/-- the class's waves, up to a number, and stretches up to one -/
def CWp (I : IN) (h : HP) (W s : Int) : Prop := h 5 10 = W ∧ (∀ w s c e, w < W → Wv I w s c e → WR I h w s c e) ∧ WO9 I h 24 W ∧ ∀ t, 0 ≤ t → t < s → HT I h t
theorem p_findIn {X : Nat × (Int → Int)} {h0 : HP} {Q : Int → HP → Prop} {I : IN} (hI : OKI I) (hL : CL I h0) {s : Int} (hs0 : 0 ≤ s) (hs1 : s < nS I) (hW : CWp I h0 (WB I (iS I 1) s) s)
    (H : ∀ h' : HP, (∀ k i, ¬ ((24 ≤ k ∧ k ≤ 33) ∨ (k = 5 ∧ i = 10)) → h' k i = h0 k i) → CWp I h' (WB I (iS I 1) (s + 1)) (s + 1) → Q 0 h') : Wd mX7_findIn X 0 [(2, 5), (2, 4), (0, s), (0, iS I 1), (9, 0), (9, 0), (9, 0), (9, 0), (9, 0), (9, 0)] [] h0 Q := by
  have hN := hI.1
  have hns := nS_le hI
  have hbb := hI.2.2.2.1
  have hLl := hI.2.2.2.2.2.2.2.2.2.2.1
  obtain ⟨g1, g2, g3, g4, g5, g6, g7⟩ := SG_at hI.1.1 hs0 hs1
  have hwb := WB_at hI hbb.1 hs0 (show s ≤ nS I by omega)
  have hnc := ncr_half hI hbb.1 hs0 hs1
  have ewv : wv9 I (iS I 1) s = max 0 (ncr I (iS I 1) s - 1) := rfl
  obtain ⟨e21, e22⟩ := hL.1.2.2 s hs0 hs1
  refine vX7_findIn_0 ⟨hs0, by omega, p_endOf6 hI hL.1 hs0 hs1 ?_⟩
  rw [e21, hW.1]
  refine p_nextCrossing hI hL hs0 hs1 hbb.1 hbb.2 (Int.le_refl _) (by omega) AR_0 (fun r hr => ?_)
  -- the loop
  have key : ∀ (d : Nat) (r x : Int) (h : HP), en9 I s - x < d → x ≤ en9 I s → (∀ k i, ¬ ((24 ≤ k ∧ k ≤ 33) ∨ (k = 5 ∧ i = 10)) → h k i = h0 k i) → (∀ t, 0 ≤ t → t < s → HT I h t) → (ncr I (iS I 1) s = 0 → h 32 s = en9 I s - fr9 I s ∧ h 33 s = 0) → (∀ c, fr9 I s ≤ c → c < en9 I s → cr I (iS I 1) s c → (∀ k, fr9 I s ≤ k → k < c → ¬ cr I (iS I 1) s k) → h 32 s = c - fr9 I s) →
      (r = -1 → h 5 10 = WB I (iS I 1) (s + 1) ∧ (∀ w s' c e, w < WB I (iS I 1) (s + 1) → Wv I w s' c e → WR I h w s' c e) ∧ WO9 I h 24 (WB I (iS I 1) (s + 1)) ∧ (∀ c, fr9 I s ≤ c → c < en9 I s → cr I (iS I 1) s c → (∀ k, c < k → k < en9 I s → ¬ cr I (iS I 1) s k) → h 33 s = en9 I s - c)) →
      (¬ r = -1 → (fr9 I s ≤ r ∧ r < en9 I s ∧ cr I (iS I 1) s r) ∧ x = fr9 I s + C (cr I (iS I 1) s) (fr9 I s) r ∧ h 5 10 = WB I (iS I 1) s + C (cr I (iS I 1) s) (fr9 I s) r ∧ (∀ w s' c e, w < WB I (iS I 1) s + C (cr I (iS I 1) s) (fr9 I s) r → Wv I w s' c e → WR I h w s' c e) ∧ WO9 I h 24 (WB I (iS I 1) s + C (cr I (iS I 1) s) (fr9 I s) r)) →
      Wd mX7_findIn X 67 [(2, 5), (2, 4), (0, s), (0, iS I 1), (9, 0), (0, en9 I s), (0, WB I (iS I 1) s), (0, r), (0, x), (9, 0)] [] h Q := by
    intro d
    induction d with
    | zero => intro r x h q1 q2; omega
    | succ d ih =>
      intro r x h hd hx f hht hnc0 hhd hr1 hr2
      have hLh : CL I h := hL.keep (fun k i q => f k i (by omega)) hLl
      have e9 := WB_succ (I := I) (b := iS I 1) hs0
      have fin : r = -1 → inI (h 5 10 - WB I (iS I 1) s) ∧ 0 ≤ s ∧ s < 300 ∧ Q 0 (xu h 31 s (h 5 10 - WB I (iS I 1) s)) := fun z => by
        obtain ⟨y1, y2, y3, y4⟩ := hr1 z
        refine ⟨by omega, hs0, by omega, H _ (fun k i q => by rw [xu_ne (by omega)]; exact f k i q) ⟨by rw [xu_ne (by omega)]; exact y1, fun w s2 c e z1 z2 => ?_, fun k z1 z2 => ?_, fun t z1 z2 => ?_⟩⟩
        · have := y2 w s2 c e z1 z2
          unfold WR
          rw [xu_ne (by omega), xu_ne (by omega), xu_ne (by omega), xu_ne (by omega), xu_ne (by omega), xu_ne (by omega)]
          exact this
        · rw [xu_ne (by omega)]; exact y3 k z1 z2
        · unfold HT
          rw [xu_ne (show ¬ ((32 : Int) = 31 ∧ t = s) by omega), xu_ne (show ¬ ((33 : Int) = 31 ∧ t = s) by omega)]
          by_cases et : t = s
          · subst et
            rw [xu_eq rfl rfl]
            exact ⟨by omega, hnc0, hhd, y4⟩
          · rw [xu_ne (by omega)]
            exact hht t z1 (by omega)
      refine vX7_findIn_67 ⟨fun c1 => fin ?_, fun c1 => ⟨fun c2 => fin c2, fun c2 => ?_⟩⟩
      · by_cases z : r = -1
        · exact z
        · exfalso
          obtain ⟨⟨z1, z2, z3⟩, z4, -⟩ := hr2 z
          have := (C_bound (p := cr I (iS I 1) s) (a := fr9 I s) (b := r) z1).2
          omega
      · obtain ⟨⟨z1, z2, z3⟩, z4, z5, z6, z7⟩ := hr2 c2
        have hcb := C_bound (p := cr I (iS I 1) s) (a := fr9 I s) (b := r) z1
        have es := C_succ (p := cr I (iS I 1) s) z1 z3
        refine ⟨by omega, ?_⟩
        refine p_nextCrossing hI hLh hs0 hs1 hbb.1 hbb.2 (by omega) (by omega) (AR_behind hbb.1 z1 z3) (fun r2 hr3 => ⟨fun c3 => ?_, fun c3 => ?_⟩)
        · -- a wave
          rcases hr3 with ⟨y1, y2⟩ | ⟨y1, y2, y3, y4⟩
          · exact absurd y1 c3
          · have hw : Wv I (WB I (iS I 1) s + C (cr I (iS I 1) s) (fr9 I s) r) s r r2 := ⟨⟨hs0, hs1⟩, ⟨z1, by omega, y2⟩, z3, y3, fun k q1 q2 => y4 k (by omega) q2, rfl⟩
            refine p_add7 hI hLh hw z5 (fun h' u1 u2 u3 u4 => ⟨by omega, ?_⟩)
            have ec : C (cr I (iS I 1) s) (fr9 I s) r2 = C (cr I (iS I 1) s) (fr9 I s) r + 1 := by
              rw [C_app (p := cr I (iS I 1) s) (a := fr9 I s) (b := r + 1) (by omega) y1, es, C_zero (p := cr I (iS I 1) s) (a := r + 1) (b := r2) y4]; omega
            refine ih r2 (x + 1) h' (by omega) (by omega) (fun k i q => by rw [u1 k i (by omega)]; exact f k i q) (fun t q1 q2 => ?_) (fun q => ?_) (fun c q1 q2 q3 q4 => ?_) (fun q => by omega) (fun _ => ?_)
            · have := hht t q1 q2
              unfold HT
              rw [u1 31 t (by omega), u1 32 t (by omega), u1 33 t (by omega)]
              exact this
            · rw [u1 32 s (by omega), u1 33 s (by omega)]; exact hnc0 q
            · rw [u1 32 s (by omega)]; exact hhd c q1 q2 q3 q4
            · rw [ec]
              refine ⟨⟨by omega, y2, y3⟩, by omega, by omega, fun w s2 c e q1 q2 => ?_, ?_⟩
              · by_cases ew : w = WB I (iS I 1) s + C (cr I (iS I 1) s) (fr9 I s) r
                · rw [ew] at q2 ⊢
                  obtain ⟨v1, v2, v3⟩ := Wv_uniq hI hw q2
                  subst v1; subst v2; subst v3
                  exact u3
                · have := z6 w s2 c e (by omega) q2
                  unfold WR
                  rw [u1 25 w (by omega), u1 26 w (by omega), u1 27 w (by omega), u1 28 w (by omega), u1 29 w (by omega), u1 30 w (by omega)]
                  exact this
              · have := WO9_add hI z7 hw u4 (fun k q => u1 24 k (by omega))
                rw [show WB I (iS I 1) s + (C (cr I (iS I 1) s) (fr9 I s) r + 1) = WB I (iS I 1) s + C (cr I (iS I 1) s) (fr9 I s) r + 1 by omega]
                exact this
        · -- the last one
          rcases hr3 with ⟨y1, y2⟩ | ⟨y1, y2, y3, y4⟩
          · have en : ncr I (iS I 1) s = C (cr I (iS I 1) s) (fr9 I s) r + 1 := by
              unfold ncr
              rw [C_app (p := cr I (iS I 1) s) (a := fr9 I s) (b := r + 1) (by omega) (by omega), es, C_zero (p := cr I (iS I 1) s) (a := r + 1) (b := en9 I s) y2]; omega
            have eW : WB I (iS I 1) (s + 1) = WB I (iS I 1) s + C (cr I (iS I 1) s) (fr9 I s) r := by omega
            refine ⟨by omega, hs0, by omega, by omega, ?_⟩
            refine ih r2 (x + 1) _ (by omega) (by omega) (fun k i q => by rw [xu_ne (by omega)]; exact f k i q) (fun t q1 q2 => ?_) (fun q => by omega) (fun c q1 q2 q3 q4 => by rw [xu_ne (by omega)]; exact hhd c q1 q2 q3 q4) (fun _ => ?_) (fun q => absurd c3 q)
            · have := hht t q1 q2
              unfold HT
              rw [xu_ne (by omega), xu_ne (by omega), xu_ne (by omega)]
              exact this
            · rw [eW]
              refine ⟨by rw [xu_ne (by omega)]; exact z5, fun w s2 c e q1 q2 => ?_, fun k q1 q2 => ?_, fun c q1 q2 q3 q4 => ?_⟩
              · have := z6 w s2 c e q1 q2
                unfold WR
                rw [xu_ne (by omega), xu_ne (by omega), xu_ne (by omega), xu_ne (by omega), xu_ne (by omega), xu_ne (by omega)]
                exact this
              · rw [xu_ne (by omega)]; exact z7 k q1 q2
              · have : c = r := by
                  rcases Int.lt_trichotomy c r with u | u | u
                  · exact absurd z3 (q4 r u z2)
                  · exact u
                  · exact absurd q3 (y2 c (by omega) q2)
                rw [xu_eq rfl rfl, this]
          · omega
  -- its start
  have st : ∀ hd : Int, (¬ r = -1 → hd = r - fr9 I s) → (r = -1 → hd = en9 I s - fr9 I s) → Wd mX7_findIn X 67 [(2, 5), (2, 4), (0, s), (0, iS I 1), (9, 0), (0, en9 I s), (0, WB I (iS I 1) s), (0, r), (0, fr9 I s), (9, 0)] [] (xu (xu h0 32 s hd) 33 s 0) Q := fun hd k1 k2 => by
    have f : ∀ k i, ¬ ((k = 32 ∨ k = 33) ∧ i = s) → (xu (xu h0 32 s hd) 33 s 0) k i = h0 k i := fun k i q => by rw [xu_ne (by omega), xu_ne (by omega)]
    have f32 : (xu (xu h0 32 s hd) 33 s 0) 32 s = hd := by rw [xu_ne (by omega), xu_eq rfl rfl]
    have f33 : (xu (xu h0 32 s hd) 33 s 0) 33 s = 0 := xu_eq rfl rfl
    have fR : ∀ w s2 c e, WR I h0 w s2 c e → WR I (xu (xu h0 32 s hd) 33 s 0) w s2 c e := fun w s2 c e z => by
      unfold WR
      rw [f 25 w (by omega), f 26 w (by omega), f 27 w (by omega), f 28 w (by omega), f 29 w (by omega), f 30 w (by omega)]
      exact z
    refine key (en9 I s - fr9 I s + 1).toNat r (fr9 I s) _ (by omega) (by omega) (fun k i q => f k i (by omega)) (fun t q1 q2 => ?_) (fun q => ?_) (fun c q1 q2 q3 q4 => ?_) (fun q => ?_) (fun q => ?_)
    · have := hW.2.2.2 t q1 q2
      unfold HT
      rw [f 31 t (by omega), f 32 t (by omega), f 33 t (by omega)]
      exact this
    · rw [f32, f33]
      refine ⟨k2 ?_, rfl⟩
      rcases hr with ⟨y1, y2⟩ | ⟨y1, y2, y3, y4⟩
      · exact y1
      · have := C_pos (p := cr I (iS I 1) s) y1 y2 y3
        unfold ncr at q; omega
    · rw [f32]
      rcases hr with ⟨y1, y2⟩ | ⟨y1, y2, y3, y4⟩
      · exact absurd q3 (y2 c q1 q2)
      · have : c = r := by
          rcases Int.lt_trichotomy c r with u | u | u
          · exact absurd q3 (y4 c q1 u)
          · exact u
          · exact absurd y3 (q4 r y1 u)
        rw [this]; exact k1 (by omega)
    · rcases hr with ⟨y1, y2⟩ | ⟨y1, y2, y3, y4⟩
      · have e0 : ncr I (iS I 1) s = 0 := C_zero (p := cr I (iS I 1) s) y2
        have eW : WB I (iS I 1) (s + 1) = WB I (iS I 1) s := by rw [WB_succ hs0]; omega
        rw [eW]
        exact ⟨by rw [f 5 10 (by omega)]; exact hW.1, fun w s2 c e z1 z2 => fR w s2 c e (hW.2.1 w s2 c e z1 z2), fun k z1 z2 => by rw [f 24 k (by omega)]; exact hW.2.2.1 k z1 z2, fun c z1 z2 z3 => absurd z3 (y2 c z1 z2)⟩
      · omega
    · rcases hr with ⟨y1, y2⟩ | ⟨y1, y2, y3, y4⟩
      · exact absurd y1 q
      · have e0 : C (cr I (iS I 1) s) (fr9 I s) r = 0 := C_zero (p := cr I (iS I 1) s) y4
        rw [e0, show WB I (iS I 1) s + 0 = WB I (iS I 1) s by omega]
        exact ⟨⟨y1, y2, y3⟩, by omega, by rw [f 5 10 (by omega)]; exact hW.1, fun w s2 c e z1 z2 => fR w s2 c e (hW.2.1 w s2 c e z1 z2), fun k z1 z2 => by rw [f 24 k (by omega)]; exact hW.2.2.1 k z1 z2⟩
  have hrb : r = -1 ∨ (fr9 I s ≤ r ∧ r < en9 I s) := by
    rcases hr with ⟨y1, -⟩ | ⟨y1, y2, -⟩
    · exact Or.inl y1
    · exact Or.inr ⟨y1, y2⟩
  exact ⟨fun c1 => ⟨by omega, st _ (fun _ => rfl) (fun z => absurd z c1)⟩, fun c1 => ⟨by omega, st _ (fun z => absurd c1 z) (fun _ => rfl)⟩⟩
/-- the class's waves -/
def CW (I : IN) (h : HP) : Prop := CWp I h (nW I) (nS I)
theorem p_find7 {X : Nat × (Int → Int)} {h0 : HP} {Q : Int → HP → Prop} {I : IN} (hI : OKI I) (hL : CL I h0)
    (H : ∀ h' : HP, (∀ k i, ¬ ((24 ≤ k ∧ k ≤ 33) ∨ (k = 5 ∧ i = 10)) → h' k i = h0 k i) → CW I h' → Q 0 h') : Wd mX7_find X 0 [(2, 5), (2, 4), (0, iN I), (0, iS I 1), (9, 0)] [] h0 Q := by
  have hN := hI.1
  have hns := nS_le hI
  have hLl := hI.2.2.2.2.2.2.2.2.2.2.1
  refine vX7_find_0 ?_
  have L31 : ∀ (d : Nat) (s : Int) (h : HP), nS I - s < d → 0 ≤ s → s ≤ nS I → (∀ k i, ¬ ((24 ≤ k ∧ k ≤ 33) ∨ (k = 5 ∧ i = 10)) → h k i = h0 k i) → CWp I h (WB I (iS I 1) s) s → Wd mX7_find X 31 [(2, 5), (2, 4), (9, 0), (0, iS I 1), (0, s)] [] h Q := by
    intro d
    induction d with
    | zero => intro s h q1 q2 q3; omega
    | succ d ih =>
      intro s h hd hs0 hs1 f hw
      have hLh : CL I h := hL.keep (fun k i q => f k i (by omega)) hLl
      have e46 := hLh.1.1
      refine vX7_find_31 ⟨fun c => ?_, fun c => ?_⟩
      · have e : s = nS I := by omega
        subst e
        exact H h f hw
      · refine p_findIn hI hLh hs0 (by omega) hw (fun h' u1 u2 => ⟨by omega, ih (s + 1) h' (by omega) (by omega) (by omega) (fun k i q => by rw [u1 k i q]; exact f k i q) u2⟩)
  have L8 : ∀ (d : Nat) (x : Int) (h : HP), iN I - x < d → 0 ≤ x → x ≤ iN I → (∀ k i, ¬ ((24 ≤ k ∧ k ≤ 33) ∨ (k = 5 ∧ i = 10)) → h k i = h0 k i) → h 5 10 = 0 → (∀ j, 0 ≤ j → j < x → h 24 j = -1) → Wd mX7_find X 8 [(2, 5), (2, 4), (0, iN I), (0, iS I 1), (0, x)] [] h Q := by
    intro d
    induction d with
    | zero => intro x h q1 q2 q3; omega
    | succ d ih =>
      intro x h hd hx0 hx1 f h5 h24
      refine vX7_find_8 ⟨fun c => ?_, fun c => ⟨hx0, by omega, by omega, ?_⟩⟩
      · have e0 : WB I (iS I 1) 0 = 0 := S_nil (Int.le_refl 0)
        refine L31 (nS I + 1).toNat 0 h (by omega) (by omega) (by omega) f ⟨by rw [e0]; exact h5, fun w s c e q1 q2 => ?_, fun k q1 q2 => Or.inr ⟨fun w s c e q3 q4 => ?_, h24 k q1 (by omega)⟩, fun t q1 q2 => by omega⟩
        · have := (Wv_lt hI q2).1; omega
        · have := (Wv_lt hI q4).1; omega
      · refine ih (x + 1) _ (by omega) (by omega) (by omega) (fun k i q => by rw [xu_ne (by omega)]; exact f k i q) (by rw [xu_ne (by omega)]; exact h5) (fun j q1 q2 => ?_)
        by_cases e : j = x
        · rw [xu_eq rfl e]
        · rw [xu_ne (by omega)]; exact h24 j q1 (by omega)
  exact L8 (iN I + 1).toNat 0 _ (by omega) (by omega) (by omega) (fun k i q => by rw [xu_ne (by omega)]) (xu_eq rfl rfl) (fun j q1 q2 => by omega)

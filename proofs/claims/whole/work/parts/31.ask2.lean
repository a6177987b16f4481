/-! stretch -/
def GT9 (f : Int → Int) (c e v : Int) : Prop := (∃ j, c ≤ j ∧ j < e ∧ f j = v) ∧ ∀ j, c ≤ j → j < e → f j ≤ v
theorem GT9_uniq {f : Int → Int} {c e t u : Int} (h1 : GT9 f c e t) (h2 : GT9 f c e u) : t = u := by
  obtain ⟨⟨j, a1, a2, a3⟩, a4⟩ := h1
  obtain ⟨⟨i, b1, b2, b3⟩, b4⟩ := h2
  have := a4 i b1 b2
  have := b4 j a1 a2
  omega
noncomputable def gS (I : IN) (s : Int) : Int := Classical.epsilon (GT9 (sn I) (fr9 I s) (en9 I s))
noncomputable def lS (I : IN) (s : Int) : Int := Classical.epsilon (LS9 (sn I) (fr9 I s) (en9 I s))
theorem gS_of {I : IN} {s v : Int} (h : GT9 (sn I) (fr9 I s) (en9 I s) v) : v = gS I s := GT9_uniq h (Classical.epsilon_spec (p := GT9 (sn I) (fr9 I s) (en9 I s)) ⟨v, h⟩)
theorem lS_of {I : IN} {s v : Int} (h : LS9 (sn I) (fr9 I s) (en9 I s) v) : v = lS I s := LS9_uniq h (Classical.epsilon_spec (p := LS9 (sn I) (fr9 I s) (en9 I s)) ⟨v, h⟩)
def FC (I : IN) (s c : Int) : Prop := fr9 I s ≤ c ∧ c < en9 I s ∧ cr I (iS I 1) s c ∧ ∀ k, fr9 I s ≤ k → k < c → ¬ cr I (iS I 1) s k
def LC (I : IN) (s c : Int) : Prop := fr9 I s ≤ c ∧ c < en9 I s ∧ cr I (iS I 1) s c ∧ ∀ k, c < k → k < en9 I s → ¬ cr I (iS I 1) s k
theorem FC_ex {I : IN} (hI : OKI I) {s : Int} (h0 : 0 ≤ s) (h1 : s < nS I) (h : ¬ ncr I (iS I 1) s = 0) : (∃ c, FC I s c) ∧ ∃ c, LC I s c := by
  have hb := hI.2.2.2.1
  have hs := SG_at hI.1.1 h0 h1
  have hc := ncr_half hI hb.1 h0 h1
  unfold ncr at h hc
  constructor
  · obtain ⟨x, x1, x2, x3, x4⟩ := C_nthA (p := cr I (iS I 1) s) (a := fr9 I s) (n := en9 I s) (s := 0) (by have := hs.2.1; omega) (by omega) (by omega)
    exact ⟨x, x1, x2, x3, C_none x4⟩
  · obtain ⟨x, x1, x2, x3, x4⟩ := C_nthA (p := cr I (iS I 1) s) (a := fr9 I s) (n := en9 I s) (s := C (cr I (iS I 1) s) (fr9 I s) (en9 I s) - 1) (by have := hs.2.1; omega) (by omega) (by omega)
    refine ⟨x, x1, x2, x3, fun k q1 q2 q3 => ?_⟩
    have a1 := C_lt (p := cr I (iS I 1) s) (a := fr9 I s) (x := x) (y := k) x1 q1 x3
    have a2 := C_lt (p := cr I (iS I 1) s) (a := fr9 I s) (x := k) (y := en9 I s) (by omega) q2 q3
    omega
noncomputable def fc9 (I : IN) (s : Int) : Int := Classical.epsilon (FC I s)
noncomputable def lc9 (I : IN) (s : Int) : Int := Classical.epsilon (LC I s)
noncomputable def tA (I : IN) (s x : Int) : Int := if x = 0 then fr9 I s else if x = 1 then en9 I s - fr9 I s else if x = 2 then LV I s else if x = 3 then wv9 I (iS I 1) s else if x = 4 then (if ncr I (iS I 1) s = 0 then en9 I s - fr9 I s else fc9 I s - fr9 I s) else if x = 5 then (if ncr I (iS I 1) s = 0 then 0 else en9 I s - lc9 I s) else if x = 6 then gS I s else if x = 7 then lS I s else -1
theorem tA_no {I : IN} {s x : Int} (c : x < 0 ∨ 7 < x) : tA I s x = -1 := by
  unfold tA
  rw [if_neg (by omega), if_neg (by omega), if_neg (by omega), if_neg (by omega), if_neg (by omega), if_neg (by omega), if_neg (by omega), if_neg (by omega)]
theorem p_extreme {X : Nat × (Int → Int)} {h : HP} {Q : Int → HP → Prop} {I : IN} (hI : OKI I) (hL : ML I h) {s g : Int} (h0 : 0 ≤ s) (h1 : s < nS I) (H1 : ¬ g = 0 → ∀ v, GT9 (sn I) (fr9 I s) (en9 I s) v → Q v h) (H0 : g = 0 → ∀ v, LS9 (sn I) (fr9 I s) (en9 I s) v → Q v h) : Wd mX9_extreme X 0 [(2, 41), (0, s), (0, g), (9, 0), (9, 0)] [] h Q := by
  have hn := hI.1
  have hs := SG_at hI.1.1 h0 h1
  have hns := nS_le hI
  have e49 := MS_from hI hL.2.1 h0 h1
  have hv : ∀ k, fr9 I s ≤ k → k < en9 I s → h 50 k = sn I k := fun k q1 q2 => hL.2.2 k (by have := hs.1; omega) (by have := hs.2.2.1; omega) (hs.2.2.2.2.2.1 k q1 q2)
  have ha := hs.1
  have hb := hs.2.1
  have hc := hs.2.2.1
  have key : ∀ (d : Nat) (v x : Int), en9 I s - x < d → fr9 I s ≤ x → x ≤ en9 I s → (∃ j, fr9 I s ≤ j ∧ j < en9 I s ∧ sn I j = v) → (¬ g = 0 → ∀ j, fr9 I s ≤ j → j < x → sn I j ≤ v) → (g = 0 → ∀ j, fr9 I s ≤ j → j < x → v ≤ sn I j) → Wd mX9_extreme X 20 [(2, 41), (0, s), (0, g), (0, v), (0, x)] [] h Q := by
    intro d
    induction d with
    | zero => intro v x q1 q2 q3; omega
    | succ d ih =>
      intro v x hd hx0 hx1 he hg hl
      have fin : x = en9 I s → Q v h := fun ex => by
        subst ex
        by_cases z : g = 0
        · exact H0 z v ⟨he, hl z⟩
        · exact H1 z v ⟨he, hg z⟩
      refine vX9_extreme_20 ⟨fun c => fin (by have := hL.1.1; omega), fun c => ?_⟩
      have e5 := hL.1.1
      have hin := ML_in hI hL h0 h1 hx0 hx1 (by omega)
      refine ⟨by omega, by omega, fun c1 => fin ?_, fun c1 => ?_⟩
      · rw [hin] at c1; omega
      · rw [hin] at c1
        rw [hv x hx0 c1]
        refine ⟨fun c2 => ⟨fun c3 => ⟨by omega, ?_⟩, fun c3 => ⟨by omega, ?_⟩⟩, fun c2 => ⟨fun c3 => ⟨by omega, ?_⟩, fun c3 => ⟨by omega, ?_⟩⟩⟩
        · refine ih v (x + 1) (by omega) (by omega) (by omega) he (fun z => absurd c2 z) (fun _ j q1 q2 => ?_)
          by_cases e : j = x
          · rw [e]; exact c3
          · exact hl c2 j q1 (by omega)
        · refine ih _ (x + 1) (by omega) (by omega) (by omega) ⟨x, hx0, c1, rfl⟩ (fun z => absurd c2 z) (fun _ j q1 q2 => ?_)
          by_cases e : j = x
          · rw [e]; exact Int.le_refl _
          · have := hl c2 j q1 (by omega); omega
        · refine ih v (x + 1) (by omega) (by omega) (by omega) he (fun _ j q1 q2 => ?_) (fun z => absurd z c2)
          by_cases e : j = x
          · rw [e]; exact c3
          · exact hg c2 j q1 (by omega)
        · refine ih _ (x + 1) (by omega) (by omega) (by omega) ⟨x, hx0, c1, rfl⟩ (fun _ j q1 q2 => ?_) (fun z => absurd z c2)
          by_cases e : j = x
          · rw [e]; exact Int.le_refl _
          · have := hg c2 j q1 (by omega); omega
  refine vX9_extreme_0 ?_
  rw [e49, hv (fr9 I s) (Int.le_refl _) hb]
  exact ⟨h0, by omega, ha, by omega, key (en9 I s - fr9 I s + 1).toNat _ _ (by omega) (Int.le_refl _) (by omega) ⟨fr9 I s, Int.le_refl _, hb, rfl⟩ (fun _ j q1 q2 => by omega) (fun _ j q1 q2 => by omega)⟩
theorem m_stretch {X : Nat × (Int → Int)} {h : HP} {I : IN} {nm : Int → Int} (hI : OKI I) (hC : CIn I h) (hM : MIn I h) (hN : NM (iN I) nm h) (hso : SO h) (hst : h 0 8 = 0 → CD I h) {s x r : Int} (hr1 : 0 ≤ s → s < nS I → r = tA I s x) (hr0 : ¬ (0 ≤ s ∧ s < nS I) → r = -1) : Wd mX9_stretch X 0 [(2, 41), (0, s), (0, x), (9, 0), (9, 0)] [] h (fun r2 h2 => r = r2 ∧ RL9 h2) := by
  have hn := hI.1
  have hns := nS_le hI
  refine vX9_stretch_0 (q_lays hI hC hM hN hso hst (fun h1' c1 n1 x1 v1 rl => ?_))
  have rl1 : RL9 h1' := rl h1' (fun _ _ _ => rfl)
  have s1 := x1.1.2.1
  rw [s1.2.1]
  refine ⟨by omega, p_isIn (fun h0 h1 => ⟨fun _ => ⟨h0, by omega, ?_⟩, fun z => by omega⟩) (fun z => ⟨fun y => absurd rfl y, fun _ => ⟨hr0 (fun y => by omega), rl1⟩⟩)⟩
  have h1 : s < nS I := by omega
  rw [hr1 h0 h1, MS_from hI s1 h0 h1]
  have hs := SG_at hI.1.1 h0 h1
  have ha := hs.1
  have hb := hs.2.1
  have hc := hs.2.2.1
  obtain ⟨w1, w2, w3, w4⟩ := x1.2.2.2.2.2 s h0 h1
  have nh := ncr_half hI hI.2.2.2.1.1 h0 h1
  have eF : ¬ ncr I (iS I 1) s = 0 → h1' 54 s = fc9 I s ∧ h1' 55 s = lc9 I s ∧ (fr9 I s ≤ fc9 I s ∧ fc9 I s < en9 I s) ∧ (fr9 I s ≤ lc9 I s ∧ lc9 I s < en9 I s) := fun z => by
    obtain ⟨e1, e2⟩ := FC_ex hI h0 h1 z
    have e1 := Classical.epsilon_spec e1
    have e2 := Classical.epsilon_spec e2
    exact ⟨w3 _ e1.1 e1.2.1 e1.2.2.1 e1.2.2.2, w4 _ e2.1 e2.2.1 e2.2.2.1 e2.2.2.2, ⟨e1.1, e1.2.1⟩, ⟨e2.1, e2.2.1⟩⟩
  refine p_endOf9 hI x1.1.1.1 s1 h0 h1 ?_
  refine ⟨fun c => ⟨tA_no c, rl1⟩, fun c => ⟨by rw [c]; rfl, rl1⟩, fun c => ⟨by omega, by rw [c]; rfl, rl1⟩, fun c => ⟨by rw [c, w1]; rfl, rl1⟩, fun c => ?_, fun c => ?_, fun c => ?_, fun c => p_extreme hI x1.1 h0 h1 (fun _ v hv => ⟨by rw [c, gS_of hv]; rfl, rl1⟩) (fun z => by omega), fun c => p_extreme hI x1.1 h0 h1 (fun z => absurd rfl z) (fun _ v hv => ⟨by rw [c, lS_of hv]; rfl, rl1⟩)⟩
  · rw [w2]
    refine ⟨fun c1 => ⟨?_, rl1⟩, fun c1 => ⟨by omega, ?_, rl1⟩⟩
    · rw [c]
      show max 0 (ncr I (iS I 1) s - 1) = 0
      omega
    · rw [c]
      show max 0 (ncr I (iS I 1) s - 1) = _
      omega
  · rw [w2]
    refine ⟨fun c1 => ?_, fun c1 => ⟨by omega, ?_, rl1⟩⟩
    · obtain ⟨e1, e2, e3, e4⟩ := eF c1
      rw [e1]
      refine ⟨by omega, ?_, rl1⟩
      rw [c]
      show (if ncr I (iS I 1) s = 0 then en9 I s - fr9 I s else fc9 I s - fr9 I s) = _
      rw [if_neg c1]
    · rw [c]
      show (if ncr I (iS I 1) s = 0 then en9 I s - fr9 I s else fc9 I s - fr9 I s) = _
      rw [if_pos c1]
  · rw [w2]
    refine ⟨fun c1 => ?_, fun c1 => ⟨?_, rl1⟩⟩
    · obtain ⟨e1, e2, e3, e4⟩ := eF c1
      rw [e2]
      refine ⟨by omega, ?_, rl1⟩
      rw [c]
      show (if ncr I (iS I 1) s = 0 then 0 else en9 I s - lc9 I s) = _
      rw [if_neg c1]
    · rw [c]
      show (if ncr I (iS I 1) s = 0 then 0 else en9 I s - lc9 I s) = _
      rw [if_pos c1]
theorem o_stretch {X : Nat × (Int → Int)} {h : HP} {s x : Int} (H : RL9 h) : Wd mX8_stretch X 0 [(2, 0), (0, s), (0, x)] [] h (fun r h1 => Wd mX9_stretch X 0 [(2, 41), (0, s), (0, x), (9, 0), (9, 0)] [] h1 (fun r2 h2 => r = r2 ∧ RL9 h2)) := by
  obtain ⟨I, nm, hI, hC, hM, hN, hso, hst⟩ := H
  have hn := hI.1
  have hns := nS_le hI
  refine vX8_stretch_0 (q_both hI hC hM hN hso hst (fun h1' c1 m1 n1 so1 z1 d1 => ?_))
  refine p_has6 d1.1.1.1 (fun h0 h1 => ⟨fun _ => ?_, fun z => by omega⟩) (fun z => ⟨fun y => absurd rfl y, fun _ => m_stretch hI c1 m1 n1 so1 (fun _ => d1) (fun y1 y2 => absurd ⟨y1, y2⟩ z) (fun _ => rfl)⟩)
  have mc : ∀ {r : Int}, r = tA I s x → Wd mX9_stretch X 0 [(2, 41), (0, s), (0, x), (9, 0), (9, 0)] [] h1' (fun r2 h2 => r = r2 ∧ RL9 h2) := fun hr => m_stretch hI c1 m1 n1 so1 (fun _ => d1) (fun _ _ => hr) (fun z => absurd ⟨h0, h1⟩ z)
  have hs := SG_at hI.1.1 h0 h1
  have ha := hs.1
  have hb := hs.2.1
  have hc := hs.2.2.1
  obtain ⟨t1, t2, t3, t4⟩ := d1.2.1.2.2.2 s h0 h1
  have e21 := (d1.1.1.2.2 s h0 h1).1
  have e22 := (d1.1.1.2.2 s h0 h1).2
  obtain ⟨cv1, cv2, cv3⟩ := CV_sn hI d1.1.2.1
  have hv : ∀ k, fr9 I s ≤ k → k < en9 I s → h1' (h1' 4 1) k = sn I k := fun k q1 q2 => cv3 k (by omega) (by omega) (hs.2.2.2.2.2.1 k q1 q2)
  refine ⟨fun c => mc (tA_no c).symm, fun c => ⟨h0, by omega, mc ?_⟩, fun c => ⟨h0, by omega, mc ?_⟩, fun c => ⟨h0, by omega, mc ?_⟩, fun c => ⟨h0, by omega, mc ?_⟩, fun c => ⟨h0, by omega, mc ?_⟩, fun c => ⟨h0, by omega, mc ?_⟩, fun c => ⟨h0, by omega, p_endOf6 hI d1.1.1 h0 h1 ?_⟩, fun c => ⟨h0, by omega, p_endOf6 hI d1.1.1 h0 h1 ?_⟩⟩
  · rw [c, e21]; rfl
  · rw [c, e22]; rfl
  · rw [c, d1.1.2.2 s h0 h1]; rfl
  · rw [c, t1]; rfl
  · rw [c]
    show _ = (if ncr I (iS I 1) s = 0 then en9 I s - fr9 I s else fc9 I s - fr9 I s)
    by_cases z : ncr I (iS I 1) s = 0
    · rw [if_pos z]; exact (t2 z).1
    · rw [if_neg z]
      have e1 := Classical.epsilon_spec (FC_ex hI h0 h1 z).1
      exact t3 _ e1.1 e1.2.1 e1.2.2.1 e1.2.2.2
  · rw [c]
    show _ = (if ncr I (iS I 1) s = 0 then 0 else en9 I s - lc9 I s)
    by_cases z : ncr I (iS I 1) s = 0
    · rw [if_pos z]; exact (t2 z).2
    · rw [if_neg z]
      have e1 := Classical.epsilon_spec (FC_ex hI h0 h1 z).2
      exact t4 _ e1.1 e1.2.1 e1.2.2.1 e1.2.2.2
  · rw [e21]
    refine p_topIn cv1 ha hb (by omega) (fun t ht => ⟨cv1, by have := ht.1; omega, by have := ht.2.1; omega, mc ?_⟩)
    have ht' := TP_congr hv ht
    rw [c, hv t ht.1 ht.2.1]
    show sn I t = gS I s
    exact gS_of ⟨⟨t, ht'.1, ht'.2.1, rfl⟩, ht'.2.2.1⟩
  · rw [e21]
    refine p_leastIn cv1 ha hb (by omega) (fun v hv' => mc ?_)
    rw [c]
    exact lS_of (LS9_congr hv hv')
/-! wave -/
noncomputable def b01 (p : Prop) : Int := @ite Int p (Classical.propDecidable _) 1 0
theorem b01_t {p : Prop} (h : p) : b01 p = 1 := by unfold b01; rw [if_pos h]
theorem b01_f {p : Prop} (h : ¬ p) : b01 p = 0 := by unfold b01; rw [if_neg h]
noncomputable def gO (I : IN) (w : Int) : Int := Classical.epsilon (GO I w)
theorem gO_of {I : IN} (hI : OKI I) {w g : Int} (hw : w < nW I) (h : GO I w g) : g = gO I w := GO_uniq hI hw h (Classical.epsilon_spec (p := GO I w) ⟨g, h⟩)
/-- the least name from a to b -/
def LN (nm : Int → Int) (a b v : Int) : Prop := (v = -1 ∧ ∀ j, a ≤ j → j < b → nm j = 0) ∨ ((∃ j, a ≤ j ∧ j < b ∧ nm j = v) ∧ ¬ v = 0 ∧ ¬ v = -1 ∧ ∀ j, a ≤ j → j < b → ¬ nm j = 0 → v ≤ nm j)
theorem LN_uniq {nm : Int → Int} {a b v u : Int} (h1 : LN nm a b v) (h2 : LN nm a b u) : v = u := by
  rcases h1 with ⟨a1, a2⟩ | ⟨⟨j, a1, a2, a3⟩, a4, a6, a5⟩ <;> rcases h2 with ⟨b1, b2⟩ | ⟨⟨i, b1, b2, b3⟩, b4, b6, b5⟩
  · rw [a1, b1]
  · have := a2 i b1 b2; omega
  · have := b2 j a1 a2; omega
  · have := a5 i b1 b2 (by omega)
    have := b5 j a1 a2 (by omega)
    omega
noncomputable def nL (I : IN) (nm : Int → Int) (w : Int) : Int := Classical.epsilon (LN nm (wC I w) (wE I w))
theorem nL_of {I : IN} {nm : Int → Int} {w v : Int} (h : LN nm (wC I w) (wE I w) v) : v = nL I nm w := LN_uniq h (Classical.epsilon_spec (p := LN nm (wC I w) (wE I w)) ⟨v, h⟩)
theorem p_leastNameIn {X : Nat × (Int → Int)} {h : HP} {Q : Int → HP → Prop} {n a b : Int} {nm : Int → Int} (e : h 3 2 = n) (hn : n ≤ 600) (hN : NM n nm h) (h0 : 0 ≤ a) (h1 : a ≤ b) (h2 : b ≤ n) (H : ∀ v, LN nm a b v → Q v h) : Wd mX3_leastNameIn X 0 [(2, 3), (0, a), (0, b), (9, 0), (9, 0), (9, 0)] [] h Q := by
  have key : ∀ (d : Nat) (v x : Int), b - x < d → a ≤ x → x ≤ b → LN nm a x v → Wd mX3_leastNameIn X 5 [(2, 3), (9, 0), (0, b), (0, v), (0, x), (9, 0)] [] h Q := by
    intro d
    induction d with
    | zero => intro v x q1 q2 q3; omega
    | succ d ih =>
      intro v x hd hx0 hx1 hv
      refine vX3_leastNameIn_5 ⟨fun c => H v (by rw [show b = x by omega]; exact hv), fun c => p_nameAt e hn hN.c (by omega) (by omega) ?_⟩
      have hr := hN.o.1 x (by omega) (by omega)
      by_cases z : nm x = 0
      · rw [if_pos z]
        refine ⟨fun _ => ⟨by omega, ih v (x + 1) (by omega) (by omega) (by omega) ?_⟩, fun y => absurd rfl y⟩
        rcases hv with ⟨a1, a2⟩ | ⟨⟨j, a1, a2, a3⟩, a4, a6, a5⟩
        · refine Or.inl ⟨a1, fun j q1 q2 => ?_⟩
          by_cases y : j = x
          · rw [y]; exact z
          · exact a2 j q1 (by omega)
        · refine Or.inr ⟨⟨j, a1, by omega, a3⟩, a4, a6, fun j q1 q2 q3 => ?_⟩
          by_cases y : j = x
          · rw [y] at q3; exact absurd z q3
          · exact a5 j q1 (by omega) q3
      · rw [if_neg z]
        refine ⟨fun y => by omega, fun _ => ⟨fun c1 => ⟨by omega, ih _ (x + 1) (by omega) (by omega) (by omega) ?_⟩, fun c1 => ⟨fun c2 => ⟨by omega, ih v (x + 1) (by omega) (by omega) (by omega) ?_⟩, fun c2 => ⟨by omega, ih _ (x + 1) (by omega) (by omega) (by omega) ?_⟩⟩⟩⟩
        · rcases hv with ⟨a1, a2⟩ | ⟨⟨j, a1, a2, a3⟩, a4, a6, a5⟩
          · refine Or.inr ⟨⟨x, hx0, by omega, rfl⟩, z, by omega, fun j q1 q2 q3 => ?_⟩
            by_cases y : j = x
            · rw [y]; exact Int.le_refl _
            · exact absurd (a2 j q1 (by omega)) q3
          · exact absurd c1 a6
        · rcases hv with ⟨a1, a2⟩ | ⟨⟨j, a1, a2, a3⟩, a4, a6, a5⟩
          · exact absurd a1 c1
          · refine Or.inr ⟨⟨j, a1, by omega, a3⟩, a4, a6, fun j q1 q2 q3 => ?_⟩
            by_cases y : j = x
            · rw [y]; exact c2
            · exact a5 j q1 (by omega) q3
        · rcases hv with ⟨a1, a2⟩ | ⟨⟨j, a1, a2, a3⟩, a4, a6, a5⟩
          · exact absurd a1 c1
          · refine Or.inr ⟨⟨x, hx0, by omega, rfl⟩, z, by omega, fun j q1 q2 q3 => ?_⟩
            by_cases y : j = x
            · rw [y]; exact Int.le_refl _
            · have := a5 j q1 (by omega) q3; omega
  exact vX3_leastNameIn_0 (key (b - a + 1).toNat (-1) a (by omega) (by omega) h1 (Or.inl ⟨rfl, fun j q1 q2 => by omega⟩))
theorem p_borne {X : Nat × (Int → Int)} {h : HP} {Q : Int → HP → Prop} {I : IN} {nm : Int → Int} (hI : OKI I) (hM : MWn I h) (hN : NM (iN I) nm h) {w : Int} (h0 : 0 ≤ w) (h1 : w < nW I) (H : ∀ v, LN nm (wC I w) (wE I w) v → Q v h) : Wd mX9_borne X 0 [(2, 41), (0, w), (9, 0), (9, 0)] [] h Q := by
  have hn := hI.1
  have hnw := nW_le hI
  obtain ⟨w1, w2, w3, w4, w5, w6, w7, w8, w9⟩ := hM.2 w h0 h1
  have hw := Wv_in hI (Wv_at hI h0 h1)
  have hcd := (Wv_at hI h0 h1).2.1
  have key : ∀ (d : Nat) (v x : Int), wE I w - x < d → wC I w ≤ x → x ≤ wE I w → LN nm (wC I w) x v → Wd mX9_borne X 9 [(2, 41), (0, w), (0, v), (0, x)] [] h Q := by
    intro d
    induction d with
    | zero => intro v x q1 q2 q3; omega
    | succ d ih =>
      intro v x hd hx0 hx1 hv
      refine vX9_borne_9 ?_
      rw [w1, w2, show wC I w + pW I w = wE I w by unfold pW; omega]
      refine ⟨h0, by omega, by omega, fun c => H v (by rw [show wE I w = x by omega]; exact hv), fun c => ⟨by omega, by omega, ?_⟩⟩
      have hr := hN.o.1 x (by omega) (by omega)
      have hm1 := hN.m1 (k := x) (by omega) (by omega)
      have hm2 := (hN.m x (by omega) (by omega)).2
      refine ⟨fun c0 => ⟨by omega, ih v (x + 1) (by omega) (by omega) (by omega) ?_⟩, fun c0 => ?_⟩
      · have z : nm x = 0 := hm1.mp c0
        rcases hv with ⟨a1, a2⟩ | ⟨⟨j, a1, a2, a3⟩, a4, a6, a5⟩
        · refine Or.inl ⟨a1, fun j q1 q2 => ?_⟩
          by_cases y : j = x
          · rw [y]; exact z
          · exact a2 j q1 (by omega)
        · refine Or.inr ⟨⟨j, a1, by omega, a3⟩, a4, a6, fun j q1 q2 q3 => ?_⟩
          by_cases y : j = x
          · rw [y] at q3; exact absurd z q3
          · exact a5 j q1 (by omega) q3
      · have z : ¬ nm x = 0 := fun y => c0 (hm1.mpr y)
        rw [hm2 z]
        refine ⟨fun c1 => ⟨by omega, ih _ (x + 1) (by omega) (by omega) (by omega) ?_⟩, fun c1 => ⟨fun c2 => ⟨by omega, ih v (x + 1) (by omega) (by omega) (by omega) ?_⟩, fun c2 => ⟨by omega, ih _ (x + 1) (by omega) (by omega) (by omega) ?_⟩⟩⟩
        · rcases hv with ⟨a1, a2⟩ | ⟨⟨j, a1, a2, a3⟩, a4, a6, a5⟩
          · refine Or.inr ⟨⟨x, hx0, by omega, rfl⟩, z, by omega, fun j q1 q2 q3 => ?_⟩
            by_cases y : j = x
            · rw [y]; exact Int.le_refl _
            · exact absurd (a2 j q1 (by omega)) q3
          · exact absurd c1 a6
        · rcases hv with ⟨a1, a2⟩ | ⟨⟨j, a1, a2, a3⟩, a4, a6, a5⟩
          · exact absurd a1 c1
          · refine Or.inr ⟨⟨j, a1, by omega, a3⟩, a4, a6, fun j q1 q2 q3 => ?_⟩
            by_cases y : j = x
            · rw [y]; exact c2
            · exact a5 j q1 (by omega) q3
        · rcases hv with ⟨a1, a2⟩ | ⟨⟨j, a1, a2, a3⟩, a4, a6, a5⟩
          · exact absurd a1 c1
          · refine Or.inr ⟨⟨x, hx0, by omega, rfl⟩, z, by omega, fun j q1 q2 q3 => ?_⟩
            by_cases y : j = x
            · rw [y]; exact Int.le_refl _
            · have := a5 j q1 (by omega) q3; omega
  refine vX9_borne_0 ⟨h0, by omega, ?_⟩
  rw [w1]
  exact key (wE I w - wC I w + 1).toNat (-1) _ (by omega) (Int.le_refl _) (by omega) (Or.inl ⟨rfl, fun j q1 q2 => by omega⟩)
noncomputable def wA (I : IN) (nm : Int → Int) (w x : Int) : Int := if x = 0 then wC I w else if x = 1 then pW I w else if x = 2 then hW I w else if x = 3 then sn I (tW I w) - LV I (wS I w) else if x = 4 then LV I (wS I w) - lW I w else if x = 5 then tW I w else if x = 6 then wS I w else if x = 7 then rk I w else if x = 8 then b01 (FK I w) else if x = 9 then b01 (HI I w) else if x = 10 then gO I w else if x = 11 then nL I nm w else -1
theorem wA_no {I : IN} {nm : Int → Int} {w x : Int} (c : x < 0 ∨ 11 < x) : wA I nm w x = -1 := by
  unfold wA
  rw [if_neg (by omega), if_neg (by omega), if_neg (by omega), if_neg (by omega), if_neg (by omega), if_neg (by omega), if_neg (by omega), if_neg (by omega), if_neg (by omega), if_neg (by omega), if_neg (by omega), if_neg (by omega)]
theorem W_lev {I : IN} (hI : OKI I) {w : Int} (h0 : 0 ≤ w) (h1 : w < nW I) (ht : 0 ≤ tW I w ∧ tW I w < iN I) (hh : 0 ≤ hW I w ∧ hW I w ≤ 1619838) : (0 ≤ wS I w ∧ wS I w < nS I) ∧ (-809919 ≤ LV I (wS I w) ∧ LV I (wS I w) ≤ 809919) := by
  have := (Wv_at hI h0 h1).1
  exact ⟨this, LV_in hI this.1 this.2⟩
theorem TP_ex {f : Int → Int} {c e : Int} (h : c < e) : ∃ t, TP f c e t := by
  have key : ∀ (n : Nat), ∃ t, TP f c (c + n + 1) t := by
    intro n
    induction n with
    | zero => exact ⟨c, Int.le_refl _, by omega, fun j q1 q2 => by rw [show j = c by omega]; exact Int.le_refl _, fun j q1 q2 => by omega⟩
    | succ n ih =>
      obtain ⟨t, t1, t2, t3, t4⟩ := ih
      by_cases y : f t < f (c + ((n + 1 : Nat) : Int))
      · refine ⟨c + ((n + 1 : Nat) : Int), by omega, by omega, fun j q1 q2 => ?_, fun j q1 q2 => ?_⟩
        · by_cases e : j = c + ((n + 1 : Nat) : Int)
          · rw [e]; exact Int.le_refl _
          · have := t3 j q1 (by omega); omega
        · have := t3 j q1 (by omega); omega
      · refine ⟨t, t1, by omega, fun j q1 q2 => ?_, t4⟩
        by_cases e : j = c + ((n + 1 : Nat) : Int)
        · rw [e]; omega
        · exact t3 j q1 (by omega)
  have := key (e - c - 1).toNat
  rw [show c + (((e - c - 1).toNat : Nat) : Int) + 1 = e by omega] at this
  exact this
theorem m_wave {X : Nat × (Int → Int)} {h : HP} {I : IN} {nm : Int → Int} (hI : OKI I) (hC : CIn I h) (hM : MIn I h) (hN : NM (iN I) nm h) (hso : SO h) (hst : h 0 8 = 0 → CD I h) {w x r : Int} (hr1 : 0 ≤ w → w < nW I → r = wA I nm w x) (hr0 : ¬ (0 ≤ w ∧ w < nW I) → r = -1) : Wd mX9_wave_ X 0 [(2, 41), (0, w), (0, x)] [] h (fun r2 h2 => r = r2 ∧ RL9 h2) := by
  have hn := hI.1
  have hnw := nW_le hI
  have hns := nS_le hI
  refine vX9_wave__0 (q_lays hI hC hM hN hso hst (fun h1' c1 n1 x1 v1 rl => ?_))
  have rl1 : RL9 h1' := rl h1' (fun _ _ _ => rfl)
  refine p_isWave x1.2.1.1 hnw (fun h0 h1 => ⟨fun _ => ?_, fun z => by omega⟩) (fun z => ⟨fun y => absurd rfl y, fun _ => ⟨hr0 z, rl1⟩⟩)
  rw [hr1 h0 h1]
  obtain ⟨w1, w2, w3, w4, w5, w6, w7, w8, w9⟩ := x1.2.1.2 w h0 h1
  obtain ⟨l1, l2⟩ := W_lev hI h0 h1 w9 w7
  have e52 := (x1.2.2.2.2.2 (wS I w) l1.1 l1.2).1
  have hi := x1.hi h0 h1
  have hwv := Wv_at hI h0 h1
  have hin := Wv_in hI hwv
  have hsn : ∀ k, wC I w ≤ k → k < wE I w → -809919 ≤ sn I k ∧ sn I k ≤ 809919 := fun k q1 q2 => sn_in hI (by omega) (by omega) (hin.2.2 k q1 (by omega)).1
  have hw4 : hW I w = sn I (tW I w) - lW I w := rfl
  have hT : -809919 ≤ sn I (tW I w) ∧ sn I (tW I w) ≤ 809919 := by
    obtain ⟨t, ht⟩ := TP_ex (f := sn I) hwv.2.1.2.1
    rw [tW_of ht]
    exact hsn t ht.1 ht.2.1
  refine ⟨fun c => ⟨wA_no c, rl1⟩, fun c => ⟨h0, by omega, ?_, rl1⟩, fun c => ⟨h0, by omega, ?_, rl1⟩, fun c => p_height hI x1.2.1 h0 h1 ⟨?_, rl1⟩, fun c => ?_, fun c => ?_, fun c => ⟨h0, by omega, ?_, rl1⟩, fun c => ⟨h0, by omega, ?_, rl1⟩, fun c => ⟨h0, by omega, ?_, rl1⟩, fun c => ?_, fun c => ⟨h0, by omega, fun c1 => ⟨?_, rl1⟩, fun c1 => ⟨?_, rl1⟩⟩, fun c => p_groupOf hI x1 h0 h1 (fun g hg => ⟨?_, rl1⟩), fun c => p_borne hI x1.2.1 n1 h0 h1 (fun v hv => ⟨?_, rl1⟩)⟩
  · rw [c, w1]; rfl
  · rw [c, w2]; rfl
  · rw [c]; rfl
  · rw [w6, e52, w3]
    exact ⟨h0, by omega, l1.1, by omega, by omega, by rw [c]; rfl, rl1⟩
  · rw [w6, e52, w4]
    exact ⟨h0, by omega, l1.1, by omega, by omega, by rw [c]; rfl, rl1⟩
  · rw [c, w5]; rfl
  · rw [c, w6]; rfl
  · rw [c, x1.2.2.1 w h0 h1]; rfl
  · rw [c]
    exact p_isFreak hI x1.1.1 x1.2.1 x1.2.2.1 h0 h1 (fun hf => ⟨fun z => by omega, fun _ => ⟨b01_t hf, rl1⟩⟩) (fun hf => ⟨fun _ => ⟨b01_f hf, rl1⟩, fun z => absurd rfl z⟩)
  · rw [c]; exact b01_f (hi.mp c1)
  · rw [c]; exact b01_t (Classical.byContradiction (fun z => c1 (hi.mpr z)))
  · rw [c]; exact (gO_of hI h1 hg).symm
  · rw [c]; exact (nL_of hv).symm
theorem p_endOf7 {X : Nat × (Int → Int)} {h : HP} {Q : Int → HP → Prop} {I : IN} (hI : OKI I) (hW9 : CWn I h) {w : Int} (h0 : 0 ≤ w) (h1 : w < nW I) (H : Q (wE I w) h) : Wd mX7_endOf X 0 [(2, 5), (0, w)] [] h Q := by
  have hnw := nW_le hI
  have hn := hI.1
  obtain ⟨w1, w2, w3, w4, w5, w6, w7, w8, w9⟩ := hW9.2 w h0 h1
  have hin := Wv_in hI (Wv_at hI h0 h1)
  refine vX7_endOf_0 ?_
  rw [w1, w2, show wC I w + pW I w = wE I w by unfold pW; omega]
  have := hin.1
  have hcd := (Wv_at hI h0 h1).2.1
  exact ⟨h0, by omega, by omega, H⟩
theorem o_wave {X : Nat × (Int → Int)} {h : HP} {w x : Int} (H : RL9 h) : Wd mX8_wave X 0 [(2, 0), (0, w), (0, x)] [] h (fun r h1 => Wd mX9_wave_ X 0 [(2, 41), (0, w), (0, x)] [] h1 (fun r2 h2 => r = r2 ∧ RL9 h2)) := by
  obtain ⟨I, nm, hI, hC, hM, hN, hso, hst⟩ := H
  have hn := hI.1
  have hnw := nW_le hI
  refine vX8_wave_0 (q_both hI hC hM hN hso hst (fun h1' c1 m1 n1 so1 z1 d1 => ?_))
  have hwn := d1.2.1.n hI
  refine p_has7 hwn.1 (fun h0 h1 => ⟨fun _ => ?_, fun z => by omega⟩) (fun z => ⟨fun y => absurd rfl y, fun _ => m_wave hI c1 m1 n1 so1 (fun _ => d1) (fun y1 y2 => absurd ⟨y1, y2⟩ z) (fun _ => rfl)⟩)
  have mc : ∀ {r : Int}, r = wA I nm w x → Wd mX9_wave_ X 0 [(2, 41), (0, w), (0, x)] [] h1' (fun r2 h2 => r = r2 ∧ RL9 h2) := fun hr => m_wave hI c1 m1 n1 so1 (fun _ => d1) (fun _ _ => hr) (fun z => absurd ⟨h0, h1⟩ z)
  obtain ⟨w1, w2, w3, w4, w5, w6, w7, w8, w9⟩ := hwn.2 w h0 h1
  obtain ⟨l1, l2⟩ := W_lev hI h0 h1 w9 w7
  have hin := Wv_in hI (Wv_at hI h0 h1)
  have hcd := (Wv_at hI h0 h1).2.1
  have hfk := FK_iff hI h0 h1
  have e35 := d1.2.2.1.2 w h0 h1
  have e62 := d1.2.2.2.1.1
  have hsn : -809919 ≤ sn I (tW I w) ∧ sn I (tW I w) ≤ 809919 := by
    have hwr := d1.2.1.2.1 w _ _ _ h1 (Wv_at hI h0 h1)
    obtain ⟨t, v, t1, t2, t3, t4, t5⟩ := hwr.2.2.2
    rw [tW_of t1]
    exact sn_in hI (by have := t1.1; omega) (by have := t1.2.1; omega) (hin.2.2 t t1.1 (by have := t1.2.1; omega)).1
  refine ⟨fun c => mc (wA_no c).symm, fun c => ⟨h0, by omega, mc ?_⟩, fun c => ⟨h0, by omega, mc ?_⟩, fun c => ⟨h0, by omega, mc ?_⟩, fun c => ⟨h0, by omega, mc ?_⟩, fun c => ⟨h0, by omega, ?_⟩, fun c => ⟨h0, by omega, mc ?_⟩, fun c => ⟨h0, by omega, mc ?_⟩, fun c => ⟨h0, by omega, mc ?_⟩, fun c => ⟨h0, by omega, fun c2 => mc ?_, fun c2 => mc ?_⟩, fun c => p_isHigh hI c1 hwn d1.2.2.2.1 h0 h1 (fun hh => ⟨fun z => by omega, fun _ => mc ?_⟩) (fun hh => ⟨fun _ => mc ?_, fun z => absurd rfl z⟩), fun c => ⟨h0, by omega, mc ?_⟩, fun c => ⟨h0, by omega, p_endOf7 hI hwn h0 h1 ?_⟩⟩
  · rw [c, w1]; rfl
  · rw [c, w2]; rfl
  · rw [c, w3]; rfl
  · rw [c, w4]; rfl
  · rw [w3, w4]
    refine ⟨by omega, mc ?_⟩
    rw [c]
    show _ = LV I (wS I w) - lW I w
    unfold hW
    omega
  · rw [c, w5]; rfl
  · rw [c, w6]; rfl
  · rw [c, e35]; rfl
  · rw [e35, e62] at c2
    rw [c]; exact (b01_f (fun z => by have := hfk.mp z; omega)).symm
  · rw [e35, e62] at c2
    rw [c]; exact (b01_t (hfk.mpr (by omega))).symm
  · rw [c]; exact (b01_t hh).symm
  · rw [c]; exact (b01_f hh).symm
  · rw [c]; exact gO_of hI h1 (d1.2.2.2.2.1.2.2 w h0 h1)
  · rw [w1]
    refine p_leastNameIn c1.1 hn.2 n1 hin.1 (by omega) (by omega) (fun v hv => mc ?_)
    rw [c]; exact nL_of hv

/-! the model's waves -/
def MR (I : IN) (h : HP) (w s c e : Int) : Prop := h 57 w = c ∧ h 58 w = e - c ∧ h 62 w = s ∧ ∃ t v, TP (sn I) c e t ∧ LS9 (sn I) c e v ∧ h 61 w = t ∧ h 60 w = v ∧ h 59 w = sn I t
def MH (I : IN) (h : HP) (s : Int) : Prop := h 52 s = LV I s ∧ h 53 s = ncr I (iS I 1) s ∧ (∀ c, fr9 I s ≤ c → c < en9 I s → cr I (iS I 1) s c → (∀ k, fr9 I s ≤ k → k < c → ¬ cr I (iS I 1) s k) → h 54 s = c) ∧ (∀ c, fr9 I s ≤ c → c < en9 I s → cr I (iS I 1) s c → (∀ k, c < k → k < en9 I s → ¬ cr I (iS I 1) s k) → h 55 s = c)
def MWp (I : IN) (h : HP) (W s : Int) : Prop := h 41 28 = W ∧ (∀ w s c e, w < W → Wv I w s c e → MR I h w s c e) ∧ WO9 I h 56 W ∧ ∀ t, 0 ≤ t → t < s → MH I h t
theorem p_wave9 {X : Nat × (Int → Int)} {h0 : HP} {Q : Int → HP → Prop} {I : IN} (hI : OKI I) (hL : ML I h0) {w s c e : Int} (hw : Wv I w s c e) (h5 : h0 41 28 = w)
    (H : ∀ h' : HP, (∀ k i, ¬ ((k = 56 ∧ c ≤ i ∧ i < e) ∨ ((57 ≤ k ∧ k ≤ 62) ∧ i = w) ∨ (k = 41 ∧ i = 28)) → h' k i = h0 k i) → h' 41 28 = w + 1 → MR I h' w s c e → (∀ k, c ≤ k → k < e → h' 56 k = w) → Q 0 h') : Wd mX9_wave X 0 [(2, 41), (0, s), (0, c), (0, e), (9, 0), (9, 0)] [] h0 Q := by
  have hN := hI.1
  have hnw := nW_le hI
  have hwl := Wv_lt hI hw
  have hin := Wv_in hI hw
  obtain ⟨⟨a1, a2⟩, ⟨b1, b2, b3⟩, -⟩ := id hw
  have hvs : ∀ k, c ≤ k → k < e → h0 50 k = sn I k := fun k q1 q2 => hL.2.2 k (by omega) (by omega) (hin.2.2 k q1 (by omega)).1
  refine vX9_wave_0 ?_
  rw [h5]
  refine ⟨by omega, by omega, by omega, by omega, by omega, ?_⟩
  generalize hh1 : xu (xu (xu (xu (xu h0 57 w c) 58 w (e - c)) 62 w s) 61 w c) 60 w (h0 50 c) = h1
  have f1 : ∀ k i, ¬ ((k = 57 ∨ k = 58 ∨ k = 60 ∨ k = 61 ∨ k = 62) ∧ i = w) → h1 k i = h0 k i := fun k i q => by rw [← hh1, xu_ne (by omega), xu_ne (by omega), xu_ne (by omega), xu_ne (by omega), xu_ne (by omega)]
  have f57 : h1 57 w = c := by rw [← hh1, xu_ne (by omega), xu_ne (by omega), xu_ne (by omega), xu_ne (by omega), xu_eq rfl rfl]
  have f58 : h1 58 w = e - c := by rw [← hh1, xu_ne (by omega), xu_ne (by omega), xu_ne (by omega), xu_eq rfl rfl]
  have f62 : h1 62 w = s := by rw [← hh1, xu_ne (by omega), xu_ne (by omega), xu_eq rfl rfl]
  have f61 : h1 61 w = c := by rw [← hh1, xu_ne (by omega), xu_eq rfl rfl]
  have f60 : h1 60 w = sn I c := by rw [← hh1, xu_eq rfl rfl]; exact hvs c (Int.le_refl _) b2
  have key : ∀ (d : Nat) (x : Int) (h : HP), e - x < d → c ≤ x → x ≤ e → (∀ k i, ¬ ((k = 56 ∧ c ≤ i ∧ i < x) ∨ ((k = 60 ∨ k = 61) ∧ i = w)) → h k i = h1 k i) → (∀ k, c ≤ k → k < x → h 56 k = w) → (c ≤ h 61 w ∧ h 61 w < e ∧ (h 61 w < x ∨ h 61 w = c) ∧ (∀ j, c ≤ j → j < x → sn I j ≤ sn I (h 61 w)) ∧ ∀ j, c ≤ j → j < h 61 w → sn I j < sn I (h 61 w)) → ((∃ j, c ≤ j ∧ j < e ∧ sn I j = h 60 w) ∧ ∀ j, c ≤ j → j < x → h 60 w ≤ sn I j) → Wd mX9_wave X 56 [(2, 41), (9, 0), (9, 0), (0, e), (0, w), (0, x)] [] h Q := by
    intro d
    induction d with
    | zero => intro x h q1 q2 q3; omega
    | succ d ih =>
      intro x h hd hx0 hx1 f h56 ht hl
      have v50 : ∀ k, c ≤ k → k < e → h 50 k = sn I k := fun k q1 q2 => by rw [f 50 k (by omega), f1 50 k (by omega)]; exact hvs k q1 q2
      have e28 : h 41 28 = w := by rw [f 41 28 (by omega), f1 41 28 (by omega)]; exact h5
      refine vX9_wave_56 ⟨fun c1 => ?_, fun c1 => ?_⟩
      · rw [v50 (h 61 w) ht.1 ht.2.1, e28]
        refine ⟨by omega, by omega, by omega, by omega, by omega, H _ (fun k i q => ?_) (xu_eq rfl rfl) ?_ (fun k q1 q2 => by rw [xu_ne (by omega), xu_ne (by omega)]; exact h56 k q1 (by omega))⟩
        · rw [xu_ne (by omega), xu_ne (by omega), f k i (by omega), f1 k i (by omega)]
        · have g : ∀ k, ¬ k = 41 → ¬ k = 59 → (xu (xu h 59 w (sn I (h 61 w))) 41 28 (w + 1)) k w = h k w := fun k z1 z2 => by rw [xu_ne (by omega), xu_ne (by omega)]
          refine ⟨by rw [g 57 (by omega) (by omega), f 57 w (by omega)]; exact f57, by rw [g 58 (by omega) (by omega), f 58 w (by omega)]; exact f58, by rw [g 62 (by omega) (by omega), f 62 w (by omega)]; exact f62, h 61 w, h 60 w, ⟨ht.1, ht.2.1, fun j q1 q2 => ht.2.2.2.1 j q1 (by omega), ht.2.2.2.2⟩, ⟨hl.1, fun j q1 q2 => hl.2 j q1 (by omega)⟩, g 61 (by omega) (by omega), g 60 (by omega) (by omega), by rw [xu_ne (by omega), xu_eq rfl rfl]⟩
      · rw [v50 (h 61 w) ht.1 ht.2.1, v50 x hx0 (by omega)]
        refine ⟨by omega, by omega, by omega, by omega, by omega, by omega, fun c2 => ⟨fun c3 => ⟨by omega, ?_⟩, fun c3 => ⟨by omega, ?_⟩⟩, fun c2 => ⟨fun c3 => ⟨by omega, ?_⟩, fun c3 => ⟨by omega, ?_⟩⟩⟩
        · refine ih (x + 1) _ (by omega) (by omega) (by omega) (fun k i q => by rw [xu_ne (by omega)]; exact f k i (by omega)) (fun k q1 q2 => ?_) ?_ ?_
          · by_cases ek : k = x
            · rw [xu_eq rfl ek]
            · rw [xu_ne (by omega)]; exact h56 k q1 (by omega)
          · rw [xu_ne (by omega)]
            refine ⟨ht.1, ht.2.1, by omega, fun j q1 q2 => ?_, ht.2.2.2.2⟩
            by_cases ej : j = x
            · rw [ej]; exact c2
            · exact ht.2.2.2.1 j q1 (by omega)
          · rw [xu_ne (by omega)]
            refine ⟨hl.1, fun j q1 q2 => ?_⟩
            by_cases ej : j = x
            · rw [ej]; exact c3
            · exact hl.2 j q1 (by omega)
        · refine ih (x + 1) _ (by omega) (by omega) (by omega) (fun k i q => by rw [xu_ne (by omega), xu_ne (by omega)]; exact f k i (by omega)) (fun k q1 q2 => ?_) ?_ ?_
          · by_cases ek : k = x
            · rw [xu_eq rfl ek]
            · rw [xu_ne (by omega), xu_ne (by omega)]; exact h56 k q1 (by omega)
          · rw [xu_ne (by omega), xu_ne (by omega)]
            refine ⟨ht.1, ht.2.1, by omega, fun j q1 q2 => ?_, ht.2.2.2.2⟩
            by_cases ej : j = x
            · rw [ej]; exact c2
            · exact ht.2.2.2.1 j q1 (by omega)
          · rw [xu_ne (by omega), xu_eq rfl rfl]
            refine ⟨⟨x, hx0, by omega, rfl⟩, fun j q1 q2 => ?_⟩
            by_cases ej : j = x
            · rw [ej]; exact Int.le_refl _
            · have := hl.2 j q1 (by omega); omega
        · refine ih (x + 1) _ (by omega) (by omega) (by omega) (fun k i q => by rw [xu_ne (by omega), xu_ne (by omega)]; exact f k i (by omega)) (fun k q1 q2 => ?_) ?_ ?_
          · by_cases ek : k = x
            · rw [xu_eq rfl ek]
            · rw [xu_ne (by omega), xu_ne (by omega)]; exact h56 k q1 (by omega)
          · rw [xu_ne (by omega), xu_eq rfl rfl]
            refine ⟨hx0, by omega, by omega, fun j q1 q2 => ?_, fun j q1 q2 => ?_⟩
            · by_cases ej : j = x
              · rw [ej]; exact Int.le_refl _
              · have := ht.2.2.2.1 j q1 (by omega); omega
            · have := ht.2.2.2.1 j q1 (by omega); omega
          · rw [xu_ne (by omega), xu_ne (by omega)]
            refine ⟨hl.1, fun j q1 q2 => ?_⟩
            by_cases ej : j = x
            · rw [ej]; exact c3
            · exact hl.2 j q1 (by omega)
        · refine ih (x + 1) _ (by omega) (by omega) (by omega) (fun k i q => by rw [xu_ne (by omega), xu_ne (by omega), xu_ne (by omega)]; exact f k i (by omega)) (fun k q1 q2 => ?_) ?_ ?_
          · by_cases ek : k = x
            · rw [xu_eq rfl ek]
            · rw [xu_ne (by omega), xu_ne (by omega), xu_ne (by omega)]; exact h56 k q1 (by omega)
          · rw [xu_ne (by omega), xu_ne (by omega), xu_eq rfl rfl]
            refine ⟨hx0, by omega, by omega, fun j q1 q2 => ?_, fun j q1 q2 => ?_⟩
            · by_cases ej : j = x
              · rw [ej]; exact Int.le_refl _
              · have := ht.2.2.2.1 j q1 (by omega); omega
            · have := ht.2.2.2.1 j q1 (by omega); omega
          · rw [xu_ne (by omega), xu_eq rfl rfl]
            refine ⟨⟨x, hx0, by omega, rfl⟩, fun j q1 q2 => ?_⟩
            by_cases ej : j = x
            · rw [ej]; exact Int.le_refl _
            · have := hl.2 j q1 (by omega); omega
  exact key (e - c + 1).toNat c h1 (by omega) (Int.le_refl _) (by omega) (fun k i _ => rfl) (fun k q1 q2 => by omega) (by rw [f61]; exact ⟨Int.le_refl _, b2, Or.inr rfl, fun j q1 q2 => by omega, fun j q1 q2 => by omega⟩) (by rw [f60]; exact ⟨⟨c, Int.le_refl _, b2, rfl⟩, fun j q1 q2 => by omega⟩)
/-- the model, stretch by stretch, up to the ranks -/
theorem p_laysW {X : Nat × (Int → Int)} {h0 : HP} {Q : Int → HP → Prop} {I : IN} (hI : OKI I) (hL : ML I h0) (h28 : h0 41 28 = 0)
    (H : ∀ h' : HP, (∀ k i, ¬ ((52 ≤ k ∧ k ≤ 62) ∨ (k = 41 ∧ (i = 14 ∨ i = 28 ∨ i = 29))) → h' k i = h0 k i) → MWp I h' (nW I) (nS I) → Wd mX9_laysWaves X 174 [(2, 41), (0, 0), (9, 0), (9, 0)] [] h' Q) : Wd mX9_laysWaves X 15 [(2, 41), (0, 0), (9, 0), (9, 0)] [] h0 Q := by
  have hN := hI.1
  have hns := nS_le hI
  have hbb := hI.2.2.2.1
  have L38 : ∀ (d : Nat) (s : Int) (h : HP), nS I - s < d → 0 ≤ s → s ≤ nS I → (∀ k i, ¬ ((52 ≤ k ∧ k ≤ 62) ∨ (k = 41 ∧ (i = 14 ∨ i = 28 ∨ i = 29))) → h k i = h0 k i) → MWp I h (WB I (iS I 1) s) s → Wd mX9_laysWaves X 38 [(2, 41), (0, s), (9, 0), (9, 0)] [] h Q := by
    intro d
    induction d with
    | zero => intro s h q1 q2 q3; omega
    | succ d ih =>
      intro s h hd hs0 hs1 f hw
      have hLh : ML I h := hL.keep (fun k i q => f k i (by omega))
      have e12 := hLh.2.1.2.1
      refine vX9_laysWaves_38 ⟨fun c => ?_, fun c => ?_⟩
      · have e : s = nS I := by omega
        subst e
        exact H h f hw
      · have hs2 : s < nS I := by omega
        obtain ⟨g1, g2, g3, g4, g5, g6, g7⟩ := SG_at hI.1.1 hs0 hs2
        have hwb := WB_at hI hbb.1 hs0 hs1
        have hnc := ncr_half hI hbb.1 hs0 hs2
        have ewv : wv9 I (iS I 1) s = max 0 (ncr I (iS I 1) s - 1) := rfl
        have ews := WB_succ (I := I) (b := iS I 1) hs0
        refine p_level9 hI hLh.1 hLh.2.1 hLh.2.2 hs0 hs2 (fun h2 f2 => ⟨hs0, by omega, ?_⟩)
        have hL2 : ML I h2 := hLh.keep (fun k i q => f2 k i (by omega))
        rw [MS_from hI hL2.2.1 hs0 hs2]
        have L78 : ∀ (d3 : Nat) (la k : Int) (h3 : HP), en9 I s - k < d3 → fr9 I s ≤ k → k ≤ en9 I s → (∀ k i, ¬ ((52 ≤ k ∧ k ≤ 62) ∨ (k = 41 ∧ (i = 14 ∨ i = 28 ∨ i = 29))) → h3 k i = h0 k i) → (∀ t, 0 ≤ t → t < s → MH I h3 t) → h3 52 s = LV I s → h3 53 s = C (cr I (iS I 1) s) (fr9 I s) k → (∀ c, fr9 I s ≤ c → c < k → cr I (iS I 1) s c → (∀ j, fr9 I s ≤ j → j < c → ¬ cr I (iS I 1) s j) → h3 54 s = c) →
            (¬ h3 41 29 = 0 ↔ AR (sn I) (LV I s) (iS I 1) (fr9 I s) k) → ((la = -1 ∧ C (cr I (iS I 1) s) (fr9 I s) k = 0) ∨ (fr9 I s ≤ la ∧ la < k ∧ cr I (iS I 1) s la ∧ (∀ j, la < j → j < k → ¬ cr I (iS I 1) s j))) →
            h3 41 28 = WB I (iS I 1) s + max 0 (C (cr I (iS I 1) s) (fr9 I s) k - 1) → (∀ w s' c e, w < WB I (iS I 1) s + max 0 (C (cr I (iS I 1) s) (fr9 I s) k - 1) → Wv I w s' c e → MR I h3 w s' c e) → WO9 I h3 56 (WB I (iS I 1) s + max 0 (C (cr I (iS I 1) s) (fr9 I s) k - 1)) →
            Wd mX9_laysWaves X 78 [(2, 41), (0, s), (0, la), (0, k)] [] h3 Q := by
          intro d3
          induction d3 with
          | zero => intro la k h3 q1 q2 q3; omega
          | succ d3 ih3 =>
            intro la k h3 hd3 hk0 hk1 f3 hmh h52 h53 h54 har hla h28' hmr hwo
            have hL3 : ML I h3 := hL.keep (fun k i q => f3 k i (by omega))
            have e5 := hL3.1.1
            have hcb := C_bound (p := cr I (iS I 1) s) hk0
            have fin : k = en9 I s → 0 ≤ s ∧ s < 601 ∧ inI (s + 1) ∧ Wd mX9_laysWaves X 38 [(2, 41), (0, s + 1), (9, 0), (9, 0)] [] (xu h3 55 s la) Q := fun ek => by
              subst ek
              have eW : WB I (iS I 1) (s + 1) = WB I (iS I 1) s + max 0 (C (cr I (iS I 1) s) (fr9 I s) (en9 I s) - 1) := by rw [ews, ewv]; rfl
              refine ⟨hs0, by omega, by omega, ih (s + 1) _ (by omega) (by omega) (by omega) (fun k i q => by rw [xu_ne (by omega)]; exact f3 k i q) ?_⟩
              rw [eW]
              refine ⟨by rw [xu_ne (by omega)]; exact h28', fun w s2 c e q1 q2 => ?_, fun k q1 q2 => by rw [xu_ne (by omega)]; exact hwo k q1 q2, fun t q1 q2 => ?_⟩
              · have := hmr w s2 c e q1 q2
                unfold MR
                rw [xu_ne (by omega), xu_ne (by omega), xu_ne (by omega), xu_ne (by omega), xu_ne (by omega), xu_ne (by omega)]
                exact this
              · unfold MH
                rw [xu_ne (show ¬ ((52 : Int) = 55 ∧ t = s) by omega), xu_ne (show ¬ ((53 : Int) = 55 ∧ t = s) by omega), xu_ne (show ¬ ((54 : Int) = 55 ∧ t = s) by omega)]
                by_cases et : t = s
                · subst et
                  refine ⟨h52, h53, h54, fun c z1 z2 z3 z4 => ?_⟩
                  rw [xu_eq rfl rfl]
                  rcases hla with ⟨y1, y2⟩ | ⟨y1, y2, y3, y4⟩
                  · exact absurd z3 (C_none y2 c z1 z2)
                  · rcases Int.lt_trichotomy c la with u | u | u
                    · exact absurd y3 (z4 la u y2)
                    · exact u.symm
                    · exact absurd z3 (y4 c u z2)
                · have := hmh t q1 (by omega)
                  unfold MH at this
                  refine ⟨this.1, this.2.1, this.2.2.1, fun c z1 z2 z3 z4 => ?_⟩
                  rw [xu_ne (by omega)]
                  exact this.2.2.2 c z1 z2 z3 z4
            refine vX9_laysWaves_78 ⟨fun c1 => fin (by omega), fun c1 => ⟨by omega, by omega, fun c2 => fin ?_, fun c2 => ⟨hs0, by omega, ?_⟩⟩⟩
            · rcases Int.lt_or_le k (en9 I s) with z | z
              · exact absurd ((ML_in hI hL3 hs0 hs2 hk0 hk1 (by omega)).mpr z) c2
              · omega
            · have hke : k < en9 I s := (ML_in hI hL3 hs0 hs2 hk0 hk1 (by omega)).mp c2
              rw [h52, hL3.1.2.2.1 1 (by omega) (by omega)]
              refine p_crosses hI hL3 hs0 hs2 hbb.1 hbb.2 hk0 hke har (fun hc h4 u1 u2 => ⟨fun _ => ⟨fun c4 => ?_, fun c4 => ?_⟩, fun q => by omega⟩) (fun hc h4 u1 u2 => ⟨fun q => by omega, fun _ => ⟨by omega, ?_⟩⟩)
              · -- the first crossing
                have e0 : C (cr I (iS I 1) s) (fr9 I s) k = 0 := by
                  rcases hla with ⟨y1, y2⟩ | ⟨y1, y2, y3, y4⟩
                  · exact y2
                  · omega
                have es := C_succ (p := cr I (iS I 1) s) hk0 hc
                rw [u1 53 s (by omega), h53]
                refine ⟨by omega, by omega, ?_⟩
                have em : max 0 (C (cr I (iS I 1) s) (fr9 I s) (k + 1) - 1) = max 0 (C (cr I (iS I 1) s) (fr9 I s) k - 1) := by omega
                refine ih3 k (k + 1) _ (by omega) (by omega) (by omega) (fun k i q => by rw [xu_ne (by omega), xu_ne (by omega), u1 k i (by omega)]; exact f3 k i q) (fun t q1 q2 => ?_) (by rw [xu_ne (by omega), xu_ne (by omega), u1 52 s (by omega)]; exact h52) (by rw [xu_eq rfl rfl, es]) (fun c q1 q2 q3 q4 => ?_) (by rw [xu_ne (by omega), xu_ne (by omega)]; exact u2) (Or.inr ⟨hk0, by omega, hc, fun j q1 q2 => by omega⟩) (by rw [em, xu_ne (by omega), xu_ne (by omega), u1 41 28 (by omega)]; exact h28') (fun w s2 c e q1 q2 => ?_) (fun j q1 q2 => ?_)
                · have := hmh t q1 q2
                  unfold MH
                  rw [xu_ne (by omega), xu_ne (by omega), xu_ne (by omega), xu_ne (by omega), xu_ne (by omega), xu_ne (by omega), xu_ne (by omega), xu_ne (by omega), u1 52 t (by omega), u1 53 t (by omega), u1 54 t (by omega), u1 55 t (by omega)]
                  exact this
                · have : c = k := by
                    by_cases z : c = k
                    · exact z
                    · exact absurd q3 (C_none e0 c q1 (by omega))
                  rw [xu_ne (by omega), xu_eq rfl rfl, this]
                · rw [em] at q1
                  have := hmr w s2 c e q1 q2
                  unfold MR
                  rw [xu_ne (by omega), xu_ne (by omega), xu_ne (by omega), xu_ne (by omega), xu_ne (by omega), xu_ne (by omega), xu_ne (by omega), xu_ne (by omega), xu_ne (by omega), xu_ne (by omega), xu_ne (by omega), xu_ne (by omega), u1 57 w (by omega), u1 58 w (by omega), u1 59 w (by omega), u1 60 w (by omega), u1 61 w (by omega), u1 62 w (by omega)]
                  exact this
                · rw [em, xu_ne (by omega), xu_ne (by omega), u1 56 j (by omega)]
                  exact hwo j q1 q2
              · -- a wave
                rcases hla with ⟨y1, y2⟩ | ⟨y1, y2, y3, y4⟩
                · exact absurd y1 c4
                · have ec : C (cr I (iS I 1) s) (fr9 I s) k = C (cr I (iS I 1) s) (fr9 I s) la + 1 := by
                    rw [C_app (p := cr I (iS I 1) s) (a := fr9 I s) (b := la + 1) (by omega) (by omega), C_succ y1 y3, C_zero (p := cr I (iS I 1) s) (a := la + 1) (b := k) (fun j q1 q2 => y4 j (by omega) q2)]; omega
                  have es := C_succ (p := cr I (iS I 1) s) hk0 hc
                  have hcl := (C_bound (p := cr I (iS I 1) s) (a := fr9 I s) (b := la) y1).1
                  have hw9 : Wv I (WB I (iS I 1) s + max 0 (C (cr I (iS I 1) s) (fr9 I s) k - 1)) s la k := ⟨⟨hs0, hs2⟩, ⟨y1, y2, hke⟩, y3, hc, y4, by omega⟩
                  have em : WB I (iS I 1) s + max 0 (C (cr I (iS I 1) s) (fr9 I s) (k + 1) - 1) = WB I (iS I 1) s + max 0 (C (cr I (iS I 1) s) (fr9 I s) k - 1) + 1 := by omega
                  have hL4 : ML I h4 := hL3.keep (fun k i q => u1 k i (by omega))
                  refine p_wave9 hI hL4 hw9 (by rw [u1 41 28 (by omega)]; exact h28') (fun h5 v1 v2 v3 v4 => ?_)
                  rw [v1 53 s (by omega), u1 53 s (by omega), h53]
                  refine ⟨by omega, by omega, ?_⟩
                  refine ih3 k (k + 1) _ (by omega) (by omega) (by omega) (fun k i q => by rw [xu_ne (by omega), v1 k i (by omega), u1 k i (by omega)]; exact f3 k i q) (fun t q1 q2 => ?_) (by rw [xu_ne (by omega), v1 52 s (by omega), u1 52 s (by omega)]; exact h52) (by rw [xu_eq rfl rfl, es]) (fun c q1 q2 q3 q4 => ?_) (by rw [xu_ne (by omega), v1 41 29 (by omega)]; exact u2) (Or.inr ⟨hk0, by omega, hc, fun j q1 q2 => by omega⟩) (by rw [em, xu_ne (by omega)]; exact v2) (fun w s2 c e q1 q2 => ?_) ?_
                  · have := hmh t q1 q2
                    unfold MH
                    rw [xu_ne (by omega), xu_ne (by omega), xu_ne (by omega), xu_ne (by omega), v1 52 t (by omega), v1 53 t (by omega), v1 54 t (by omega), v1 55 t (by omega), u1 52 t (by omega), u1 53 t (by omega), u1 54 t (by omega), u1 55 t (by omega)]
                    exact this
                  · have hck : c < k := by
                      rcases Int.lt_or_le c k with z | z
                      · exact z
                      · exact absurd y3 (q4 la y1 (by omega))
                    rw [xu_ne (by omega), v1 54 s (by omega), u1 54 s (by omega)]
                    exact h54 c q1 hck q3 q4
                  · rw [em] at q1
                    have g : ∀ j, ¬ j = 53 → (xu h5 53 s (C (cr I (iS I 1) s) (fr9 I s) k + 1)) j w = h5 j w := fun j z => xu_ne (by omega)
                    unfold MR
                    rw [g 57 (by omega), g 58 (by omega), g 59 (by omega), g 60 (by omega), g 61 (by omega), g 62 (by omega)]
                    by_cases ew : w = WB I (iS I 1) s + max 0 (C (cr I (iS I 1) s) (fr9 I s) k - 1)
                    · rw [ew] at q2 ⊢
                      obtain ⟨x1, x2, x3⟩ := Wv_uniq hI hw9 q2
                      subst x1; subst x2; subst x3
                      exact v3
                    · have := hmr w s2 c e (by omega) q2
                      rw [v1 57 w (by omega), v1 58 w (by omega), v1 59 w (by omega), v1 60 w (by omega), v1 61 w (by omega), v1 62 w (by omega), u1 57 w (by omega), u1 58 w (by omega), u1 59 w (by omega), u1 60 w (by omega), u1 61 w (by omega), u1 62 w (by omega)]
                      exact this
                  · rw [em]
                    have k1 : WO9 I h4 56 (WB I (iS I 1) s + max 0 (C (cr I (iS I 1) s) (fr9 I s) k - 1)) := fun j q1 q2 => by rw [u1 56 j (by omega)]; exact hwo j q1 q2
                    exact WO9_add hI k1 hw9 (fun j q1 q2 => by rw [xu_ne (by omega)]; exact v4 j q1 q2) (fun j q => by rw [xu_ne (by omega)]; exact v1 56 j (by omega))
              · -- no crossing
                have es := C_skip (p := cr I (iS I 1) s) hk0 hc
                refine ih3 la (k + 1) h4 (by omega) (by omega) (by omega) (fun k i q => by rw [u1 k i (by omega)]; exact f3 k i q) (fun t q1 q2 => ?_) (by rw [u1 52 s (by omega)]; exact h52) (by rw [u1 53 s (by omega), es]; exact h53) (fun c q1 q2 q3 q4 => ?_) u2 ?_ (by rw [es, u1 41 28 (by omega)]; exact h28') (fun w s2 c e q1 q2 => ?_) (fun j q1 q2 => ?_)
                · have := hmh t q1 q2
                  unfold MH
                  rw [u1 52 t (by omega), u1 53 t (by omega), u1 54 t (by omega), u1 55 t (by omega)]
                  exact this
                · rw [u1 54 s (by omega)]
                  by_cases z : c = k
                  · rw [z] at q3; exact absurd q3 hc
                  · exact h54 c q1 (by omega) q3 q4
                · rcases hla with ⟨y1, y2⟩ | ⟨y1, y2, y3, y4⟩
                  · exact Or.inl ⟨y1, by rw [es]; exact y2⟩
                  · refine Or.inr ⟨y1, by omega, y3, fun j q1 q2 => ?_⟩
                    by_cases z : j = k
                    · rw [z]; exact hc
                    · exact y4 j q1 (by omega)
                · rw [es] at q1
                  have := hmr w s2 c e q1 q2
                  unfold MR
                  rw [u1 57 w (by omega), u1 58 w (by omega), u1 59 w (by omega), u1 60 w (by omega), u1 61 w (by omega), u1 62 w (by omega)]
                  exact this
                · rw [es, u1 56 j (by omega)]
                  exact hwo j q1 q2
        generalize hh3 : xu (xu (xu h2 52 s (LV I s)) 53 s 0) 41 29 0 = h3
        have f4 : ∀ k i, ¬ (((k = 52 ∨ k = 53) ∧ i = s) ∨ (k = 41 ∧ (i = 14 ∨ i = 29))) → h3 k i = h k i := fun k i q => by rw [← hh3, xu_ne (by omega), xu_ne (by omega), xu_ne (by omega)]; exact f2 k i (by omega)
        have eC : C (cr I (iS I 1) s) (fr9 I s) (fr9 I s) = 0 := C_nil (Int.le_refl _)
        refine L78 (en9 I s - fr9 I s + 1).toNat (-1) (fr9 I s) h3 (by omega) (Int.le_refl _) (by omega) (fun k i q => by rw [f4 k i (by omega)]; exact f k i q) (fun t q1 q2 => ?_) (by rw [← hh3, xu_ne (by omega), xu_ne (by omega), xu_eq rfl rfl]) (by rw [← hh3, xu_ne (by omega), xu_eq rfl rfl, eC]) (fun c q1 q2 => by omega) (by rw [← hh3, xu_eq rfl rfl]; exact ⟨fun z => absurd rfl z, fun z => absurd z AR_0⟩) (Or.inl ⟨rfl, eC⟩) ?_ (fun w s2 c e q1 q2 => ?_) (fun j q1 q2 => ?_)
        · have := hw.2.2.2 t q1 q2
          unfold MH
          rw [f4 52 t (by omega), f4 53 t (by omega), f4 54 t (by omega), f4 55 t (by omega)]
          exact this
        · rw [eC, show WB I (iS I 1) s + max 0 (0 - 1) = WB I (iS I 1) s by omega, f4 41 28 (by omega)]; exact hw.1
        · rw [eC, show WB I (iS I 1) s + max 0 (0 - 1) = WB I (iS I 1) s by omega] at q1
          have := hw.2.1 w s2 c e q1 q2
          unfold MR
          rw [f4 57 w (by omega), f4 58 w (by omega), f4 59 w (by omega), f4 60 w (by omega), f4 61 w (by omega), f4 62 w (by omega)]
          exact this
        · rw [eC, show WB I (iS I 1) s + max 0 (0 - 1) = WB I (iS I 1) s by omega, f4 56 j (by omega)]
          exact hw.2.2.1 j q1 q2
  have L15 : ∀ (d : Nat) (x : Int) (h : HP), iN I - x < d → 0 ≤ x → x ≤ iN I → (∀ k i, ¬ (k = 56) → h k i = h0 k i) → (∀ j, 0 ≤ j → j < x → h 56 j = -1) → Wd mX9_laysWaves X 15 [(2, 41), (0, x), (9, 0), (9, 0)] [] h Q := by
    intro d
    induction d with
    | zero => intro x h q1 q2 q3; omega
    | succ d ih =>
      intro x h hd hx0 hx1 f h56
      have e5 : h 41 5 = iN I := by rw [f 41 5 (by omega)]; exact hL.1.1
      refine vX9_laysWaves_15 ⟨fun c => ?_, fun c => ⟨hx0, by omega, by omega, ?_⟩⟩
      · have e0 : WB I (iS I 1) 0 = 0 := S_nil (Int.le_refl 0)
        refine L38 (nS I + 1).toNat 0 h (by omega) (by omega) (by omega) (fun k i q => f k i (by omega)) ⟨by rw [e0, f 41 28 (by omega)]; exact h28, fun w s c e q1 q2 => ?_, fun k q1 q2 => Or.inr ⟨fun w s c e q3 q4 => ?_, h56 k q1 (by omega)⟩, fun t q1 q2 => by omega⟩
        · have := (Wv_lt hI q2).1; omega
        · have := (Wv_lt hI q4).1; omega
      · refine ih (x + 1) _ (by omega) (by omega) (by omega) (fun k i q => by rw [xu_ne (by omega)]; exact f k i q) (fun j q1 q2 => ?_)
        by_cases e : j = x
        · rw [xu_eq rfl e]
        · rw [xu_ne (by omega)]; exact h56 j q1 (by omega)
  exact L15 (iN I + 1).toNat 0 h0 (by omega) (by omega) (by omega) (fun k i _ => rfl) (fun j q1 q2 => by omega)

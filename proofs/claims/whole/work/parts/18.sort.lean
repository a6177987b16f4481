/-! the class's sorter -/
def SO (h : HP) : Prop := (h 8 0 = 39 ∧ h 8 1 = 40) ∨ (h 8 0 = 40 ∧ h 8 1 = 39)
theorem SO.k {h : HP} (H : SO h) : JA (h 8 0) 600 := by
  rcases H with ⟨a, b⟩ | ⟨a, b⟩ <;> rw [a]
  · exact ja39
  · exact ja40
theorem SO.p {h : HP} (H : SO h) : JA (h 8 1) 600 := by
  rcases H with ⟨a, b⟩ | ⟨a, b⟩ <;> rw [b]
  · exact ja40
  · exact ja39
theorem C_sub {p : Int → Prop} {a b : Int} (h : a ≤ b) : ∀ c, c ≤ a → C p c b - C p c a = C p a b := fun c hc => by rw [C_app (p := p) hc h]; omega
theorem p_merge {X : Nat × (Int → Int)} {h0 : HP} {Q : Int → HP → Prop} {fm md ed : Int} (hS : SO h0) (h1 : 0 ≤ fm) (h2 : fm ≤ md) (h3 : md ≤ ed) (h4 : ed ≤ 600) (s1 : ∀ i j, fm ≤ i → i ≤ j → j < md → h0 (h0 8 0) i ≤ h0 (h0 8 0) j) (s2 : ∀ i j, md ≤ i → i ≤ j → j < ed → h0 (h0 8 0) i ≤ h0 (h0 8 0) j)
    (H : ∀ h' : HP, (∀ k i, ¬ (k = h0 8 1 ∧ fm ≤ i ∧ i < ed) → h' k i = h0 k i) → (∀ i j, fm ≤ i → i ≤ j → j < ed → h' (h0 8 1) i ≤ h' (h0 8 1) j) → (∀ v, C (fun i => h' (h0 8 1) i < v) fm ed = C (fun i => h0 (h0 8 0) i < v) fm ed) → Q 0 h') :
    Wd mX5_merge X 0 [(2, 8), (0, fm), (0, md), (0, ed), (9, 0), (9, 0), (9, 0), (9, 0)] [] h0 Q := by
  have hK := hS.k
  have hP := hS.p
  have hKP : ¬ h0 8 0 = h0 8 1 := by rcases hS with ⟨a, b⟩ | ⟨a, b⟩ <;> omega
  have h80 : ¬ h0 8 1 = 8 := by rcases hS with ⟨a, b⟩ | ⟨a, b⟩ <;> omega
  generalize hf : h0 (h0 8 0) = f at s1 s2 H
  generalize hK' : h0 8 0 = K at hK hKP hf
  generalize hP' : h0 8 1 = P at hP hKP h80 H
  refine vX5_merge_0 ?_
  have key : ∀ (d : Nat) (l r t : Int) (h : HP), ed - t < d → fm ≤ l → l ≤ md → md ≤ r → r ≤ ed → t - fm = (l - fm) + (r - md) → (∀ k i, ¬ (k = P ∧ fm ≤ i ∧ i < t) → h k i = h0 k i) → (∀ i j, fm ≤ i → i ≤ j → j < t → h P i ≤ h P j) → (∀ i j, fm ≤ i → i < t → ((l ≤ j ∧ j < md) ∨ (r ≤ j ∧ j < ed)) → h P i ≤ f j) → (∀ v, C (fun i => h P i < v) fm t = C (fun i => f i < v) fm l + C (fun i => f i < v) md r) →
      Wd mX5_merge X 9 [(2, 8), (9, 0), (0, md), (0, ed), (0, l), (0, r), (0, t), (9, 0)] [] h Q := by
    intro d
    induction d with
    | zero => intro l r t h q1 q2 q3 q4 q5 q6; omega
    | succ d ih =>
      intro l r t h hd hl1 hl2 hr1 hr2 ht hfr hso hle hct
      have e80 : h 8 0 = K := by rw [hfr 8 0 (by omega)]; exact hK'
      have e81 : h 8 1 = P := by rw [hfr 8 1 (by omega)]; exact hP'
      have ekf : ∀ i, h K i = f i := fun i => by rw [hfr K i (by omega), hf]
      -- one goes over
      have step : ∀ (x l2 r2 : Int), (l ≤ x ∧ x < md ∨ r ≤ x ∧ x < ed) → ((x = l ∧ l2 = l + 1 ∧ r2 = r ∧ l < md) ∨ (x = r ∧ l2 = l ∧ r2 = r + 1 ∧ r < ed)) → (∀ j, ((l ≤ j ∧ j < md) ∨ (r ≤ j ∧ j < ed)) → f x ≤ f j) → Wd mX5_merge X 9 [(2, 8), (9, 0), (0, md), (0, ed), (0, l2), (0, r2), (0, t + 1), (9, 0)] [] (xu h P t (f x)) Q := by
        intro x l2 r2 hx hlr hmin
        refine ih l2 r2 (t + 1) _ (by omega) (by omega) (by omega) (by omega) (by omega) (by omega) (fun k i q => by rw [xu_ne (by omega)]; exact hfr k i (by omega)) (fun i j q1 q2 q3 => ?_) (fun i j q1 q2 q3 => ?_) (fun v => ?_)
        · by_cases ej : j = t
          · by_cases ei : i = t
            · rw [ei, ej]; exact Int.le_refl _
            · rw [xu_ne (by omega), xu_eq rfl ej]
              exact hle i x q1 (by omega) hx
          · rw [xu_ne (by omega), xu_ne (by omega)]
            exact hso i j q1 q2 (by omega)
        · by_cases ei : i = t
          · rw [xu_eq rfl ei]
            exact hmin j (by omega)
          · rw [xu_ne (by omega)]
            exact hle i j q1 (by omega) (by omega)
        · have e1 : C (fun i => xu h P t (f x) P i < v) fm t = C (fun i => h P i < v) fm t := C_congr (fun i q1 q2 => by rw [xu_ne (by omega)])
          have e2 : xu h P t (f x) P t = f x := xu_eq rfl rfl
          have e3 : C (fun i => xu h P t (f x) P i < v) fm (t + 1) = C (fun i => f i < v) fm l + C (fun i => f i < v) md r + (if f x < v then 1 else 0) := by
            by_cases z : f x < v
            · rw [C_succ (p := fun i => xu h P t (f x) P i < v) (by omega) (by show xu h P t (f x) P t < v; rw [e2]; exact z), e1, hct v, if_pos z]
            · rw [C_skip (p := fun i => xu h P t (f x) P i < v) (by omega) (by show ¬ xu h P t (f x) P t < v; rw [e2]; exact z), e1, hct v, if_neg z]; omega
          rw [e3]
          rcases hlr with ⟨z1, z2, z3, z4⟩ | ⟨z1, z2, z3, z4⟩
          · subst z1; subst z2; subst z3
            by_cases z : f x < v
            · rw [if_pos z, C_succ (p := fun i => f i < v) hl1 z]; omega
            · rw [if_neg z, C_skip (p := fun i => f i < v) hl1 z]; omega
          · subst z1; subst z2; subst z3
            by_cases z : f x < v
            · rw [if_pos z, C_succ (p := fun i => f i < v) hr1 z]; omega
            · rw [if_neg z, C_skip (p := fun i => f i < v) hr1 z]; omega
      refine vX5_merge_9 ⟨fun c => ?_, fun c => ?_⟩
      · have e1 : t = ed := by omega
        have e2 : l = md := by omega
        have e3 : r = ed := by omega
        subst e1; subst e2; subst e3
        refine H h hfr hso (fun v => ?_)
        rw [hct v, C_app (p := fun i => f i < v) h2 h3]
      · rw [e80, e81]
        refine ⟨fun c1 => ?_, fun c1 => ⟨fun c2 => ?_, fun c2 => ?_⟩⟩
        · rw [ekf]
          refine ⟨hK, by omega, by omega, hP, by omega, by omega, by omega, by omega, step l (l + 1) r (Or.inl (by omega)) (Or.inl ⟨rfl, rfl, rfl, by omega⟩) (fun j q => ?_)⟩
          exact s1 l j hl1 (by omega) (by omega)
        · rw [ekf]
          refine ⟨hK, by omega, by omega, hP, by omega, by omega, by omega, by omega, step r l (r + 1) (Or.inr (by omega)) (Or.inr ⟨rfl, rfl, rfl, by omega⟩) (fun j q => ?_)⟩
          exact s2 r j hr1 (by omega) (by omega)
        · rw [ekf, ekf]
          refine ⟨hK, by omega, by omega, by omega, by omega, fun c3 => ?_, fun c3 => ?_⟩
          · refine ⟨hP, by omega, by omega, by omega, by omega, step r l (r + 1) (Or.inr (by omega)) (Or.inr ⟨rfl, rfl, rfl, by omega⟩) (fun j q => ?_)⟩
            rcases q with q | q
            · have := s1 l j hl1 q.1 q.2; omega
            · exact s2 r j hr1 q.1 q.2
          · refine ⟨hP, by omega, by omega, by omega, by omega, step l (l + 1) r (Or.inl (by omega)) (Or.inl ⟨rfl, rfl, rfl, by omega⟩) (fun j q => ?_)⟩
            rcases q with q | q
            · exact s1 l j hl1 q.1 q.2
            · have := s2 r j hr1 q.1 q.2; omega
  exact key (ed - fm + 1).toNat fm md fm h0 (by omega) (Int.le_refl _) h2 (Int.le_refl _) h3 (by omega) (fun k i _ => rfl) (fun i j q1 q2 q3 => by omega) (fun i j q1 q2 => by omega) (fun v => by rw [C_nil (Int.le_refl _), C_nil (Int.le_refl _), C_nil (Int.le_refl _)]; rfl)
/-- rows of w each are sorted -/
def Bk (w : Int) (f : Int → Int) (m : Int) : Prop := ∀ q : Int, 0 ≤ q → ∀ i j, q * w ≤ i → i ≤ j → j < q * w + w → j < m → f i ≤ f j
theorem p_sort {X : Nat × (Int → Int)} {h0 : HP} {Q : Int → HP → Prop} {m : Int} (hS : SO h0) (hm : h0 8 2 = m) (hm0 : 0 ≤ m) (hm1 : m ≤ 600)
    (H : ∀ h' : HP, SO h' → (∀ k i, ¬ (k = 39 ∨ k = 40 ∨ (k = 8 ∧ (i = 0 ∨ i = 1))) → h' k i = h0 k i) → (∀ i j, 0 ≤ i → i ≤ j → j < m → h' (h' 8 0) i ≤ h' (h' 8 0) j) → (∀ v, C (fun i => h' (h' 8 0) i < v) 0 m = C (fun i => h0 (h0 8 0) i < v) 0 m) → Q 0 h') :
    Wd mX5_sort X 0 [(2, 8), (9, 0), (9, 0)] [] h0 Q := by
  refine vX5_sort_0 ?_
  have key : ∀ (d : Nat) (w : Int) (h : HP), m - w < d → 1 ≤ w → w ≤ 1200 → SO h → (∀ k i, ¬ (k = 39 ∨ k = 40 ∨ (k = 8 ∧ (i = 0 ∨ i = 1))) → h k i = h0 k i) → Bk w (h (h 8 0)) m → (∀ v, C (fun i => h (h 8 0) i < v) 0 m = C (fun i => h0 (h0 8 0) i < v) 0 m) → Wd mX5_sort X 2 [(2, 8), (0, w), (9, 0)] [] h Q := by
    intro d
    induction d with
    | zero =>
      intro w h hd hw hw2 hs hf hb hc
      have e82 : h 8 2 = m := by rw [hf 8 2 (by omega)]; exact hm
      refine vX5_sort_2 ⟨fun c => ?_, fun c => by omega⟩
      exact H h hs hf (fun i j q1 q2 q3 => hb 0 (by omega) i j (by omega) q2 (by omega) q3) hc
    | succ d ih =>
      intro w h hd hw hw2 hs hf hb hc
      have e82 : h 8 2 = m := by rw [hf 8 2 (by omega)]; exact hm
      refine vX5_sort_2 ⟨fun c => ?_, fun c => ?_⟩
      · exact H h hs hf (fun i j q1 q2 q3 => hb 0 (by omega) i j (by omega) q2 (by omega) q3) hc
      · have hsp := hs
        generalize hK : h 8 0 = K at hb hc
        generalize hP : h 8 1 = P
        have hKP : ¬ K = P := by rcases hs with ⟨a, b⟩ | ⟨a, b⟩ <;> omega
        have hPr : P = 39 ∨ P = 40 := by rcases hs with ⟨a, b⟩ | ⟨a, b⟩ <;> omega
        have L12 : ∀ (d2 : Nat) (q x : Int) (h2 : HP), m - x < d2 → 0 ≤ q → x = q * (2 * w) → (∀ k i, ¬ (k = P) → h2 k i = h k i) → (∀ r, 0 ≤ r → r < q → ∀ i j, r * (2 * w) ≤ i → i ≤ j → j < r * (2 * w) + 2 * w → j < m → h2 P i ≤ h2 P j) → (∀ v, C (fun i => h2 P i < v) 0 (min x m) = C (fun i => h K i < v) 0 (min x m)) → x ≤ m + 2 * w → Wd mX5_sort X 12 [(2, 8), (0, w), (0, x)] [] h2 Q := by
          intro d2
          induction d2 with
          | zero =>
            intro q x h2 hd2 hq hx hf2 hb2 hc2 hxm
            have g80 : h2 8 0 = K := by rw [hf2 8 0 (by omega)]; exact hK
            have g81 : h2 8 1 = P := by rw [hf2 8 1 (by omega)]; exact hP
            have g82 : h2 8 2 = m := by rw [hf2 8 2 (by omega)]; exact e82
            have hin : inI K ∧ inI P := by rcases hs with ⟨a, b⟩ | ⟨a, b⟩ <;> omega
            refine vX5_sort_12 ⟨fun c2 => ?_, fun c2 => by omega⟩
            rw [g80, g81]
            refine ⟨hin.1, hin.2, by omega, ?_⟩
            have eP : (xu (xu h2 8 1 K) 8 0 P) 8 0 = P := xu_eq rfl rfl
            refine ih (w * 2) _ (by omega) (by omega) (by omega) ?_ (fun k i z => by rw [xu_ne (by omega), xu_ne (by omega), hf2 k i (by omega)]; exact hf k i z) ?_ (fun v => ?_)
            · unfold SO
              rw [eP, xu_ne (by omega), xu_eq rfl rfl]
              rcases hs with ⟨a, b⟩ | ⟨a, b⟩
              · right; omega
              · left; omega
            · rw [eP]
              intro r hr i j z1 z2 z3 z4
              rw [xu_ne (by omega), xu_ne (by omega), xu_ne (by omega), xu_ne (by omega)]
              rw [show r * (w * 2) = r * (2 * w) by rw [Int.mul_comm w 2]] at z1 z3
              refine hb2 r hr ?_ i j z1 z2 (by omega) z4
              rcases Int.lt_or_le r q with y | y
              · exact y
              · have := Int.mul_le_mul_of_nonneg_right y (show 0 ≤ 2 * w by omega); omega
            · rw [eP]
              have e1 : C (fun i => (xu (xu h2 8 1 K) 8 0 P) P i < v) 0 m = C (fun i => h2 P i < v) 0 m := C_congr (fun i q1 q2 => by rw [xu_ne (by omega), xu_ne (by omega)])
              have e2 := hc2 v
              rw [show min x m = m by omega] at e2
              rw [e1, e2]; exact hc v
          | succ d2 ih2 =>
            intro q x h2 hd2 hq hx hf2 hb2 hc2 hxm
            have g80 : h2 8 0 = K := by rw [hf2 8 0 (by omega)]; exact hK
            have g81 : h2 8 1 = P := by rw [hf2 8 1 (by omega)]; exact hP
            have g82 : h2 8 2 = m := by rw [hf2 8 2 (by omega)]; exact e82
            have hin : inI K ∧ inI P := by rcases hs with ⟨a, b⟩ | ⟨a, b⟩ <;> omega
            have hx0 : 0 ≤ x := by rw [hx]; exact Int.mul_nonneg hq (by omega)
            refine vX5_sort_12 ⟨fun c2 => ?_, fun c2 => ?_⟩
            · rw [g80, g81]
              refine ⟨hin.1, hin.2, by omega, ?_⟩
              have eP : (xu (xu h2 8 1 K) 8 0 P) 8 0 = P := xu_eq rfl rfl
              refine ih (w * 2) _ (by omega) (by omega) (by omega) ?_ (fun k i z => by rw [xu_ne (by omega), xu_ne (by omega), hf2 k i (by omega)]; exact hf k i z) ?_ (fun v => ?_)
              · unfold SO
                rw [eP, xu_ne (by omega), xu_eq rfl rfl]
                rcases hs with ⟨a, b⟩ | ⟨a, b⟩
                · right; omega
                · left; omega
              · rw [eP]
                intro r hr i j z1 z2 z3 z4
                rw [xu_ne (by omega), xu_ne (by omega), xu_ne (by omega), xu_ne (by omega)]
                rw [show r * (w * 2) = r * (2 * w) by rw [Int.mul_comm w 2]] at z1 z3
                refine hb2 r hr ?_ i j z1 z2 (by omega) z4
                rcases Int.lt_or_le r q with y | y
                · exact y
                · have := Int.mul_le_mul_of_nonneg_right y (show 0 ≤ 2 * w by omega); omega
              · rw [eP]
                have e1 : C (fun i => (xu (xu h2 8 1 K) 8 0 P) P i < v) 0 m = C (fun i => h2 P i < v) 0 m := C_congr (fun i q1 q2 => by rw [xu_ne (by omega), xu_ne (by omega)])
                have e2 := hc2 v
                rw [show min x m = m by omega] at e2
                rw [e1, e2]; exact hc v
            · rw [g82]
              refine ⟨by omega, ?_⟩
              refine p_min ⟨by omega, by omega, ?_⟩
              rw [g82]
              refine p_min ?_
              have hs2 : SO h2 := by
                unfold SO
                rw [g80, g81]
                rcases hs with ⟨a, b⟩ | ⟨a, b⟩
                · left; omega
                · right; omega
              have kf : ∀ i, h2 K i = h K i := fun i => hf2 K i hKP
              have ex1 : x = (2 * q) * w := by rw [hx, ← Int.mul_assoc, Int.mul_comm q 2]
              have ex2 : x + w = (2 * q + 1) * w := by rw [Int.add_mul, Int.one_mul, ← ex1]
              refine p_merge hs2 hx0 (by omega) (by omega) (by omega) (fun i j z1 z2 z3 => ?_) (fun i j z1 z2 z3 => ?_) (fun h3 g1 g2 g3 => ?_)
              · rw [g80, kf, kf]
                exact hb (2 * q) (by omega) i j (by omega) z2 (by omega) (by omega)
              · rw [g80, kf, kf]
                exact hb (2 * q + 1) (by omega) i j (by omega) z2 (by omega) (by omega)
              · rw [g81] at g1 g2 g3
                rw [g80] at g3
                have ex3 : x + 2 * w = (q + 1) * (2 * w) := by rw [Int.add_mul, Int.one_mul, ← hx]
                refine ih2 (q + 1) (x + 2 * w) h3 (by omega) (by omega) ex3 (fun k i z => by rw [g1 k i (by omega)]; exact hf2 k i z) (fun r hr1 hr2 i j z1 z2 z3 z4 => ?_) (fun v => ?_) (by omega)
                · by_cases er : r = q
                  · rw [er, ← hx] at z1 z3
                    exact g2 i j z1 z2 (by omega)
                  · have hle : (r + 1) * (2 * w) ≤ q * (2 * w) := Int.mul_le_mul_of_nonneg_right (by omega) (by omega)
                    rw [Int.add_mul, Int.one_mul, ← hx] at hle
                    rw [g1 P i (by omega), g1 P j (by omega)]
                    exact hb2 r hr1 (by omega) i j z1 z2 z3 z4
                · have a1 : C (fun i => h3 P i < v) 0 x = C (fun i => h2 P i < v) 0 x := C_congr (fun i z1 z2 => by rw [g1 P i (by omega)])
                  have a2 := hc2 v
                  rw [show min x m = x by omega] at a2
                  have a3 := g3 v
                  have a4 : C (fun i => h2 K i < v) x (min (x + 2 * w) m) = C (fun i => h K i < v) x (min (x + 2 * w) m) := C_congr (fun i z1 z2 => by rw [kf])
                  rw [C_app (p := fun i => h3 P i < v) hx0 (show x ≤ min (x + 2 * w) m by omega), C_app (p := fun i => h K i < v) hx0 (show x ≤ min (x + 2 * w) m by omega), a1, a2, a3, a4]
        exact L12 (m + 1).toNat 0 0 h (by omega) (Int.le_refl 0) (by omega) (fun k i _ => rfl) (fun r z1 z2 => by omega) (fun v => by rw [C_nil (by omega), C_nil (by omega)]) (by omega)
  exact key m.toNat 1 h0 (by omega) (by omega) (by omega) hS (fun k i _ => rfl) (fun q hq i j z1 z2 z3 z4 => by rw [show i = j by omega]; exact Int.le_refl _) (fun v => rfl)
theorem p_clear {X : Nat × (Int → Int)} {h : HP} {Q : Int → HP → Prop} (H : Q 0 (xu h 8 2 0)) : Wd mX5_clear X 0 [(2, 8)] [] h Q := vX5_clear_0 H
theorem p_add5 {X : Nat × (Int → Int)} {h : HP} {Q : Int → HP → Prop} {v : Int} (hS : SO h) (h0 : 0 ≤ h 8 2) (h1 : h 8 2 < 600) (H : Q 0 (xu (xu h (h 8 0) (h 8 2) v) 8 2 (h 8 2 + 1))) : Wd mX5_add X 0 [(2, 8), (1, v), (9, 0)] [] h Q := by
  have e : (xu h (h 8 0) (h 8 2) v) 8 2 = h 8 2 := by
    rw [xu_ne]
    rcases hS with ⟨a, b⟩ | ⟨a, b⟩ <;> omega
  refine vX5_add_0 ⟨hS.k, fun c => ?_, fun c => by omega⟩
  rw [e]
  exact ⟨h0, h1, by omega, H⟩
theorem p_keyAt {X : Nat × (Int → Int)} {h : HP} {Q : Int → HP → Prop} {i : Int} (hS : SO h) (h0 : 0 ≤ i) (h1 : i < h 8 2) (h2 : i < 600) (H : Q (h (h 8 0) i) h) : Wd mX5_keyAt X 0 [(2, 8), (0, i)] [] h Q :=
  vX5_keyAt_0 ⟨fun c => by omega, fun c => ⟨fun c1 => by omega, fun c1 => ⟨hS.k, h0, h2, H⟩⟩⟩

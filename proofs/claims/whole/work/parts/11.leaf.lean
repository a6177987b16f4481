/-! LEAVES: the JDK's, and small methods -/
theorem p_max {X : Nat × (Int → Int)} {h : HP} {Q : Int → HP → Prop} {a b : Int} (H : Q (max a b) h) : Wd mJ9_max_7cf53 X 0 [(0, a), (0, b)] [] h Q := by
  refine vJ9_max_7cf53_0 ⟨fun c => ?_, fun c => ?_⟩
  · rw [Int.max_def, if_pos (by omega)] at H; exact H
  · by_cases e : a = b
    · subst e; rw [Int.max_def, if_pos (Int.le_refl a)] at H; exact H
    · rw [Int.max_def, if_neg (by omega)] at H; exact H
theorem p_min {X : Nat × (Int → Int)} {h : HP} {Q : Int → HP → Prop} {a b : Int} (H : Q (min a b) h) : Wd mJ9_min_7cf53 X 0 [(0, a), (0, b)] [] h Q := by
  refine vJ9_min_7cf53_0 ⟨fun c => ?_, fun c => ?_⟩
  · rw [Int.min_def, if_neg (by omega)] at H; exact H
  · rw [Int.min_def, if_pos (by omega)] at H; exact H
theorem tdiv_inI {a b : Int} (ha : inI a) (hb : 0 < b) : inI (a.tdiv b) ∧ inI (a / b) := by
  have hd := dv_in (a := a) (N := 2147483648) hb (by omega) (by omega) (by omega)
  have h9 : a / b ≤ 2147483647 := by
    rcases Int.lt_or_le a 0 with q | q
    · have := Int.ediv_neg_of_neg_of_pos q hb; omega
    · have := Int.ediv_le_self b q; omega
  rcases td_facts a hb with ⟨h1, h2, h3, h4⟩ | ⟨h1, h2, h3, h4, h5⟩
  · rw [h2]; omega
  · have := Int.ediv_neg_of_neg_of_pos h3 hb
    rw [h2]; omega
theorem tdiv_inJ {a b : Int} (ha : inJ a) (hb : 0 < b) : inJ (a.tdiv b) ∧ inJ (a / b) := by
  have hd := dv_in (a := a) (N := 9223372036854775808) hb (by omega) (by omega) (by omega)
  have h9 : a / b ≤ 9223372036854775807 := by
    rcases Int.lt_or_le a 0 with q | q
    · have := Int.ediv_neg_of_neg_of_pos q hb; omega
    · have := Int.ediv_le_self b q; omega
  rcases td_facts a hb with ⟨h1, h2, h3, h4⟩ | ⟨h1, h2, h3, h4, h5⟩
  · rw [h2]; omega
  · have := Int.ediv_neg_of_neg_of_pos h3 hb
    rw [h2]; omega
theorem p_fdI {X : Nat × (Int → Int)} {h : HP} {Q : Int → HP → Prop} {a b : Int} (ha : inI a) (hb : 0 < b) (hb2 : inI b) (H : Q (a / b) h) : Wd mJ9_floorDiv_7cf53 X 0 [(0, a), (0, b), (9, 0)] [] h Q := by
  have hI := tdiv_inI ha hb
  have hx := xor_sgnI ha hb2
  refine vJ9_floorDiv_7cf53_0 ⟨by omega, hI.1, fun c => ?_, fun c => ?_⟩
  · rcases td_facts a hb with ⟨h1, h2, h3, h4⟩ | ⟨h1, h2, h3, h4, h5⟩
    · rw [h2]; exact H
    · have := hx.mp c; omega
  · rcases td_facts a hb with ⟨h1, h2, h3, h4⟩ | ⟨h1, h2, h3, h4, h5⟩
    · have h6 : ¬ (0 ≤ a) := fun z => c (hx.mpr (by omega))
      have h7 : a.tmod b = 0 := by omega
      have h8 : a.tdiv b * b = a := by omega
      refine ⟨by rw [h8]; exact ha, fun _ => by rw [h2]; exact H, fun c2 => absurd h8 c2⟩
    · have h8 := tmod_abs (a := a) (b := b) (by omega)
      have h9 := h8.1 (by omega)
      refine ⟨by omega, fun c2 => absurd c2 h5, fun _ => ⟨by omega, ?_⟩⟩
      rw [h2, show a / b + 1 - 1 = a / b by omega]; exact H
theorem p_fdJ {X : Nat × (Int → Int)} {h : HP} {Q : Int → HP → Prop} {a b : Int} (ha : inJ a) (hb : 0 < b) (hb2 : inJ b) (hl : -9000000000000000000 ≤ a) (hbl : b ≤ 200000000000000000) (H : Q (a / b) h) : Wd mJ9_floorDiv_f86c9 X 0 [(1, a), (9, 0), (1, b), (9, 0), (9, 0), (9, 0)] [] h Q := by
  have hI := tdiv_inJ ha hb
  have hx := xor_sgnJ ha hb2
  refine vJ9_floorDiv_f86c9_0 ⟨by omega, hI.1, fun c => ?_, fun c => ?_⟩
  · rcases td_facts a hb with ⟨h1, h2, h3, h4⟩ | ⟨h1, h2, h3, h4, h5⟩
    · rw [h2]; exact H
    · have := hx.mp c; omega
  · rcases td_facts a hb with ⟨h1, h2, h3, h4⟩ | ⟨h1, h2, h3, h4, h5⟩
    · have h6 : ¬ (0 ≤ a) := fun z => c (hx.mpr (by omega))
      have h7 : a.tmod b = 0 := by omega
      have h8 : a.tdiv b * b = a := by omega
      refine ⟨by rw [h8]; exact ha, fun _ => by rw [h2]; exact H, fun c2 => absurd h8 c2⟩
    · have h8 := tmod_abs (a := a) (b := b) (by omega)
      have h9 := h8.1 (by omega)
      refine ⟨by omega, fun c2 => absurd c2 h5, fun _ => ⟨by omega, ?_⟩⟩
      rw [h2, show a / b + 1 - 1 = a / b by omega]; exact H
theorem p_fmJ {X : Nat × (Int → Int)} {h : HP} {Q : Int → HP → Prop} {a b : Int} (ha : inJ a) (hb : 0 < b) (hb2 : inJ b) (H : Q (a % b) h) : Wd mJ9_floorMod_f86c9 X 0 [(1, a), (9, 0), (1, b), (9, 0), (9, 0), (9, 0)] [] h Q := by
  have hx := xor_sgnJ ha hb2
  have e1 := Int.mul_ediv_add_emod a b
  have e2 : b * (a / b) = a / b * b := Int.mul_comm _ _
  refine vJ9_floorMod_f86c9_0 ⟨by omega, fun c => ?_, fun c => ?_⟩
  · rcases td_facts a hb with ⟨h1, h2, h3, h4⟩ | ⟨h1, h2, h3, h4, h5⟩
    · rw [h2] at h4
      rw [show a.tmod b = a % b by omega]; exact H
    · have := hx.mp c; omega
  · rcases td_facts a hb with ⟨h1, h2, h3, h4⟩ | ⟨h1, h2, h3, h4, h5⟩
    · rw [h2] at h4
      have h6 : ¬ (0 ≤ a) := fun z => c (hx.mpr (by omega))
      have h7 : a.tmod b = 0 := by omega
      refine ⟨fun _ => ?_, fun c2 => absurd h7 c2⟩
      rw [show a.tmod b = a % b by omega]; exact H
    · have h8 := tmod_abs (a := a) (b := b) (by omega)
      have h9 := h8.1 (by omega)
      rw [h2] at h4
      have e3 : (a / b + 1) * b = a / b * b + b := by rw [Int.add_mul, Int.one_mul]
      refine ⟨fun c2 => by omega, fun _ => ⟨by omega, ?_⟩⟩
      rw [show a.tmod b + b = a % b by omega]; exact H
theorem p_meanDown {X : Nat × (Int → Int)} {h : HP} {Q : Int → HP → Prop} {a b : Int} (hb : 1 ≤ b) (hb2 : b ≤ 2147483647) (ha : -1000000000000 ≤ a) (ha2 : a ≤ 1000000000000) (hr : inI (a / b)) (H : Q (a / b) h) : Wd mX8_meanDown X 0 [(1, a), (9, 0), (0, b)] [] h Q := by
  refine vX8_meanDown_0 ⟨fun _ => ?_, fun c => absurd hb c⟩
  exact p_fdJ (by omega) (by omega) (by omega) (by omega) (by omega) ⟨hr, H⟩
theorem p_down {X : Nat × (Int → Int)} {h : HP} {Q : Int → HP → Prop} {a b : Int} (hb : 1 ≤ b) (ha : inJ a) (ha3 : inJ (a / b)) (H : Q (a / b) h) : Wd mX9_down X 0 [(1, a), (9, 0), (1, b), (9, 0), (9, 0), (9, 0)] [] h Q := by
  have hI := tdiv_inJ ha (show 0 < b by omega)
  refine vX9_down_0 ⟨by omega, hI.1, fun c => ?_, fun c => ?_⟩
  · rcases td_facts a (show 0 < b by omega) with ⟨h1, h2, h3, h4⟩ | ⟨h1, h2, h3, h4, h5⟩
    · rw [h2]; exact H
    · omega
  · rcases td_facts a (show 0 < b by omega) with ⟨h1, h2, h3, h4⟩ | ⟨h1, h2, h3, h4, h5⟩
    · omega
    · rw [h2, show a / b + 1 - 1 = a / b by omega]; exact ⟨ha3, H⟩
theorem p_isIn {X : Nat × (Int → Int)} {h : HP} {Q : Int → HP → Prop} {v a b : Int} (H1 : a ≤ v → v ≤ b → Q 1 h) (H0 : ¬ (a ≤ v ∧ v ≤ b) → Q 0 h) : Wd mX9_isIn X 0 [(0, v), (0, a), (0, b)] [] h Q := by
  refine vX9_isIn_0 ⟨fun c => H0 (by omega), fun c => ⟨fun c2 => H0 (by omega), fun c2 => H1 (by omega) (by omega)⟩⟩
/-- what can come -/
def hv9 (v : Int) : Prop := v = -32768 ∨ (-9999 ≤ v ∧ v ≤ 9999)
theorem p_isHeave {X : Nat × (Int → Int)} {h : HP} {Q : Int → HP → Prop} {v : Int} (H1 : hv9 v → Q 1 h) (H0 : ¬ hv9 v → Q 0 h) : Wd mX9_isHeave X 0 [(0, v)] [] h Q := by
  refine vX9_isHeave_0 ⟨fun c => H1 (Or.inl c), fun c => ?_⟩
  refine p_isIn (fun h1 h2 => ⟨fun z => by omega, fun _ => H1 (Or.inr ⟨h1, h2⟩)⟩) (fun h1 => ⟨fun _ => H0 (fun z => ?_), fun z => by omega⟩)
  rcases z with z | z
  · exact c z
  · exact h1 z
theorem p_canCome {X : Nat × (Int → Int)} {h : HP} {Q : Int → HP → Prop} {v : Int} (H1 : hv9 v → Q 1 h) (H0 : ¬ hv9 v → Q 0 h) : Wd mX3_canCome X 0 [(0, v)] [] h Q := by
  refine vX3_canCome_0 ⟨fun c => H1 (Or.inl c), fun c => ⟨fun c1 => H0 (fun z => ?_), fun c1 => ⟨fun c2 => H0 (fun z => ?_), fun c2 => H1 (Or.inr (by omega))⟩⟩⟩
  · rcases z with z | z <;> omega
  · rcases z with z | z <;> omega

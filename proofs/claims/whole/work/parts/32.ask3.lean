/-! ranked, freak -/
theorem o_ranked {X : Nat × (Int → Int)} {h : HP} {x : Int} (H : RL9 h) : Wd mX8_ranked X 0 [(2, 0), (0, x)] [] h (fun r h1 => Wd mX9_ranked X 0 [(2, 41), (0, x), (9, 0)] [] h1 (fun r2 h2 => r = r2 ∧ RL9 h2)) := by
  obtain ⟨I, nm, hI, hC, hM, hN, hso, hst⟩ := H
  have hnw := nW_le hI
  refine vX8_ranked_0 (q_both hI hC hM hN hso hst (fun h1' c1 m1 n1 so1 z1 d1 => ?_))
  have hwn := d1.2.1.n hI
  have mo : ∀ r, (∀ w, 0 ≤ w → w < nW I → rk I w = x → r = w) → (¬ (0 ≤ x ∧ x < nW I) → r = -1) → Wd mX9_ranked X 0 [(2, 41), (0, x), (9, 0)] [] h1' (fun r2 h2 => r = r2 ∧ RL9 h2) := fun r hr1 hr0 => by
    refine vX9_ranked_0 (q_lays hI c1 m1 n1 so1 (fun _ => d1) (fun h2 c2 n2 x2 v2 rl => ?_))
    have rl2 : RL9 h2 := rl h2 (fun _ _ _ => rfl)
    have key : ∀ (d : Nat) (y : Int), nW I - y < d → 0 ≤ y → y ≤ nW I → (∀ w, 0 ≤ w → w < y → ¬ rk I w = x) → Wd mX9_ranked X 6 [(2, 41), (0, x), (0, y)] [] h2 (fun r2 h2 => r = r2 ∧ RL9 h2) := by
      intro d
      induction d with
      | zero => intro y q1 q2 q3; omega
      | succ d ih =>
        intro y hd hy0 hy1 hne
        have e28 := x2.2.1.1
        refine vX9_ranked_6 ⟨fun c => ⟨hr0 (fun z => ?_), rl2⟩, fun c => ⟨hy0, by omega, fun c1 => ⟨by omega, ih (y + 1) (by omega) (by omega) (by omega) (fun w q1 q2 => ?_)⟩, fun c1 => ⟨hr1 y hy0 (by omega) ?_, rl2⟩⟩⟩
        · obtain ⟨o1, o2, o3⟩ := oR_at hI z.1 z.2
          exact hne _ o1 (by omega) o3
        · by_cases e : w = y
          · rw [e, ← x2.2.2.1 y hy0 (by omega)]; exact c1
          · exact hne w q1 (by omega)
        · rw [← x2.2.2.1 y hy0 (by omega)]; exact c1
    exact key (nW I + 1).toNat 0 (by omega) (by omega) hnw.1 (fun w q1 q2 => by omega)
  refine p_has7 hwn.1 (fun h0 h1 => ⟨fun z => by omega, fun _ => ⟨h0, by omega, mo _ (fun w q1 q2 q3 => ?_) (fun z => absurd ⟨h0, h1⟩ z)⟩⟩) (fun z => ⟨fun _ => mo _ (fun w q1 q2 q3 => absurd (by have := rk_in hI q1 q2; omega) z) (fun _ => rfl), fun y => absurd rfl y⟩)
  rw [d1.2.2.1.1 x h0 h1, ← q3, oR_rk hI q1 q2]
theorem o_freak {X : Nat × (Int → Int)} {h : HP} {k : Int} (H : RL9 h) : Wd mX8_freak X 0 [(2, 0), (0, k)] [] h (fun r h1 => Wd mX9_freak X 0 [(2, 41), (0, k), (9, 0), (9, 0), (9, 0)] [] h1 (fun r2 h2 => r = r2 ∧ RL9 h2)) := by
  obtain ⟨I, nm, hI, hC, hM, hN, hso, hst⟩ := H
  have hnw := nW_le hI
  have hF := C_bound (p := FK I) hnw.1
  refine vX8_freak_0 (q_both hI hC hM hN hso hst (fun h1' c1 m1 n1 so1 z1 d1 => ?_))
  have mo : ∀ r, (0 ≤ k → k < C (FK I) 0 (nW I) → r = oR I k) → (¬ (0 ≤ k ∧ k < C (FK I) 0 (nW I)) → r = -1) → Wd mX9_freak X 0 [(2, 41), (0, k), (9, 0), (9, 0), (9, 0)] [] h1' (fun r2 h2 => r = r2 ∧ RL9 h2) := fun r hr1 hr0 => by
    refine vX9_freak_0 (q_lays hI c1 m1 n1 so1 (fun _ => d1) (fun h2 c2 n2 x2 v2 rl => ?_))
    have rl2 : RL9 h2 := rl h2 (fun _ _ _ => rfl)
    have key : ∀ (d : Nat) (y : Int), nW I - y < d → 0 ≤ y → y ≤ nW I → ¬ (0 ≤ k ∧ k < y) → Wd mX9_freak X 8 [(2, 41), (0, k), (0, y), (0, y), (9, 0)] [] h2 (fun r2 h2 => r = r2 ∧ RL9 h2) := by
      intro d
      induction d with
      | zero => intro y q1 q2 q3; omega
      | succ d ih =>
        intro y hd hy0 hy1 hne
        have e28 := x2.2.1.1
        refine vX9_freak_8 ⟨fun c => ⟨hr0 (fun z => by omega), rl2⟩, fun c => ?_⟩
        obtain ⟨o1, o2, o3⟩ := oR_at hI hy0 (by omega)
        have inner : ∀ (d2 : Nat) (x : Int), oR I y - x < d2 → 0 ≤ x → x ≤ oR I y → Wd mX9_freak X 19 [(2, 41), (0, k), (0, y), (0, y), (0, x)] [] h2 (fun r2 h2 => r = r2 ∧ RL9 h2) := by
          intro d2
          induction d2 with
          | zero => intro x q1 q2 q3; omega
          | succ d2 ih2 =>
            intro x hd2 hx0 hx1
            refine vX9_freak_19 ?_
            rw [x2.2.2.1 x hx0 (by omega)]
            refine ⟨hx0, by omega, fun c1 => ?_, fun c1 => ⟨by omega, ih2 (x + 1) (by omega) (by omega) ?_⟩⟩
            · have ex : x = oR I y := rk_inj hI hx0 (by omega) o1 o2 (by omega)
              have hfk := FK_iff hI hx0 (show x < nW I by omega)
              refine p_isFreak hI x2.1.1 x2.2.1 x2.2.2.1 hx0 (by omega) (fun hf => ⟨fun _ => ⟨fun c2 => ⟨by omega, by omega, ih (y + 1) (by omega) (by omega) (by omega) (by omega)⟩, fun c2 => ⟨?_, rl2⟩⟩, fun z => by omega⟩) (fun hf => ⟨fun z => absurd rfl z, fun _ => ⟨hr0 (fun z => ?_), rl2⟩⟩)
              · have := hfk.mp hf
                rw [hr1 (by omega) (by omega), ex, c2]
              · exact hf (hfk.mpr (by omega))
            · by_cases e : x = oR I y
              · rw [e] at c1; exact absurd o3 c1
              · omega
        exact inner (oR I y + 1).toNat 0 (by omega) (by omega) o1
    exact key (nW I + 1).toNat 0 (by omega) (by omega) hnw.1 (by omega)
  rw [d1.2.2.2.1.1]
  refine ⟨fun c => mo _ (fun z => by omega) (fun _ => rfl), fun c => ⟨fun c2 => mo _ (fun _ z => by omega) (fun _ => rfl), fun c2 => ⟨by omega, by omega, mo _ (fun q1 q2 => ?_) (fun z => absurd ⟨by omega, by omega⟩ z)⟩⟩⟩
  exact d1.2.2.1.1 k q1 (by omega)
/-! group, energy -/
theorem G_inj {I : IN} {u v : Int} (h0 : 0 ≤ u) (h1 : 0 ≤ v) (hu : G I u) (hv : G I v) (h : C (G I) 0 u = C (G I) 0 v) : u = v := by
  rcases Int.lt_trichotomy u v with e | e | e
  · have := C_lt (p := G I) h0 e hu; omega
  · exact e
  · have := C_lt (p := G I) h1 e hv; omega
/-- the wave of the least rank from a to b -/
def LR (I : IN) (a b t : Int) : Prop := a ≤ t ∧ t < b ∧ ∀ j, a ≤ j → j < b → rk I t ≤ rk I j
theorem LR_uniq {I : IN} (hI : OKI I) {a b t u : Int} (h0 : 0 ≤ a) (hb : b ≤ nW I) (h1 : LR I a b t) (h2 : LR I a b u) : t = u := by
  have e1 := h1.2.2 u h2.1 h2.2.1
  have e2 := h2.2.2 t h1.1 h1.2.1
  have q1 := h1.1
  have q2 := h1.2.1
  have q3 := h2.1
  have q4 := h2.2.1
  exact rk_inj hI (by omega) (by omega) (by omega) (by omega) (by omega)
theorem p_leastRankIn {X : Nat × (Int → Int)} {h : HP} {Q : Int → HP → Prop} {I : IN} (hI : OKI I) (hR : CRk I h) {a b : Int} (h0 : 0 ≤ a) (h1 : a < b) (h2 : b ≤ nW I) (H : ∀ t, LR I a b t → Q t h) : Wd mX2_leastRankIn X 0 [(2, 6), (0, a), (0, b), (9, 0), (9, 0)] [] h Q := by
  have hnw := nW_le hI
  have key : ∀ (d : Nat) (t x : Int), b - x < d → a ≤ x → x ≤ b → (a ≤ t ∧ t < b) → (∀ j, a ≤ j → j < x → rk I t ≤ rk I j) → Wd mX2_leastRankIn X 5 [(2, 6), (9, 0), (0, b), (0, t), (0, x)] [] h Q := by
    intro d
    induction d with
    | zero => intro t x q1 q2 q3; omega
    | succ d ih =>
      intro t x hd hx0 hx1 ht hm
      refine vX2_leastRankIn_5 ⟨fun c => H t ⟨ht.1, ht.2, fun j q1 q2 => hm j q1 (by omega)⟩, fun c => ?_⟩
      rw [hR.2 t (by omega) (by omega), hR.2 x (by omega) (by omega)]
      refine ⟨by omega, by omega, by omega, by omega, fun c1 => ⟨by omega, ih t (x + 1) (by omega) (by omega) (by omega) ht (fun j q1 q2 => ?_)⟩, fun c1 => ⟨by omega, ih x (x + 1) (by omega) (by omega) (by omega) ⟨hx0, by omega⟩ (fun j q1 q2 => ?_)⟩⟩
      · by_cases e : j = x
        · rw [e]; exact c1
        · exact hm j q1 (by omega)
      · by_cases e : j = x
        · rw [e]; exact Int.le_refl _
        · have := hm j q1 (by omega); omega
  exact vX2_leastRankIn_0 (key (b - a + 1).toNat a a (by omega) (by omega) (by omega) (by omega) (fun j q1 q2 => by omega))
/-- what is answered of a group -/
def GA (I : IN) (g x r : Int) : Prop := (¬ (0 ≤ g ∧ g < C (G I) 0 (nW I)) → r = -1) ∧ ∀ v, 0 ≤ v → v < nW I → G I v → C (G I) 0 v = g → (x < 0 ∨ 4 < x → r = -1) ∧ (x = 0 → r = v) ∧ (x = 1 → r = rn I v) ∧ (x = 2 → ∀ t, LR I v (v + rn I v) t → r = t) ∧ (x = 3 → (¬ g + 1 < C (G I) 0 (nW I) → r = -1) ∧ ∀ u, 0 ≤ u → u < nW I → G I u → C (G I) 0 u = g + 1 → r = u - v) ∧ (x = 4 → r = S (pW I) v (v + rn I v))
theorem m_group {X : Nat × (Int → Int)} {h : HP} {I : IN} {nm : Int → Int} (hI : OKI I) (hC : CIn I h) (hM : MIn I h) (hN : NM (iN I) nm h) (hso : SO h) (hst : h 0 8 = 0 → CD I h) {g x r : Int} (hr : GA I g x r) : Wd mX9_group X 0 [(2, 41), (0, g), (0, x), (9, 0), (9, 0), (9, 0), (9, 0), (9, 0)] [] h (fun r2 h2 => r = r2 ∧ RL9 h2) := by
  have hnw := nW_le hI
  have hG := C_bound (p := G I) hnw.1
  refine vX9_group_0 (q_lays hI hC hM hN hso hst (fun h2 c2 n2 x2 v2 rl => ?_))
  have rl2 : RL9 h2 := rl h2 (fun _ _ _ => rfl)
  have hp : ∀ w, 0 ≤ w → w < nW I → 2 ≤ pW I w ∧ pW I w ≤ 600 := fun w q1 q2 => (x2.2.1.2 w q1 q2).2.2.2.2.2.2.2.1
  refine p_groupAt hI x2 (fun v v0 v1 gv cv => ⟨fun z => by omega, fun _ => p_isIn (fun i0 i1 => ⟨fun _ => p_run hI x2 v0 v1 ?_, fun z => by omega⟩) (fun i => ⟨fun z => absurd rfl z, fun _ => ⟨(hr.2 v v0 v1 gv cv).1 (by omega), rl2⟩⟩)⟩) (fun z => ⟨fun _ => ⟨hr.1 z, rl2⟩, fun y => absurd rfl y⟩)
  obtain ⟨r0, r1, r2, r3, r4, r5⟩ := hr.2 v v0 v1 gv cv
  have hrn := rn_in v0 v1
  have hru := (G_rs hI v1 gv).2
  have hgc := C_lt (p := G I) v0 v1 gv
  have hg0 := (C_bound (p := G I) v0).1
  have key : ∀ (d : Nat) (t y : Int), v + rn I v - y < d → v ≤ y → y ≤ v + rn I v → (v ≤ t ∧ t < v + rn I v) → (∀ j, v ≤ j → j < y → rk I t ≤ rk I j) → Wd mX9_group X 42 [(2, 41), (0, g), (0, x), (0, v), (0, rn I v), (0, t), (0, S (pW I) v y), (0, y)] [] h2 (fun r2 h2 => r = r2 ∧ RL9 h2) := by
    intro d
    induction d with
    | zero => intro t y q1 q2 q3; omega
    | succ d ih =>
      intro t y hd hy0 hy1 ht hm
      refine vX9_group_42 ⟨by omega, fun c => ⟨by omega, ?_⟩, fun c => ?_⟩
      · have ey : y = v + rn I v := by omega
        have tail : ∀ q, (x = 3 → ((¬ q = (-1) → (inI (q - v) ∧ r = q - v)) ∧ (q = (-1) → r = -1))) → ((¬ x = 0 → ((¬ x = 1 → ((¬ x = 2 → ((¬ x = 4 → ((¬ q = (-1) → (inI (q - v) ∧ (r = q - v ∧ RL9 h2))) ∧ (q = (-1) → (r = -1 ∧ RL9 h2)))) ∧ (x = 4 → (r = S (pW I) v y ∧ RL9 h2)))) ∧ (x = 2 → (r = t ∧ RL9 h2)))) ∧ (x = 1 → (r = rn I v ∧ RL9 h2)))) ∧ (x = 0 → (r = v ∧ RL9 h2))) := fun q hq =>
          ⟨fun c0 => ⟨fun c1 => ⟨fun c2 => ⟨fun c4 => ⟨fun c5 => ⟨((hq (by omega)).1 c5).1, ((hq (by omega)).1 c5).2, rl2⟩, fun c5 => ⟨(hq (by omega)).2 c5, rl2⟩⟩, fun c4 => ⟨by rw [ey]; exact r5 c4, rl2⟩⟩, fun c2 => ⟨r3 c2 t ⟨ht.1, ht.2, fun j q1 q2 => hm j q1 (by omega)⟩, rl2⟩⟩, fun c1 => ⟨r2 c1, rl2⟩⟩, fun c0 => ⟨r1 c0, rl2⟩⟩
        refine p_groupAt hI x2 (fun u u0 u1 gu cu => tail u (fun c3 => ⟨fun _ => ⟨by omega, (r4 c3).2 u u0 u1 gu cu⟩, fun z => by omega⟩)) (fun z => tail (-1) (fun c3 => ⟨fun z => absurd rfl z, fun _ => (r4 c3).1 (by omega)⟩))
      · have hs := pW_S (a := v) (b := y + 1) hI v0 (by omega) (by omega) hp
        rw [x2.2.2.1 t (by omega) (by omega), x2.2.2.1 y (by omega) (by omega), (x2.2.1.2 y (by omega) (by omega)).2.1, ← S_succ hy0]
        refine ⟨by omega, by omega, by omega, by omega, fun c1 => ⟨by omega, by omega, ih t (y + 1) (by omega) (by omega) (by omega) ht (fun j q1 q2 => ?_)⟩, fun c1 => ⟨by omega, by omega, ih y (y + 1) (by omega) (by omega) (by omega) ⟨hy0, by omega⟩ (fun j q1 q2 => ?_)⟩⟩
        · by_cases e : j = y
          · rw [e]; exact c1
          · exact hm j q1 (by omega)
        · by_cases e : j = y
          · rw [e]; exact Int.le_refl _
          · have := hm j q1 (by omega); omega
  have h1r := hru.1
  have := key (rn I v + 1).toNat v v (by omega) (by omega) (by omega) (by omega) (fun j q1 q2 => by omega)
  rw [S_nil (Int.le_refl v)] at this
  exact this
theorem o_group {X : Nat × (Int → Int)} {h : HP} {g x : Int} (H : RL9 h) : Wd mX8_group X 0 [(2, 0), (0, g), (0, x), (9, 0), (9, 0)] [] h (fun r h1 => Wd mX9_group X 0 [(2, 41), (0, g), (0, x), (9, 0), (9, 0), (9, 0), (9, 0), (9, 0)] [] h1 (fun r2 h2 => r = r2 ∧ RL9 h2)) := by
  obtain ⟨I, nm, hI, hC, hM, hN, hso, hst⟩ := H
  have hnw := nW_le hI
  have hG := C_bound (p := G I) hnw.1
  refine vX8_group_0 (q_both hI hC hM hN hso hst (fun h1' c1 m1 n1 so1 z1 d1 => ?_))
  have hwn := d1.2.1.n hI
  have hcg := d1.2.2.2.2.1
  have mc : ∀ {r : Int}, GA I g x r → Wd mX9_group X 0 [(2, 41), (0, g), (0, x), (9, 0), (9, 0), (9, 0), (9, 0), (9, 0)] [] h1' (fun r2 h2 => r = r2 ∧ RL9 h2) := fun hr => m_group hI c1 m1 n1 so1 (fun _ => d1) hr
  refine p_has0 hcg.1 (fun g0 g1 => ⟨fun _ => ?_, fun z => by omega⟩) (fun z => ⟨fun y => absurd rfl y, fun _ => mc ⟨fun _ => rfl, fun v v0 v1 gv cv => absurd ⟨by have := (C_bound (p := G I) v0).1; omega, by have := C_lt (p := G I) v0 v1 gv; omega⟩ z⟩⟩)
  obtain ⟨v, v0, v1, gv, cv⟩ := C_nth hnw.1 g0 g1
  obtain ⟨e37, e38⟩ := hcg.2.1 v v0 v1 gv
  rw [cv] at e37 e38
  have hrn := rn_in v0 v1
  have hru := (G_rs hI v1 gv).2
  have h1r := hru.1
  have ga : ∀ r, ((x < 0 ∨ 4 < x → r = -1) ∧ (x = 0 → r = v) ∧ (x = 1 → r = rn I v) ∧ (x = 2 → ∀ t, LR I v (v + rn I v) t → r = t) ∧ (x = 3 → (¬ g + 1 < C (G I) 0 (nW I) → r = -1) ∧ ∀ u, 0 ≤ u → u < nW I → G I u → C (G I) 0 u = g + 1 → r = u - v) ∧ (x = 4 → r = S (pW I) v (v + rn I v))) → GA I g x r := fun r hr => ⟨fun z => absurd ⟨g0, g1⟩ z, fun u u0 u1 gu cu => by rw [G_inj u0 v0 gu gv (by omega)]; exact hr⟩
  rw [e37, e38]
  refine ⟨g0, by omega, by omega, fun c => mc (ga _ ⟨fun _ => rfl, fun z => by omega, fun z => by omega, fun z => by omega, fun z => by omega, fun z => by omega⟩), fun c => mc (ga _ ⟨fun z => by omega, fun _ => rfl, fun z => by omega, fun z => by omega, fun z => by omega, fun z => by omega⟩), fun c => mc (ga _ ⟨fun z => by omega, fun z => by omega, fun _ => rfl, fun z => by omega, fun z => by omega, fun z => by omega⟩), fun c => p_leastRankIn hI d1.2.2.1 v0 (by omega) hrn.2 (fun t ht => mc (ga _ ⟨fun z => by omega, fun z => by omega, fun z => by omega, fun _ u hu => LR_uniq hI v0 hrn.2 ht hu, fun z => by omega, fun z => by omega⟩)), fun c => ⟨by omega, ?_⟩, fun c => p_periodsFrom hI hwn v0 (by omega) hrn.2 (mc (ga _ ⟨fun z => by omega, fun z => by omega, fun z => by omega, fun z => by omega, fun z => by omega, fun _ => rfl⟩))⟩
  refine p_has0 hcg.1 (fun y0 y1 => ⟨fun z => by omega, fun _ => ?_⟩) (fun z => ⟨fun _ => mc (ga _ ⟨fun z => by omega, fun z => by omega, fun z => by omega, fun z => by omega, fun _ => ⟨fun _ => rfl, fun u u0 u1 gu cu => ?_⟩, fun z => by omega⟩), fun y => absurd rfl y⟩)
  · obtain ⟨u, u0, u1, gu, cu⟩ := C_nth hnw.1 y0 y1
    obtain ⟨f37, f38⟩ := hcg.2.1 u u0 u1 gu
    rw [cu] at f37
    rw [f37]
    refine ⟨y0, by omega, by omega, mc (ga _ ⟨fun z => by omega, fun z => by omega, fun z => by omega, fun z => by omega, fun _ => ⟨fun z => absurd y1 z, fun u' q0 q1 q2 q3 => ?_⟩, fun z => by omega⟩)⟩
    rw [G_inj u0 q0 gu q2 (by omega)]
  · have := C_lt (p := G I) u0 u1 gu; omega
noncomputable def sq (I : IN) (w : Int) : Int := hW I w * hW I w
theorem sq_S {I : IN} {a b : Int} (hI : OKI I) (h0 : 0 ≤ a) (h1 : a ≤ b) (h2 : b ≤ nW I) (hh : ∀ w, 0 ≤ w → w < nW I → 0 ≤ hW I w ∧ hW I w ≤ 1619838) : 0 ≤ S (sq I) a b ∧ S (sq I) a b ≤ 787162543873200 := by
  have hn := nW_le hI
  have := S_bound (f := sq I) (lo := 0) (hi := 2623875146244) h1 (fun i q1 q2 => by
    have := hh i (by omega) (by omega)
    have := prod_b (a := hW I i) (b := hW I i) (A := 1619838) (B := 1619838) (by omega) (by omega) (by omega) (by omega)
    unfold sq
    omega)
  omega
theorem sq_in {I : IN} {w : Int} (hh : 0 ≤ hW I w ∧ hW I w ≤ 1619838) : inJ (hW I w * hW I w) := by
  have := prod_b (a := hW I w) (b := hW I w) (A := 1619838) (B := 1619838) (by omega) (by omega) (by omega) (by omega)
  omega
theorem p_squaresFrom {X : Nat × (Int → Int)} {h : HP} {Q : Int → HP → Prop} {I : IN} (hI : OKI I) (hW9 : CWn I h) {a b : Int} (h0 : 0 ≤ a) (h1 : a ≤ b) (h2 : b ≤ nW I) (H : Q (S (sq I) a b) h) : Wd mX7_squaresFrom X 0 [(2, 5), (0, a), (0, b), (9, 0), (9, 0), (9, 0)] [] h Q := by
  have hn := nW_le hI
  have hh : ∀ w, 0 ≤ w → w < nW I → 0 ≤ hW I w ∧ hW I w ≤ 1619838 := fun w q1 q2 => (hW9.2 w q1 q2).2.2.2.2.2.2.1
  have key : ∀ (d : Nat) (x : Int), b - x < d → a ≤ x → x ≤ b → Wd mX7_squaresFrom X 5 [(2, 5), (9, 0), (0, b), (1, S (sq I) a x), (9, 0), (0, x)] [] h Q := by
    intro d
    induction d with
    | zero => intro x q1 q2 q3; omega
    | succ d ih =>
      intro x hd hx0 hx1
      refine vX7_squaresFrom_5 ⟨fun c => by rw [show x = b by omega]; exact H, fun c => ?_⟩
      have t := ih (x + 1) (by omega) (by omega) (by omega)
      rw [S_succ hx0] at t
      have := sq_S (a := a) (b := x + 1) hI h0 (by omega) (by omega) hh
      rw [S_succ hx0] at this
      rw [(hW9.2 x (by omega) (by omega)).2.2.1]
      exact ⟨by omega, by omega, sq_in (hh x (by omega) (by omega)), by unfold sq at this ⊢; omega, by omega, t⟩
  have := key (b - a + 1).toNat a (by omega) (by omega) h1
  rw [S_nil (Int.le_refl a)] at this
  exact vX7_squaresFrom_0 this
theorem p_energy52 {X : Nat × (Int → Int)} {h : HP} {Q : Int → HP → Prop} {I : IN} (hI : OKI I) (hM : MWn I h) {a n : Int} (h0 : 0 ≤ a) (h1 : 0 ≤ n) (h2 : a + n ≤ nW I) (H : Q (S (sq I) a (a + n)) h) : Wd mX9_energy X 52 [(2, 41), (9, 0), (0, a), (0, n), (1, 0), (9, 0), (0, a)] [] h Q := by
  have hn := nW_le hI
  have hh : ∀ w, 0 ≤ w → w < nW I → 0 ≤ hW I w ∧ hW I w ≤ 1619838 := fun w q1 q2 => (hM.2 w q1 q2).2.2.2.2.2.2.1
  have key : ∀ (d : Nat) (x : Int), a + n - x < d → a ≤ x → x ≤ a + n → Wd mX9_energy X 52 [(2, 41), (9, 0), (0, a), (0, n), (1, S (sq I) a x), (9, 0), (0, x)] [] h Q := by
    intro d
    induction d with
    | zero => intro x q1 q2 q3; omega
    | succ d ih =>
      intro x hd hx0 hx1
      refine vX9_energy_52 ⟨by omega, fun c => by rw [show a + n = x by omega] at H; exact H, fun c => ?_⟩
      have t := ih (x + 1) (by omega) (by omega) (by omega)
      rw [S_succ hx0] at t
      have := sq_S (a := a) (b := x + 1) hI h0 (by omega) (by omega) hh
      rw [S_succ hx0] at this
      refine p_height hI hM (by omega) (by omega) (p_height hI hM (by omega) (by omega) ?_)
      exact ⟨sq_in (hh x (by omega) (by omega)), by unfold sq at this ⊢; omega, by omega, t⟩
  have := key (n + 1).toNat a (by omega) (by omega) (by omega)
  rw [S_nil (Int.le_refl a)] at this
  exact this
theorem o_energy {X : Nat × (Int → Int)} {h : HP} {g : Int} (H : RL9 h) : Wd mX8_energy X 0 [(2, 0), (0, g), (9, 0)] [] h (fun r h1 => Wd mX9_energy X 0 [(2, 41), (0, g), (9, 0), (9, 0), (9, 0), (9, 0), (9, 0)] [] h1 (fun r2 h2 => r = r2 ∧ RL9 h2)) := by
  obtain ⟨I, nm, hI, hC, hM, hN, hso, hst⟩ := H
  have hnw := nW_le hI
  have hG := C_bound (p := G I) hnw.1
  refine vX8_energy_0 (q_both hI hC hM hN hso hst (fun h1' c1 m1 n1 so1 z1 d1 => ?_))
  have hwn := d1.2.1.n hI
  have hcg := d1.2.2.2.2.1
  have mo : ∀ r, (g = -1 → r = S (sq I) 0 (nW I)) → (¬ g = -1 → ¬ (0 ≤ g ∧ g < C (G I) 0 (nW I)) → r = -1) → (∀ v, 0 ≤ v → v < nW I → G I v → C (G I) 0 v = g → r = S (sq I) v (v + rn I v)) → Wd mX9_energy X 0 [(2, 41), (0, g), (9, 0), (9, 0), (9, 0), (9, 0), (9, 0)] [] h1' (fun r2 h2 => r = r2 ∧ RL9 h2) := fun r k1 k2 k3 => by
    refine vX9_energy_0 (q_lays hI c1 m1 n1 so1 (fun _ => d1) (fun h2 c2 n2 x2 v2 rl => ?_))
    have rl2 : RL9 h2 := rl h2 (fun _ _ _ => rfl)
    refine ⟨fun c => p_groupAt hI x2 (fun v v0 v1 gv cv => ⟨fun _ => ⟨fun _ => p_run hI x2 v0 v1 (p_energy52 hI x2.2.1 v0 (rn_in v0 v1).1 (rn_in v0 v1).2 ⟨k3 v v0 v1 gv cv, rl2⟩), fun z => absurd z c⟩, fun z => by omega⟩) (fun z => ⟨fun y => absurd rfl y, fun _ => ⟨k2 c z, rl2⟩⟩), fun c => ⟨fun z => absurd c z, fun _ => ?_⟩⟩
    rw [x2.2.1.1]
    refine p_energy52 hI x2.2.1 (Int.le_refl 0) hnw.1 (by omega) ⟨?_, rl2⟩
    rw [Int.zero_add]; exact k1 c
  refine ⟨fun c => p_has0 hcg.1 (fun g0 g1 => ⟨fun _ => ?_, fun z => by omega⟩) (fun z => ⟨fun y => absurd rfl y, fun _ => mo _ (fun y => absurd y c) (fun _ _ => rfl) (fun v v0 v1 gv cv => absurd ⟨by have := (C_bound (p := G I) v0).1; omega, by have := C_lt (p := G I) v0 v1 gv; omega⟩ z)⟩), fun c => ?_⟩
  · obtain ⟨v, v0, v1, gv, cv⟩ := C_nth hnw.1 g0 g1
    obtain ⟨e37, e38⟩ := hcg.2.1 v v0 v1 gv
    rw [cv] at e37 e38
    have hrn := rn_in v0 v1
    rw [e37, e38]
    refine ⟨g0, by omega, by omega, p_squaresFrom hI hwn v0 (by omega) hrn.2 (mo _ (fun y => absurd y c) (fun _ z => absurd ⟨g0, g1⟩ z) (fun u u0 u1 gu cu => ?_))⟩
    rw [G_inj u0 v0 gu gv (by omega)]
  · rw [hwn.1]
    exact p_squaresFrom hI hwn (Int.le_refl 0) hnw.1 (Int.le_refl _) (mo _ (fun _ => rfl) (fun z => absurd c z) (fun u u0 u1 gu cu => by have := (C_bound (p := G I) u0).1; omega))

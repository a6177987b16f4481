/-! four, forget -/
def A4 (x : Int) : Nat → Int
  | 0 => Int.bmod (Int.bmod ((Int64.ofInt x >>> ((Int32.ofInt 48).toInt64 &&& 63)).toInt) 4294967296) 65536
  | 1 => Int.bmod (Int.bmod ((Int64.ofInt x >>> ((Int32.ofInt 32).toInt64 &&& 63)).toInt) 4294967296) 65536
  | 2 => Int.bmod (Int.bmod ((Int64.ofInt x >>> ((Int32.ofInt 16).toInt64 &&& 63)).toInt) 4294967296) 65536
  | _ => Int.bmod (Int.bmod x 4294967296) 65536
theorem p_part {X : Nat × (Int → Int)} {h : HP} {Q : Int → HP → Prop} {x : Int} (hx : inJ x) (k : Nat) (hk : k < 4) (H : Q (A4 x k) h) : Wd mX9_part X 0 [(1, x), (9, 0), (0, k)] [] h Q := by
  refine vX9_part_0 ⟨by omega, ?_⟩
  rcases (by omega : k = 0 ∨ k = 1 ∨ k = 2 ∨ k = 3) with rfl | rfl | rfl | rfl
  · rw [part_eq hx 0 ((Int32.ofInt 48).toInt64 &&& 63) _ _ (by decide) (by decide) (by decide) (by decide)]; exact H
  · rw [part_eq hx 1 ((Int32.ofInt 32).toInt64 &&& 63) _ _ (by decide) (by decide) (by decide) (by decide)]; exact H
  · rw [part_eq hx 2 ((Int32.ofInt 16).toInt64 &&& 63) _ _ (by decide) (by decide) (by decide) (by decide)]; exact H
  · rw [part_eq hx 3 0 _ _ (by decide) (by decide) (by decide) (by decide), sh_r hx 0 0 (by decide)]
    rw [show ((2 ^ 0 : Nat) : Int) = 1 from rfl, Int.ediv_one]; exact H
theorem p_four9 {X : Nat × (Int → Int)} {h : HP} {Q : Int → HP → Prop} {I : IN} {nm : Int → Int} {x : Int} (hx : inJ x) (hI : OKI I) (hM : MIn I h) (hN : NMm (iN I) nm h)
    (H1 : (hv9 (A4 x 0) ∧ hv9 (A4 x 1) ∧ hv9 (A4 x 2) ∧ hv9 (A4 x 3) ∧ iN I + 4 ≤ 600) → ∀ h' : HP, (∀ k i, ¬ (k = 42 ∨ k = 46 ∨ (k = 41 ∧ i = 5)) → h' k i = h k i) → MIn (addI (addI (addI (addI I (A4 x 0)) (A4 x 1)) (A4 x 2)) (A4 x 3)) h' → NMm (iN I + 1 + 1 + 1 + 1) (addN (iN I + 1 + 1 + 1) (addN (iN I + 1 + 1) (addN (iN I + 1) (addN (iN I) nm)))) h' → Q (iN I + 1 + 1 + 1 + 1) h')
    (H0 : ¬ (hv9 (A4 x 0) ∧ hv9 (A4 x 1) ∧ hv9 (A4 x 2) ∧ hv9 (A4 x 3) ∧ iN I + 4 ≤ 600) → Q (-1) h) : Wd mX9_four X 0 [(2, 41), (1, x), (9, 0), (9, 0), (9, 0)] [] h Q := by
  have h0 := hI.1
  refine vX9_four_0 ?_
  rw [hM.1]
  refine ⟨by omega, fun c => ?_, fun c => H0 (fun z => c z.2.2.2.2)⟩
  refine vX9_four_16 ⟨fun z => by omega, fun _ => p_part hx 0 (by decide) (p_isHeave (fun v0 => ⟨fun _ => ⟨by omega, ?_⟩, fun z => by omega⟩) (fun v0 => ⟨fun z => absurd rfl z, fun _ => H0 (fun z => v0 z.1)⟩))⟩
  refine vX9_four_16 ⟨fun z => by omega, fun _ => p_part hx 1 (by decide) (p_isHeave (fun v1 => ⟨fun _ => ⟨by omega, ?_⟩, fun z => by omega⟩) (fun v1 => ⟨fun z => absurd rfl z, fun _ => H0 (fun z => v1 z.2.1)⟩))⟩
  refine vX9_four_16 ⟨fun z => by omega, fun _ => p_part hx 2 (by decide) (p_isHeave (fun v2 => ⟨fun _ => ⟨by omega, ?_⟩, fun z => by omega⟩) (fun v2 => ⟨fun z => absurd rfl z, fun _ => H0 (fun z => v2 z.2.2.1)⟩))⟩
  refine vX9_four_16 ⟨fun z => by omega, fun _ => p_part hx 3 (by decide) (p_isHeave (fun v3 => ⟨fun _ => ⟨by omega, ?_⟩, fun z => by omega⟩) (fun v3 => ⟨fun z => absurd rfl z, fun _ => H0 (fun z => v3 z.2.2.2.1)⟩))⟩
  refine vX9_four_16 ⟨fun _ => ?_, fun z => by omega⟩
  have i1 := addI_ok hI v0 (by omega)
  have i2 := addI_ok i1 v1 (by show iN I + 1 < 600; omega)
  have i3 := addI_ok i2 v2 (by show iN I + 1 + 1 < 600; omega)
  refine vX9_four_48 ⟨fun z => by omega, fun _ => p_part hx 0 (by decide) (p_heave9 hI hM hN (fun _ _ h1 f1 m1 n1 => ⟨by omega, ?_⟩) (fun z => absurd ⟨v0, by omega⟩ z))⟩
  refine vX9_four_48 ⟨fun z => by omega, fun _ => p_part hx 1 (by decide) (p_heave9 i1 m1 n1 (fun _ _ h2 f2 m2 n2 => ⟨by omega, ?_⟩) (fun z => absurd ⟨v1, by show iN I + 1 < 600; omega⟩ z))⟩
  refine vX9_four_48 ⟨fun z => by omega, fun _ => p_part hx 2 (by decide) (p_heave9 i2 m2 n2 (fun _ _ h3 f3 m3 n3 => ⟨by omega, ?_⟩) (fun z => absurd ⟨v2, by show iN I + 1 + 1 < 600; omega⟩ z))⟩
  refine vX9_four_48 ⟨fun z => by omega, fun _ => p_part hx 3 (by decide) (p_heave9 i3 m3 n3 (fun _ _ h4 f4 m4 n4 => ⟨by omega, ?_⟩) (fun z => absurd ⟨v3, by show iN I + 1 + 1 + 1 < 600; omega⟩ z))⟩
  refine vX9_four_48 ⟨fun _ => ?_, fun z => by omega⟩
  exact H1 ⟨v0, v1, v2, v3, c⟩ h4 (fun k i q => by rw [f4 k i q, f3 k i q, f2 k i q, f1 k i q]) m4 n4
theorem o_four {X : Nat × (Int → Int)} {h : HP} {v : Int} (hv : inJ v) (H : RL9 h) : Wd mX8_four X 0 [(2, 0), (1, v), (9, 0), (9, 0), (9, 0), (9, 0), (9, 0), (9, 0)] [] h (fun r h1 => Wd mX9_four X 0 [(2, 41), (1, v), (9, 0), (9, 0), (9, 0)] [] h1 (fun r2 h2 => r = r2 ∧ RL9 h2)) := by
  have HR := H
  obtain ⟨I, nm, hI, hC, hM, hN, hso, hst⟩ := H
  have h0 := hI.1
  have no : ¬ (hv9 (A4 v 0) ∧ hv9 (A4 v 1) ∧ hv9 (A4 v 2) ∧ hv9 (A4 v 3) ∧ iN I + 4 ≤ 600) → Wd mX9_four X 0 [(2, 41), (1, v), (9, 0), (9, 0), (9, 0)] [] h (fun r2 h2 => -1 = r2 ∧ RL9 h2) := fun z => p_four9 hv hI hM hN.m (fun y => absurd y z) (fun _ => ⟨rfl, HR⟩)
  refine vX8_four_0 ?_
  refine p_canCome (fun v0 => ⟨fun z => by omega, fun _ => ?_⟩) (fun v0 => ⟨fun _ => no (fun z => v0 z.1), fun z => absurd rfl z⟩)
  refine p_canCome (fun v1 => ⟨fun z => by omega, fun _ => ?_⟩) (fun v1 => ⟨fun _ => no (fun z => v1 z.2.1), fun z => absurd rfl z⟩)
  refine p_canCome (fun v2 => ⟨fun z => by omega, fun _ => ?_⟩) (fun v2 => ⟨fun _ => no (fun z => v2 z.2.2.1), fun z => absurd rfl z⟩)
  refine p_canCome (fun v3 => ⟨fun z => by omega, fun _ => vX3_room_0 ?_⟩) (fun v3 => ⟨fun _ => no (fun z => v3 z.2.2.2.1), fun z => absurd rfl z⟩)
  rw [hC.1]
  refine ⟨by omega, fun c => ?_, fun c => no (fun z => by omega)⟩
  have i1 := addI_ok hI v0 (by omega)
  have i2 := addI_ok i1 v1 (by show iN I + 1 < 600; omega)
  have i3 := addI_ok i2 v2 (by show iN I + 1 + 1 < 600; omega)
  have i4 := addI_ok i3 v3 (by show iN I + 1 + 1 + 1 < 600; omega)
  refine p_add3 hI (by omega) hC hN.c (fun h1 f1 c1 n1 => ?_)
  refine p_add3 i1 (by show iN I + 1 < 600; omega) c1 n1 (fun h2 f2 c2 n2 => ?_)
  refine p_add3 i2 (by show iN I + 1 + 1 < 600; omega) c2 n2 (fun h3 f3 c3 n3 => ?_)
  refine p_add3 i3 (by show iN I + 1 + 1 + 1 < 600; omega) c3 n3 (fun h4 f4 c4 n4 => ?_)
  have f : ∀ k i, ¬ (k = 12 ∨ k = 13 ∨ (k = 3 ∧ i = 2)) → h4 k i = h k i := fun k i q => by rw [f4 k i q, f3 k i q, f2 k i q, f1 k i q]
  have g2 : ∀ k i, ¬ (k = 0 ∧ i = 8) → xu h4 0 8 1 k i = h4 k i := fun k i q => xu_ne q
  have z2 : xu h4 0 8 1 0 8 = 1 := xu_eq rfl rfl
  rw [show h4 3 2 = iN I + 1 + 1 + 1 + 1 from c4.1]
  generalize xu h4 0 8 1 = h5 at g2 z2
  refine p_four9 hv hI (hM.keep (fun k i q => by rw [g2 k i (by omega), f k i (by omega)])) (nm := nm) (fun i q1 q2 => by rw [g2 46 i (by omega), f 46 i (by omega)]; exact hN.m i q1 q2) (fun _ h6 f6 m6 n6 => ⟨rfl, ?_⟩) (fun z => absurd ⟨v0, v1, v2, v3, by omega⟩ z)
  refine ⟨_, _, i4, c4.keep (fun k i q => by rw [f6 k i (by omega), g2 k i (by omega)]), m6, NM_mk (fun i q1 q2 => by rw [f6 13 i (by omega), g2 13 i (by omega)]; exact n4 i q1 q2) n6 (addN_ok i3.1.1 (addN_ok i2.1.1 (addN_ok i1.1.1 (addN_ok h0.1 hN.o)))), hso.keep (by rw [f6 8 0 (by omega), g2 8 0 (by omega), f 8 0 (by omega)]) (by rw [f6 8 1 (by omega), g2 8 1 (by omega), f 8 1 (by omega)]), fun z => ?_⟩
  rw [f6 0 8 (by omega), z2] at z
  omega
/-- n samples fewer -/
def cutI (I : IN) (n : Int) : IN := (iN I - n, fun k => iR I (n + k), iS I, iL I, iK I, iB I)
theorem cutI_ok {I : IN} (hI : OKI I) {n : Int} (h0 : 0 ≤ n) (h1 : n ≤ iN I) : OKI (cutI I n) := by
  obtain ⟨a1, a2, a3⟩ := hI
  exact ⟨⟨by show 0 ≤ iN I - n; omega, by show iN I - n ≤ 600; omega⟩, fun k q1 q2 => a2 (n + k) (by omega) (by have q2 : k < iN I - n := q2; omega), a3⟩
theorem cutN_ok {n m : Int} {nm : Int → Int} (h0 : 0 ≤ m) (h1 : m ≤ n) (H : NOK n nm) : NOK (n - m) (fun k => nm (m + k)) := by
  refine ⟨fun i q1 q2 => H.1 (m + i) (by omega) (by omega), ?_⟩
  have e := C_shift (p := fun i => ¬ nm i = 0) (a := m) (n - m).toNat
  rw [show (((n - m).toNat : Nat) : Int) = n - m by omega, show m + (n - m) = n by omega] at e
  rw [e]
  have e2 := C_app (p := fun i => ¬ nm i = 0) h0 h1
  have e3 := C_bound (p := fun i => ¬ nm i = 0) h0
  have := H.2
  omega
theorem p_drop {X : Nat × (Int → Int)} {h0 : HP} {Q : Int → HP → Prop} {I : IN} {nm : Int → Int} {n : Int} (hI : OKI I) (hn0 : 0 ≤ n) (hn1 : n ≤ iN I) (hC : CIn I h0) (hN : NMc (iN I) nm h0)
    (H : ∀ h' : HP, (∀ k i, ¬ (k = 12 ∨ k = 13 ∨ (k = 3 ∧ i = 2)) → h' k i = h0 k i) → CIn (cutI I n) h' → NMc (iN I - n) (fun k => nm (n + k)) h' → Q 0 h') : Wd mX3_drop X 0 [(2, 3), (0, n), (9, 0)] [] h0 Q := by
  have hb := hI.1
  have key : ∀ (d : Nat) (x : Int) (h : HP), iN I - x < d → n ≤ x → x ≤ iN I → (∀ k i, ¬ (k = 12 ∨ k = 13) → h k i = h0 k i) → (∀ j, 0 ≤ j → j < x - n → h 12 j = h0 12 (n + j) ∧ h 13 j = h0 13 (n + j)) → (∀ j, x - n ≤ j → h 12 j = h0 12 j ∧ h 13 j = h0 13 j) → Wd mX3_drop X 15 [(2, 3), (0, n), (0, x)] [] h Q := by
    intro d
    induction d with
    | zero => intro x h q1 q2 q3; omega
    | succ d ih =>
      intro x h hd hx0 hx1 f a b
      have e3 : h 3 2 = iN I := by rw [f 3 2 (by omega)]; exact hC.1
      refine vX3_drop_15 ⟨fun c => ?_, fun c => ?_⟩
      · rw [e3] at c ⊢
        have ex : x = iN I := by omega
        subst ex
        refine ⟨by omega, H _ (fun k i q => by rw [xu_ne (by omega)]; exact f k i (by omega)) ?_ (fun i q1 q2 => ?_)⟩
        · obtain ⟨c1, c2, c3, c4, c5, c6⟩ := hC
          refine ⟨xu_eq rfl rfl, fun i q1 q2 => ?_, fun j q1 q2 => by rw [xu_ne (by omega), f 9 j (by omega)]; exact c3 j q1 q2, ?_, by rw [xu_ne (by omega), f 2 2 (by omega)]; exact c5, fun l q1 q2 => ?_⟩
          · have q2 : i < iN I - n := q2
            rw [xu_ne (by omega), (a i q1 q2).1]; exact c2 (n + i) (by omega) (by omega)
          · rw [xu_ne (by omega), xu_ne (by omega), xu_ne (by omega), xu_ne (by omega), f 1 1 (by omega), f 1 2 (by omega), f 1 3 (by omega), f 1 4 (by omega)]; exact c4
          · rw [xu_ne (by omega), xu_ne (by omega), f 10 l (by omega), f 11 l (by omega)]; exact c6 l q1 q2
        · rw [xu_ne (by omega), (a i q1 q2).2]; exact hN (n + i) (by omega) (by omega)
      · rw [e3] at c
        have bx := b x (by omega)
        refine ⟨by omega, by omega, by omega, by omega, by omega, by omega, ih (x + 1) _ (by omega) (by omega) (by omega) (fun k i q => by rw [xu_ne (by omega), xu_ne (by omega)]; exact f k i q) (fun j q1 q2 => ?_) (fun j q1 => ?_)⟩
        · by_cases e : j = x - n
          · rw [xu_ne (by omega), xu_eq rfl e, xu_eq rfl e, bx.1, bx.2, show n + j = x by omega]; exact ⟨rfl, rfl⟩
          · rw [xu_ne (by omega), xu_ne (by omega), xu_ne (by omega), xu_ne (by omega)]; exact a j q1 (by omega)
        · rw [xu_ne (by omega), xu_ne (by omega), xu_ne (by omega), xu_ne (by omega)]; exact b j (by omega)
  refine vX3_drop_0 ⟨fun c => by omega, fun c => ⟨fun c1 => ?_, fun c1 => by have := hC.1; omega⟩⟩
  exact key (iN I - n + 1).toNat n h0 (by omega) (by omega) hn1 (fun k i _ => rfl) (fun j q1 q2 => by omega) (fun j _ => ⟨rfl, rfl⟩)
theorem p_forget9 {X : Nat × (Int → Int)} {h0 : HP} {Q : Int → HP → Prop} {I : IN} {nm : Int → Int} {n : Int} (hI : OKI I) (hM : MIn I h0) (hN : NMm (iN I) nm h0)
    (H1 : 0 ≤ n → n ≤ iN I → ∀ h' : HP, (∀ k i, ¬ (k = 42 ∨ k = 46 ∨ (k = 41 ∧ i = 5)) → h' k i = h0 k i) → MIn (cutI I n) h' → NMm (iN I - n) (fun k => nm (n + k)) h' → Q (iN I - n) h') (H0 : ¬ (0 ≤ n ∧ n ≤ iN I) → Q (-1) h0) : Wd mX9_forget X 0 [(2, 41), (0, n), (9, 0)] [] h0 Q := by
  have hb := hI.1
  refine vX9_forget_0 ?_
  rw [hM.1]
  refine p_isIn (fun n0 n1 => ⟨fun _ => ?_, fun z => by omega⟩) (fun z => ⟨fun y => absurd rfl y, fun _ => H0 z⟩)
  rw [hM.1]
  have last : ∀ (d : Nat) (x : Int) (h : HP), 600 - x < d → iN I - n ≤ x → x ≤ 600 → (∀ k i, ¬ (k = 42 ∨ k = 46 ∨ (k = 41 ∧ i = 5)) → h k i = h0 k i) → h 41 5 = iN I - n → (∀ j, 0 ≤ j → j < iN I - n → h 42 j = h0 42 (n + j) ∧ h 46 j = h0 46 (n + j)) → Wd mX9_forget X 73 [(2, 41), (9, 0), (0, x)] [] h Q := by
    intro d
    induction d with
    | zero => intro x h q1 q2 q3; omega
    | succ d ih =>
      intro x h hd hx0 hx1 f e5 a
      refine vX9_forget_73 ⟨fun c => ?_, fun c => ?_⟩
      · rw [e5]
        refine H1 n0 n1 h f ?_ (fun i q1 q2 => ?_)
        · obtain ⟨c1, c2, c3, c4, c5⟩ := hM
          refine ⟨e5, fun i q1 q2 => ?_, fun j q1 q2 => by rw [f 43 j (by omega)]; exact c3 j q1 q2, by rw [f 41 6 (by omega)]; exact c4, fun l q1 q2 => by rw [f 44 l (by omega), f 45 l (by omega)]; exact c5 l q1 q2⟩
          have q2 : i < iN I - n := q2
          rw [(a i q1 q2).1]; exact c2 (n + i) (by omega) (by omega)
        · rw [(a i q1 q2).2]; exact hN (n + i) (by omega) (by omega)
      · refine ⟨by omega, by omega, by omega, ih (x + 1) _ (by omega) (by omega) (by omega) (fun k i q => by rw [xu_ne (by omega)]; exact f k i q) (by rw [xu_ne (by omega)]; exact e5) (fun j q1 q2 => by rw [xu_ne (by omega), xu_ne (by omega)]; exact a j q1 q2)⟩
  have key : ∀ (d : Nat) (x : Int) (h : HP), iN I - n - x < d → 0 ≤ x → x ≤ iN I - n → (∀ k i, ¬ (k = 42 ∨ k = 46 ∨ (k = 41 ∧ i = 5)) → h k i = h0 k i) → h 41 5 = iN I - n → (∀ j, 0 ≤ j → j < x → h 42 j = h0 42 (n + j) ∧ h 46 j = h0 46 (n + j)) → (∀ j, x ≤ j → h 42 j = h0 42 j ∧ h 46 j = h0 46 j) → Wd mX9_forget X 26 [(2, 41), (0, n), (0, x)] [] h Q := by
    intro d
    induction d with
    | zero => intro x h q1 q2 q3; omega
    | succ d ih =>
      intro x h hd hx0 hx1 f e5 a b
      refine vX9_forget_26 ⟨fun c => ?_, fun c => ?_⟩
      · rw [e5] at c ⊢
        exact last (601 - (iN I - n)).toNat _ h (by omega) (by omega) (by omega) f e5 (fun j q1 q2 => a j q1 (by omega))
      · rw [e5] at c
        have bx := b (x + n) (by omega)
        refine ⟨by omega, by omega, by omega, by omega, by omega, by omega, ih (x + 1) _ (by omega) (by omega) (by omega) (fun k i q => by rw [xu_ne (by omega), xu_ne (by omega)]; exact f k i q) (by rw [xu_ne (by omega), xu_ne (by omega)]; exact e5) (fun j q1 q2 => ?_) (fun j q1 => ?_)⟩
        · by_cases e : j = x
          · rw [xu_ne (by omega), xu_eq rfl e, xu_eq rfl e, bx.1, bx.2, show n + j = x + n by omega]; exact ⟨rfl, rfl⟩
          · rw [xu_ne (by omega), xu_ne (by omega), xu_ne (by omega), xu_ne (by omega)]; exact a j q1 (by omega)
        · rw [xu_ne (by omega), xu_ne (by omega), xu_ne (by omega), xu_ne (by omega)]; exact b j (by omega)
  exact ⟨by omega, key (iN I - n + 1).toNat 0 _ (by omega) (by omega) (by omega) (fun k i q => by rw [xu_ne (by omega)]) (xu_eq rfl rfl) (fun j q1 q2 => by omega) (fun j q1 => by rw [xu_ne (by omega), xu_ne (by omega)]; exact ⟨rfl, rfl⟩)⟩
theorem o_forget {X : Nat × (Int → Int)} {h : HP} {n : Int} (H : RL9 h) : Wd mX8_forget X 0 [(2, 0), (0, n)] [] h (fun r h1 => Wd mX9_forget X 0 [(2, 41), (0, n), (9, 0)] [] h1 (fun r2 h2 => r = r2 ∧ RL9 h2)) := by
  have HR := H
  obtain ⟨I, nm, hI, hC, hM, hN, hso, hst⟩ := H
  have h0 := hI.1
  have no : ¬ (0 ≤ n ∧ n ≤ iN I) → Wd mX9_forget X 0 [(2, 41), (0, n), (9, 0)] [] h (fun r2 h2 => -1 = r2 ∧ RL9 h2) := fun z => p_forget9 hI hM hN.m (fun y1 y2 => absurd ⟨y1, y2⟩ z) (fun _ => ⟨rfl, HR⟩)
  refine vX8_forget_0 ?_
  rw [hC.1]
  refine ⟨fun c => no (fun z => by omega), fun c => ⟨fun c1 => ?_, fun c1 => no (fun z => by omega)⟩⟩
  refine p_drop hI (by omega) c1 hC hN.c (fun h1 f1 c1' n1 => ?_)
  have f2 : ∀ k i, ¬ (k = 0 ∧ i = 8) → xu h1 0 8 1 k i = h1 k i := fun k i q => xu_ne q
  have z2 : xu h1 0 8 1 0 8 = 1 := xu_eq rfl rfl
  rw [show h1 3 2 = iN I - n from c1'.1]
  generalize xu h1 0 8 1 = h2 at f2 z2
  refine p_forget9 hI (hM.keep (fun k i q => by rw [f2 k i (by omega), f1 k i (by omega)])) (nm := nm) (fun i q1 q2 => by rw [f2 46 i (by omega), f1 46 i (by omega)]; exact hN.m i q1 q2) (fun y1 y2 h3 f3 m3 n3 => ⟨rfl, ?_⟩) (fun z => absurd ⟨by omega, c1⟩ z)
  refine ⟨cutI I n, _, cutI_ok hI y1 y2, c1'.keep (fun k i q => by rw [f3 k i (by omega), f2 k i (by omega)]), m3, NM_mk (fun i q1 q2 => by rw [f3 13 i (by omega), f2 13 i (by omega)]; exact n1 i q1 q2) n3 (cutN_ok y1 y2 hN.o), hso.keep (by rw [f3 8 0 (by omega), f2 8 0 (by omega), f1 8 0 (by omega)]) (by rw [f3 8 1 (by omega), f2 8 1 (by omega), f1 8 1 (by omega)]), fun z => ?_⟩
  rw [f3 0 8 (by omega), z2] at z
  omega

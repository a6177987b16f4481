/-! the class's reading and the model's, whole -/
def CD (I : IN) (h : HP) : Prop := CL I h ∧ CW I h ∧ CRk I h ∧ CQ I h ∧ CG I h ∧ h 4 7 = C (fun k => iR I k = -32768) 0 (iN I) ∧ h 4 8 = C (fun k => iR I k = -32768 ∧ ¬ mM I k = -32768) 0 (iN I)
theorem CW.keep {I : IN} {h h' : HP} (H : CW I h) (hf : ∀ k i, ((24 ≤ k ∧ k ≤ 33) ∨ (k = 5 ∧ i = 10)) → h' k i = h k i) : CW I h' := by
  obtain ⟨a1, a2, a3, a4⟩ := H
  refine ⟨by rw [hf 5 10 (by omega)]; exact a1, fun w s c e q1 q2 => ?_, fun k q1 q2 => ?_, fun t q1 q2 => ?_⟩
  · have := a2 w s c e q1 q2
    unfold WR at *
    rw [hf 25 w (by omega), hf 26 w (by omega), hf 27 w (by omega), hf 28 w (by omega), hf 29 w (by omega), hf 30 w (by omega)]; exact this
  · have := a3 k q1 q2
    rw [hf 24 k (by omega)]; exact this
  · have := a4 t q1 q2
    unfold HT at *
    rw [hf 31 t (by omega), hf 32 t (by omega), hf 33 t (by omega)]; exact this
theorem CG.keep {I : IN} {h h' : HP} (H : CG I h) (hf : ∀ k i, (k = 36 ∨ k = 37 ∨ k = 38 ∨ (k = 7 ∧ i = 3)) → h' k i = h k i) : CG I h' :=
  ⟨by rw [hf 7 3 (by omega)]; exact H.1, fun v q1 q2 q3 => by rw [hf 37 _ (by omega), hf 38 _ (by omega)]; exact H.2.1 v q1 q2 q3, fun w q1 q2 => by rw [hf 36 w (by omega)]; exact H.2.2 w q1 q2⟩
theorem SO.keep {h h' : HP} (H : SO h) (h0 : h' 8 0 = h 8 0) (h1 : h' 8 1 = h 8 1) : SO h' := by unfold SO; rw [h0, h1]; exact H
theorem CD.keep {I : IN} (hI : OKI I) {h h' : HP} (H : CD I h) (hf : ∀ k i, ((4 ≤ k ∧ k ≤ 7) ∨ (15 ≤ k ∧ k ≤ 38)) → h' k i = h k i) : CD I h' :=
  ⟨H.1.keep (fun k i q => hf k i (by omega)) hI.2.2.2.2.2.2.2.2.2.2.1, H.2.1.keep (fun k i q => hf k i (by omega)), H.2.2.1.keep (fun k i q => hf k i (by omega)), H.2.2.2.1.keep (fun k i q => hf k i (by omega)), H.2.2.2.2.1.keep (fun k i q => hf k i (by omega)), by rw [hf 4 7 (by omega)]; exact H.2.2.2.2.2.1, by rw [hf 4 8 (by omega)]; exact H.2.2.2.2.2.2⟩
theorem p_refresh {X : Nat × (Int → Int)} {h0 : HP} {Q : Int → HP → Prop} {I : IN} (hI : OKI I) (hC : CIn I h0) (hso : SO h0) (hst : h0 0 8 = 0 → CD I h0)
    (H : ∀ h' : HP, (∀ k i, ((1 ≤ k ∧ k ≤ 3) ∨ (9 ≤ k ∧ k ≤ 13) ∨ 41 ≤ k) → h' k i = h0 k i) → SO h' → CIn I h' → h' 0 8 = 0 → CD I h' → Q 0 h') : Wd mX8_refresh X 0 [(2, 0)] [] h0 Q := by
  have hL := hI.2.2.2.2.2.2.2.2.2.2.1
  refine vX8_refresh_0 ⟨fun c => ?_, fun c => H h0 (fun k i _ => rfl) hso hC c (hst c)⟩
  have f0 : ∀ k i, ¬ (k = 0 ∧ i = 8) → xu h0 0 8 0 k i = h0 k i := fun k i q => xu_ne q
  have z0 : xu h0 0 8 0 0 8 = 0 := xu_eq rfl rfl
  generalize xu h0 0 8 0 = h1 at f0 z0
  have hC1 : CIn I h1 := hC.keep (fun k i q => f0 k i (by omega))
  refine vX4_mend_0 ?_
  rw [hC1.2.2.1 0 (by omega) (by omega)]
  refine p_mendGaps hI hC1.1 hC1.2.1 (fun h2 f2 hM => ?_)
  have hC2 : CIn I h2 := hC1.keep (fun k i q => f2 k i (by omega))
  rw [hC2.1]
  refine p_split hI hM (fun h3 f3 hS => ?_)
  have hC3 : CIn I h3 := hC2.keep (fun k i q => f3 k i (by omega))
  have e15 : ∀ k, 0 ≤ k → k < iN I → ¬ mM I k = -32768 → h3 15 k = mM I k := fun k q1 q2 q3 => by
    rw [f3 15 k (by omega)]
    rcases hM.1 k q1 q2 with z | z
    · exact absurd z.2 q3
    · exact z.2.2
  refine p_lookThrough hI hC3 hS e15 (fun h4 f4 hV => ?_)
  have hC4 : CIn I h4 := hC3.keep (fun k i q => f4 k i (by omega))
  have hS4 : CS I h4 := ⟨by rw [f4 4 6 (by omega)]; exact hS.1, fun k q1 q2 => by rw [f4 20 k (by omega)]; exact hS.2.1 k q1 q2, fun s q1 q2 => by rw [f4 21 s (by omega), f4 22 s (by omega)]; exact hS.2.2 s q1 q2⟩
  have so4 : SO h4 := hso.keep (by rw [f4 8 0 (by omega), f3 8 0 (by omega), f2 8 0 (by omega), f0 8 0 (by omega)]) (by rw [f4 8 1 (by omega), f3 8 1 (by omega), f2 8 1 (by omega), f0 8 1 (by omega)])
  refine p_findLevels hI hC4 hS4 so4 hV (fun h5 f5 so5 hl => ?_)
  have hC5 : CIn I h5 := hC4.keep (fun k i q => f5 k i (by omega))
  have hL5 : CL I h5 := ⟨⟨by rw [f5 4 6 (by omega)]; exact hS4.1, fun k q1 q2 => by rw [f5 20 k (by omega)]; exact hS4.2.1 k q1 q2, fun s q1 q2 => by rw [f5 21 s (by omega), f5 22 s (by omega)]; exact hS4.2.2 s q1 q2⟩, ⟨fun l hl k q1 q2 q3 => by rw [f5 _ k (by omega)]; exact hV.1 l hl k q1 q2 q3, by rw [f5 4 1 (by omega)]; exact hV.2⟩, hl⟩
  refine vX4_band_0 ?_
  rw [hC5.2.2.1 1 (by omega) (by omega), hC5.1]
  refine p_find7 hI hL5 (fun h6 f6 hW => ?_)
  have hC6 : CIn I h6 := hC5.keep (fun k i q => f6 k i (by omega))
  have hL6 : CL I h6 := hL5.keep (fun k i q => f6 k i (by omega)) hL
  have so6 : SO h6 := so5.keep (f6 8 0 (by omega)) (f6 8 1 (by omega))
  refine p_rank hI (hW.n hI) so6 (fun h7 f7 so7 hR => ?_)
  have hC7 : CIn I h7 := hC6.keep (fun k i q => f7 k i (by omega))
  have hL7 : CL I h7 := hL6.keep (fun k i q => f7 k i (by omega)) hL
  have hW7 : CW I h7 := hW.keep (fun k i q => f7 k i (by omega))
  refine p_weigh hI hC7 (hW7.n hI) hR (fun h8 f8 hQ => ?_)
  have hC8 : CIn I h8 := hC7.keep (fun k i q => f8 k i (by omega))
  have hL8 : CL I h8 := hL7.keep (fun k i q => f8 k i (by omega)) hL
  have hW8 : CW I h8 := hW7.keep (fun k i q => f8 k i (by omega))
  have hR8 : CRk I h8 := hR.keep (fun k i q => f8 k i (by omega))
  refine p_find0 hI hC8 (hW8.n hI) hQ (fun h9 f9 hG => ?_)
  have hC9 : CIn I h9 := hC8.keep (fun k i q => f9 k i (by omega))
  have hL9 : CL I h9 := hL8.keep (fun k i q => f9 k i (by omega)) hL
  have hW9 : CW I h9 := hW8.keep (fun k i q => f9 k i (by omega))
  have hR9 : CRk I h9 := hR8.keep (fun k i q => f9 k i (by omega))
  have hQ9 : CQ I h9 := hQ.keep (fun k i q => f9 k i (by omega))
  refine H h9 (fun k i q => ?_) (so7.keep (by rw [f9 8 0 (by omega), f8 8 0 (by omega)]) (by rw [f9 8 1 (by omega), f8 8 1 (by omega)])) hC9 ?_ ⟨hL9, hW9, hR9, hQ9, hG, ?_, ?_⟩
  · rw [f9 k i (by omega), f8 k i (by omega), f7 k i (by omega), f6 k i (by omega), f5 k i (by omega), f4 k i (by omega), f3 k i (by omega), f2 k i (by omega), f0 k i (by omega)]
  · rw [f9 0 8 (by omega), f8 0 8 (by omega), f7 0 8 (by omega), f6 0 8 (by omega), f5 0 8 (by omega), f4 0 8 (by omega), f3 0 8 (by omega), f2 0 8 (by omega)]; exact z0
  · rw [f9 4 7 (by omega), f8 4 7 (by omega), f7 4 7 (by omega), f6 4 7 (by omega), f5 4 7 (by omega), f4 4 7 (by omega), f3 4 7 (by omega)]; exact hM.2.1
  · rw [f9 4 8 (by omega), f8 4 8 (by omega), f7 4 8 (by omega), f6 4 8 (by omega), f5 4 8 (by omega), f4 4 8 (by omega), f3 4 8 (by omega)]; exact hM.2.2
theorem p_laysWaves {X : Nat × (Int → Int)} {h0 : HP} {Q : Int → HP → Prop} {I : IN} (hI : OKI I) (hM : MIn I h0)
    (H : ∀ h' : HP, (∀ k i, (k ≤ 40 ∨ (42 ≤ k ∧ k ≤ 46) ∨ (k = 41 ∧ (i = 5 ∨ i = 6))) → h' k i = h0 k i) → MIn I h' → MX I h' → MV I (iL I).toNat h' → Q 0 h') : Wd mX9_laysWaves X 0 [(2, 41), (9, 0), (9, 0), (9, 0)] [] h0 Q := by
  have hL := hI.2.2.2.2.2.2.2.2.2.2.1
  refine vX9_laysWaves_0 ?_
  rw [hM.2.2.2.1, show iL I = (((iL I).toNat : Nat) : Int) by omega]
  refine p_laysShown hI hM _ (by omega) (fun h1 f1 hS hV => ?_)
  have hM1 : MIn I h1 := hM.keep (fun k i q => f1 k i (by omega))
  have hL1 : ML I h1 := ⟨hM1, hS, fun k q1 q2 q3 => (hV k q1 q2).1 q3⟩
  have f2 : ∀ k i, ¬ (k = 41 ∧ i = 28) → xu h1 41 28 0 k i = h1 k i := fun k i q => xu_ne q
  have z2 : xu h1 41 28 0 41 28 = 0 := xu_eq rfl rfl
  generalize xu h1 41 28 0 = h2 at f2 z2
  have hL2 : ML I h2 := hL1.keep (fun k i q => f2 k i (by omega))
  refine p_laysW hI hL2 z2 (fun h3 f3 hW => ?_)
  have hL3 : ML I h3 := hL2.keep (fun k i q => f3 k i (by omega))
  have hW3 := hW.n hI
  refine p_ranks9 hI hW3 (fun h4 f4 hr => ?_)
  have hL4 : ML I h4 := hL3.keep (fun k i q => f4 k i (by omega))
  have hW4 : MWn I h4 := hW3.keep (fun k i q => f4 k i (by omega))
  refine p_laysHigh hI hL4.1 hW4 hr (fun h5 f5 hh => ?_)
  have hL5 : ML I h5 := hL4.keep (fun k i q => f5 k i (by omega))
  have hW5 : MWn I h5 := hW4.keep (fun k i q => f5 k i (by omega))
  refine H h5 (fun k i q => ?_) hL5.1 ⟨hL5, hW5, fun w q1 q2 => by rw [f5 63 w (by omega)]; exact hr w q1 q2, hh, fun k q1 q2 => ?_, fun t q1 q2 => ?_⟩ (fun k q1 q2 => ?_)
  · rw [f5 k i (by omega), f4 k i (by omega), f3 k i (by omega), f2 k i (by omega), f1 k i (by omega)]
  · have := hW.2.2.1 k q1 q2
    rw [f5 56 k (by omega), f4 56 k (by omega)]; exact this
  · have := hW.2.2.2 t q1 q2
    unfold MH at *
    rw [f5 52 t (by omega), f4 52 t (by omega), f5 53 t (by omega), f4 53 t (by omega), f5 54 t (by omega), f4 54 t (by omega), f5 55 t (by omega), f4 55 t (by omega)]; exact this
  · rw [f5 50 k (by omega), f4 50 k (by omega), f3 50 k (by omega), f2 50 k (by omega)]; exact hV k q1 q2
/-- names: 0 is none -/
def NM (n : Int) (nm : Int → Int) (h : HP) : Prop := (∀ i, 0 ≤ i → i < n → h 13 i = nm i ∧ (nm i = 0 → h 46 i = -1) ∧ (¬ nm i = 0 → h 46 i = nm i) ∧ 0 ≤ nm i ∧ nm i ≤ 999) ∧ C (fun i => ¬ nm i = 0) 0 n ≤ 20
/-- the class and the model hold the same -/
def RL9 (h : HP) : Prop := ∃ (I : IN) (nm : Int → Int), OKI I ∧ CIn I h ∧ MIn I h ∧ NM (iN I) nm h ∧ SO h ∧ (h 0 8 = 0 → CD I h)
theorem NM.keep {n : Int} {nm : Int → Int} {h h' : HP} (H : NM n nm h) (hf : ∀ i, h' 13 i = h 13 i ∧ h' 46 i = h 46 i) : NM n nm h' :=
  ⟨fun i q1 q2 => by rw [(hf i).1, (hf i).2]; exact H.1 i q1 q2, H.2⟩
/-- a question: the class reads anew, the model too, and what they answer is the same -/
theorem q_both {X : Nat × (Int → Int)} {h0 : HP} {I : IN} {nm : Int → Int} {A : Int → HP → Prop} (hI : OKI I) (hC : CIn I h0) (hM : MIn I h0) (hN : NM (iN I) nm h0) (hso : SO h0) (hst : h0 0 8 = 0 → CD I h0)
    (H : ∀ h1 : HP, CIn I h1 → MIn I h1 → NM (iN I) nm h1 → SO h1 → h1 0 8 = 0 → CD I h1 → A 0 h1) : Wd mX8_refresh X 0 [(2, 0)] [] h0 A := by
  refine p_refresh hI hC hso hst (fun h1 f1 so1 c1 z1 d1 => H h1 c1 (hM.keep (fun k i q => f1 k i (by omega))) (hN.keep (fun i => ⟨f1 13 i (by omega), f1 46 i (by omega)⟩)) so1 z1 d1)
theorem q_lays {X : Nat × (Int → Int)} {h0 : HP} {I : IN} {nm : Int → Int} {A : Int → HP → Prop} (hI : OKI I) (hC : CIn I h0) (hM : MIn I h0) (hN : NM (iN I) nm h0) (hso : SO h0) (hst : h0 0 8 = 0 → CD I h0)
    (H : ∀ h1 : HP, CIn I h1 → NM (iN I) nm h1 → MX I h1 → MV I (iL I).toNat h1 → (∀ h2 : HP, (∀ k i, (k ≤ 40 ∨ (42 ≤ k ∧ k ≤ 46) ∨ (k = 41 ∧ (i = 5 ∨ i = 6))) → h2 k i = h1 k i) → RL9 h2) → A 0 h1) : Wd mX9_laysWaves X 0 [(2, 41), (9, 0), (9, 0), (9, 0)] [] h0 A := by
  refine p_laysWaves hI hM (fun h1 f1 m1 x1 v1 => H h1 (hC.keep (fun k i q => f1 k i (by omega))) (hN.keep (fun i => ⟨f1 13 i (by omega), f1 46 i (by omega)⟩)) x1 v1 (fun h2 f2 => ?_))
  have f : ∀ k i, (k ≤ 40 ∨ (42 ≤ k ∧ k ≤ 46) ∨ (k = 41 ∧ (i = 5 ∨ i = 6))) → h2 k i = h0 k i := fun k i q => by rw [f2 k i q, f1 k i q]
  exact ⟨I, nm, hI, hC.keep (fun k i q => f k i (by omega)), hM.keep (fun k i q => f k i (by omega)), hN.keep (fun i => ⟨f 13 i (by omega), f 46 i (by omega)⟩), hso.keep (f 8 0 (by omega)) (f 8 1 (by omega)), fun z => (hst (by rw [← f 0 8 (by omega)]; exact z)).keep hI (fun k i q => f k i (by omega))⟩

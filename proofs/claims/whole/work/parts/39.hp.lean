/-! the heap at first, and that it is what the class and the model hold -/
def hp0 (fN : Nat → Int32) : HP := fun k i => if k = 0 then (if i = 8 then 1 else 0) else if k = 4 then (if i = 1 then 15 else 0) else if k = 8 then (if i = 0 then 39 else if i = 1 then 40 else 0) else if k = 9 then (if i = 0 then 2 else if i = 2 then 20 else if i = 3 then 2 else 0) else if k = 43 then (if i = 0 then 2 else if i = 2 then 20 else if i = 3 then 2 else 0) else if k = 46 then (fN i.toNat).toInt else 0
theorem i32_in (y : Int32) : inI y.toInt := ⟨Int32.le_toInt y, by have := Int32.toInt_lt y; omega⟩
theorem hp0_in {fN : Nat → Int32} (k i : Int) : inI (hp0 fN k i) := by
  have := i32_in (fN i.toNat)
  unfold hp0
  repeat' split
  all_goals omega
theorem hp0_vh {fN : Nat → Int32} : vh (hp0 fN) := fun k j => by
  have := hp0_in (fN := fN) k j
  split
  · omega
  · exact this
theorem hp0_0 {fN : Nat → Int32} {k : Int} (h0 : ¬ k = 0) (h1 : ¬ k = 4) (h2 : ¬ k = 8) (h3 : ¬ k = 9) (h4 : ¬ k = 43) (h5 : ¬ k = 46) (i : Int) : hp0 fN k i = 0 := by
  unfold hp0; rw [if_neg h0, if_neg h1, if_neg h2, if_neg h3, if_neg h4, if_neg h5]
theorem hp0_zi {fN : Nat → Int32} {k : Int} (h0 : ¬ k = 0) (h1 : ¬ k = 4) (h2 : ¬ k = 8) (h3 : ¬ k = 9) (h4 : ¬ k = 43) (h5 : ¬ k = 46) : (fun j : Nat => Int32.ofInt (hp0 fN k j)) = fun _ => 0 := funext fun j => by rw [hp0_0 h0 h1 h2 h3 h4 h5]; rfl
theorem hp0_zj {fN : Nat → Int32} {k : Int} (h0 : ¬ k = 0) (h1 : ¬ k = 4) (h2 : ¬ k = 8) (h3 : ¬ k = 9) (h4 : ¬ k = 43) (h5 : ¬ k = 46) : (fun j : Nat => Int64.ofInt (hp0 fN k j)) = fun _ => 0 := funext fun j => by rw [hp0_0 h0 h1 h2 h3 h4 h5]; rfl
theorem hp0_9 {fN : Nat → Int32} : (fun j : Nat => Int32.ofInt (hp0 fN 9 j)) = upd (upd (upd (upd (fun _ => 0) 0 2) 1 0) 2 20) 3 2 := funext fun j => by
  show Int32.ofInt (if (j : Int) = 0 then 2 else if (j : Int) = 2 then 20 else if (j : Int) = 3 then 2 else 0) = _
  unfold upd
  by_cases e3 : j = 3
  · subst e3; rfl
  · by_cases e2 : j = 2
    · subst e2; rfl
    · by_cases e1 : j = 1
      · subst e1; rfl
      · by_cases e0 : j = 0
        · subst e0; rfl
        · rw [if_neg (by omega), if_neg (by omega), if_neg (by omega), if_neg e3, if_neg e2, if_neg e1, if_neg e0]; rfl
theorem hp0_43 {fN : Nat → Int32} : (fun j : Nat => Int32.ofInt (hp0 fN 43 j)) = upd (upd (upd (fun _ => 0) 0 2) 2 20) 3 2 := funext fun j => by
  show Int32.ofInt (if (j : Int) = 0 then 2 else if (j : Int) = 2 then 20 else if (j : Int) = 3 then 2 else 0) = _
  unfold upd
  by_cases e3 : j = 3
  · subst e3; rfl
  · by_cases e2 : j = 2
    · subst e2; rfl
    · by_cases e0 : j = 0
      · subst e0; rfl
      · rw [if_neg (by omega), if_neg (by omega), if_neg (by omega), if_neg e3, if_neg e2, if_neg e0]; rfl
theorem hp0_46 {fN : Nat → Int32} : (fun j : Nat => Int32.ofInt (hp0 fN 46 j)) = fN := funext fun j => by
  show Int32.ofInt ((fN ((j : Int)).toNat).toInt) = fN j
  rw [Int.toNat_natCast, Int32.ofInt_toInt]
theorem hp0_rl {fN : Nat → Int32} : RL9 (hp0 fN) := by
  refine ⟨(0, fun _ => 0, fun j => if j = 0 then 2 else if j = 2 then 20 else if j = 3 then 2 else 0, 0, fun _ => 0, fun _ => 0), fun _ => 0, ?_, ?_, ?_, ⟨fun i q1 q2 => ?_, ?_⟩, Or.inl ⟨rfl, rfl⟩, fun z => ?_⟩
  · exact ⟨⟨by decide, by decide⟩, fun k q1 q2 => absurd q2 (by show ¬ k < 0; omega), ⟨by decide, by decide⟩, ⟨by decide, by decide⟩, ⟨by decide, by decide⟩, ⟨by decide, by decide⟩, ⟨by decide, by decide⟩, ⟨by decide, by decide⟩, ⟨by decide, by decide⟩, ⟨by decide, by decide⟩, ⟨by decide, by decide⟩, fun l q1 q2 => absurd q2 (by show ¬ l < 0; omega)⟩
  · exact ⟨rfl, fun k q1 q2 => absurd q2 (by show ¬ k < 0; omega), fun j q1 q2 => rfl, ⟨rfl, rfl, rfl, rfl⟩, rfl, fun l q1 q2 => absurd q2 (by show ¬ l < 0; omega)⟩
  · exact ⟨rfl, fun k q1 q2 => absurd q2 (by show ¬ k < 0; omega), fun j q1 q2 => rfl, rfl, fun l q1 q2 => absurd q2 (by show ¬ l < 0; omega)⟩
  · have q2 : i < 0 := q2
    omega
  · rw [C_nil (Int.le_refl 0)]; decide
  · have z : (1 : Int) = 0 := z
    omega
theorem at_i {D : va_G} {cl : List vw_C} {H : Heap} {E : xE} {ad : Int → Nat} {h : HP} {k n a : Nat} {f : Nat → Int32} (hk : kd k = (0, n)) (ha : ad k = a) (hf : (fun j : Nat => Int32.ofInt (h k j)) = f) (hv : va_at D cl (a, .inl (E.1, n, .inl f)) H) : va_at D cl (ad k, cE E ad h k) H := by rw [cE_i hk, hf, ha]; exact hv
theorem at_j {D : va_G} {cl : List vw_C} {H : Heap} {E : xE} {ad : Int → Nat} {h : HP} {k n a : Nat} {f : Nat → Int64} (hk : kd k = (1, n)) (ha : ad k = a) (hf : (fun j : Nat => Int64.ofInt (h k j)) = f) (hv : va_at D cl (a, .inl (E.2.1, n, .inr (.inl f))) H) : va_at D cl (ad k, cE E ad h k) H := by rw [cE_j hk, hf, ha]; exact hv
theorem at_z {D : va_G} {cl : List vw_C} {H : Heap} {E : xE} {ad : Int → Nat} {h : HP} {k n a : Nat} {f : Nat → Int32} (hk : kd k = (2, n)) (ha : ad k = a) (hf : (fun j : Nat => Int32.ofInt (h k j)) = f) (hv : va_at D cl (a, .inl (E.2.2.1, n, .inl f)) H) : va_at D cl (ad k, cE E ad h k) H := by rw [cE_z hk, hf, ha]; exact hv
theorem at_g {D : va_G} {cl : List vw_C} {H : Heap} {a n : Nat} {c : ClassId} {f g : Nat → Option Nat} (hv : va_at D cl (a, .inl (c, n, .inr (.inr (.inr (.inr g))))) H) (hf : ∀ j, j < n → f j = g j) : va_at D cl (a, .inl (c, n, .inr (.inr (.inr (.inr f))))) H := by
  have hv : H[a]? = some (arrV c n (fun j => va_rf (g j))) := hv
  show H[a]? = some (arrV c n (fun j => va_rf (f j)))
  rw [hv]
  unfold arrV
  congr 3
  funext j
  show va_rf (g j) = va_rf (f j)
  rw [hf j j.2]
theorem va_D_same {A : Nat → Prop} {ws ws' : va_W} (h : ws'.map (fun q => q.1) = ws.map (fun q => q.1)) (hD : va_D A ws) : va_D A ws' := by
  have key : ∀ (k : Nat) (q : Nat × va_E), ws'[k]? = some q → ∃ q2, ws[k]? = some q2 ∧ q2.1 = q.1 := fun k q hq => by
    have e : (ws'.map (fun q => q.1))[k]? = some q.1 := by rw [List.getElem?_map, hq]; rfl
    rw [h, List.getElem?_map] at e
    cases hw : ws[k]? with
    | none => rw [hw] at e; cases e
    | some q2 => rw [hw] at e; exact ⟨q2, rfl, Option.some.inj e⟩
  refine ⟨fun i j p q hi hj hpq => ?_, fun k q hk => ?_⟩
  · obtain ⟨p2, e1, e2⟩ := key i p hi
    obtain ⟨q2, e3, e4⟩ := key j q hj
    exact hD.1 i j p2 q2 e1 e3 (by rw [e2, e4]; exact hpq)
  · obtain ⟨q2, e1, e2⟩ := key k q hk
    rw [← e2]; exact hD.2 k q2 e1
theorem fvs0 {ad : Int → Nat} {fN : Nat → Int32} : fvs ad (hp0 fN) 0 = [.ref (ad 1), .ref (ad 2), .ref (ad 3), .ref (ad 4), .ref (ad 5), .ref (ad 6), .ref (ad 7), .ref (ad 8), .int 1] := by
  unfold fvs
  rw [show fcs 0 = [(3, 1), (3, 2), (3, 3), (3, 4), (3, 5), (3, 6), (3, 7), (3, 8), (2, 0)] from rfl]
  simp only [List.mapIdx_cons, List.mapIdx_nil]
  rfl
theorem fvs1 {ad : Int → Nat} {fN : Nat → Int32} : fvs ad (hp0 fN) 1 = [.ref (ad 9), .int 0, .int 0, .int 0, .int 0] := by
  unfold fvs
  rw [show fcs 1 = [(3, 9), (0, 0), (0, 0), (0, 0), (0, 0)] from rfl]
  simp only [List.mapIdx_cons, List.mapIdx_nil]
  rfl
theorem fvs2 {ad : Int → Nat} {fN : Nat → Int32} : fvs ad (hp0 fN) 2 = [.ref (ad 10), .ref (ad 11), .int 0] := by
  unfold fvs
  rw [show fcs 2 = [(3, 10), (3, 11), (0, 0)] from rfl]
  simp only [List.mapIdx_cons, List.mapIdx_nil]
  rfl
theorem fvs3 {ad : Int → Nat} {fN : Nat → Int32} : fvs ad (hp0 fN) 3 = [.ref (ad 12), .ref (ad 13), .int 0] := by
  unfold fvs
  rw [show fcs 3 = [(3, 12), (3, 13), (0, 0)] from rfl]
  simp only [List.mapIdx_cons, List.mapIdx_nil]
  rfl
theorem fvs4 {ad : Int → Nat} {fN : Nat → Int32} : fvs ad (hp0 fN) 4 = [.ref (ad 14), .ref (ad 15), .ref (ad 20), .ref (ad 21), .ref (ad 22), .ref (ad 23), .int 0, .int 0, .int 0] := by
  unfold fvs
  rw [show fcs 4 = [(3, 14), (4, 0), (3, 20), (3, 21), (3, 22), (3, 23), (0, 0), (0, 0), (0, 0)] from rfl]
  simp only [List.mapIdx_cons, List.mapIdx_nil]
  rfl
theorem fvs5 {ad : Int → Nat} {fN : Nat → Int32} : fvs ad (hp0 fN) 5 = [.ref (ad 24), .ref (ad 25), .ref (ad 26), .ref (ad 27), .ref (ad 28), .ref (ad 29), .ref (ad 30), .ref (ad 31), .ref (ad 32), .ref (ad 33), .int 0] := by
  unfold fvs
  rw [show fcs 5 = [(3, 24), (3, 25), (3, 26), (3, 27), (3, 28), (3, 29), (3, 30), (3, 31), (3, 32), (3, 33), (0, 0)] from rfl]
  simp only [List.mapIdx_cons, List.mapIdx_nil]
  rfl
theorem fvs6 {ad : Int → Nat} {fN : Nat → Int32} : fvs ad (hp0 fN) 6 = [.ref (ad 34), .ref (ad 35), .int 0, .long 0, .long 0, .int 0, .int 0] := by
  unfold fvs
  rw [show fcs 6 = [(3, 34), (3, 35), (0, 0), (1, 0), (1, 0), (0, 0), (0, 0)] from rfl]
  simp only [List.mapIdx_cons, List.mapIdx_nil]
  rfl
theorem fvs7 {ad : Int → Nat} {fN : Nat → Int32} : fvs ad (hp0 fN) 7 = [.ref (ad 36), .ref (ad 37), .ref (ad 38), .int 0] := by
  unfold fvs
  rw [show fcs 7 = [(3, 36), (3, 37), (3, 38), (0, 0)] from rfl]
  simp only [List.mapIdx_cons, List.mapIdx_nil]
  rfl
theorem fvs8 {ad : Int → Nat} {fN : Nat → Int32} : fvs ad (hp0 fN) 8 = [.ref (ad 39), .ref (ad 40), .int 0] := by
  unfold fvs
  rw [show fcs 8 = [(4, 0), (4, 0), (0, 0)] from rfl]
  simp only [List.mapIdx_cons, List.mapIdx_nil]
  rfl
theorem fvs41 {ad : Int → Nat} {fN : Nat → Int32} : fvs ad (hp0 fN) 41 = [.ref (ad 42), .ref (ad 43), .ref (ad 44), .ref (ad 45), .ref (ad 46), .int 0, .int 0, .ref (ad 47), .ref (ad 48), .ref (ad 49), .ref (ad 50), .ref (ad 51), .int 0, .int 0, .int 0, .ref (ad 52), .ref (ad 53), .ref (ad 54), .ref (ad 55), .ref (ad 56), .ref (ad 57), .ref (ad 58), .ref (ad 59), .ref (ad 60), .ref (ad 61), .ref (ad 62), .ref (ad 63), .ref (ad 64), .int 0, .int 0] := by
  unfold fvs
  rw [show fcs 41 = [(3, 42), (3, 43), (3, 44), (3, 45), (3, 46), (0, 0), (0, 0), (3, 47), (3, 48), (3, 49), (3, 50), (3, 51), (0, 0), (0, 0), (0, 0), (3, 52), (3, 53), (3, 54), (3, 55), (3, 56), (3, 57), (3, 58), (3, 59), (3, 60), (3, 61), (3, 62), (3, 63), (3, 64), (0, 0), (2, 0)] from rfl]
  simp only [List.mapIdx_cons, List.mapIdx_nil]
  rfl
theorem wi44 : Cond.initialized RX8 ∈ gtbl := gm 44 (by decide +kernel) rfl
theorem wi53 : Cond.initialized RX9 ∈ gtbl := gm 53 (by decide +kernel) rfl
theorem wi55 : Cond.classLink RL 7 RX8 ∈ gtbl := gm 55 (by decide +kernel) rfl
theorem wi56 : Cond.instantiable RX8 9 ∈ gtbl := gm 56 (by decide +kernel) rfl
theorem wi57 : Cond.methodLink RL 9 yX8_init ∈ gtbl := gm 57 (by decide +kernel) rfl
theorem wi58 : Cond.instanceMethod yX8_init ∈ gtbl := gm 58 (by decide +kernel) rfl
theorem wi59 : Cond.code yX8_init cX8_init 1 none ∈ gtbl := gm 59 (by decide +kernel) rfl
theorem wi729 : Cond.classLink RL 10 RX9 ∈ gtbl := gm 729 (by decide +kernel) rfl
theorem wi730 : Cond.instantiable RX9 30 ∈ gtbl := gm 730 (by decide +kernel) rfl
theorem wi731 : Cond.methodLink RL 12 yX9_init ∈ gtbl := gm 731 (by decide +kernel) rfl
theorem wi732 : Cond.instanceMethod yX9_init ∈ gtbl := gm 732 (by decide +kernel) rfl
theorem wi733 : Cond.code yX9_init cX9_init 2 none ∈ gtbl := gm 733 (by decide +kernel) rfl

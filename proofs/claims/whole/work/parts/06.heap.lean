/-! ROWS of the engine: fields, arrays -/
def avf (h : HP) (k j : Nat) : AV := match (fcs k).getD j (9, 0) with
  | (3, q) => (2, q)
  | (4, _) => (2, h k j)
  | (1, _) => (1, h k j)
  | _ => (0, h k j)
theorem fvs_get {ad : Int → Nat} {h : HP} {k j : Nat} {t : Nat} {y : Int} (hf : (fcs k)[j]? = some (t, y)) : (fvs ad h k)[j]? = some (fv ad h k j (t, y)) := by
  unfold fvs
  rw [List.getElem?_mapIdx, hf]
  rfl
theorem fvs_len {ad : Int → Nat} {h : HP} {k : Nat} : (fvs ad h k).length = (fcs k).length := by
  unfold fvs
  rw [List.length_mapIdx]
theorem isJ_obj {k j ci t : Nat} {y : Int} (hk : kd k = (4, ci)) (hf : (fcs k)[j]? = some (t, y)) : isJ k j = (t == 1) := by
  unfold isJ
  rw [hk]
  simp [List.getD, hf]
theorem cE_obj {E : xE} {ad : Int → Nat} {h : HP} {k ci : Nat} (hk : kd k = (4, ci)) : cE E ad h k = .inr (ci, fvs ad h k) := by
  unfold cE
  rw [hk]
  rfl
theorem cE_i {E : xE} {ad : Int → Nat} {h : HP} {k n : Nat} (hk : kd k = (0, n)) : cE E ad h k = .inl (E.1, n, .inl (fun j => Int32.ofInt (h k j))) := by
  unfold cE
  rw [hk]
  rfl
theorem cE_j {E : xE} {ad : Int → Nat} {h : HP} {k n : Nat} (hk : kd k = (1, n)) : cE E ad h k = .inl (E.2.1, n, .inr (.inl (fun j => Int64.ofInt (h k j)))) := by
  unfold cE
  rw [hk]
  rfl
theorem cE_z {E : xE} {ad : Int → Nat} {h : HP} {k n : Nat} (hk : kd k = (2, n)) : cE E ad h k = .inl (E.2.2.1, n, .inl (fun j => Int32.ofInt (h k j))) := by
  unfold cE
  rw [hk]
  rfl
theorem cE_g {E : xE} {ad : Int → Nat} {h : HP} {k n : Nat} (hk : kd k = (3, n)) : cE E ad h k = .inl (E.2.2.2, n, .inr (.inr (.inr (.inr (fun j => some (ad (15 + (j : Int)))))))) := by
  unfold cE
  rw [hk]
  rfl
theorem fvs_set {ad : Int → Nat} {h : HP} {k j t : Nat} {y z : Int} {v : Value} (hf : (fcs k)[j]? = some (t, y)) (hv : fv ad (xu h k j z) k j (t, y) = v) : (fvs ad h k).set j v = fvs ad (xu h k j z) k := by
  apply List.ext_getElem?
  intro i
  by_cases e : j = i
  · subst e
    rw [List.getElem?_set_self (by rw [fvs_len]; exact (List.getElem?_eq_some_iff.mp hf).1), fvs_get hf, hv]
  · rw [List.getElem?_set_ne e]
    unfold fvs
    rw [List.getElem?_mapIdx, List.getElem?_mapIdx]
    cases hq : (fcs k)[i]? with
    | none => rfl
    | some q =>
      simp only [Option.map_some]
      congr 1
      unfold fv
      have e1 : ¬ (i : Int) = (j : Int) := by omega
      rw [xu_i e1]
/-- a class of the world: its number, name, fields; what the tables say of them -/
def CK (ci : Nat) (C : String) (T : u_T) (N : Nat) (ty : Nat → FieldType) : Prop :=
  vwCl[ci]? = some (C, T, N) ∧ (∀ w ∈ u_ws C T N, w ∈ gtbl) ∧ (∀ k, k < N → parseFieldDescriptor (T k).2.2.1 = some (ty k)) ∧ (∀ a, a < N → ∀ b, b < N → a ≠ b → (T a).2.1 ≠ (T b).2.1)
theorem s_getf {mi : MI} {X : Nat × (Int → Int)} {pc : Nat} {L S : List AV} {h : HP} {Q : Int → HP → Prop} (n : Nat) {idx : Nat} (k j : Nat) {z : Int} {v : AV} {ci N t : Nat} {y : Int} {C : String} {T : u_T} {ty : Nat → FieldType} (hn : pc + 3 = n) (hd : decode mi.2.1 pc = .ok (.getfield idx, 3)) (hc : CK ci C T N ty) (hz : z = (k : Int)) (hk : k < NC) (hkd : kd k = (4, ci)) (hj : j < N) (hw : Cond.fieldLink mi.1.cls idx (T j).1 (T j).2.1 (T j).2.2.1 ∈ gtbl) (hf : (fcs k)[j]? = some (t, y)) (hv : avf h k j = v) (H : Wd mi X n L (v :: S) h Q) : Wd mi X pc L ((2, z) :: S) h Q := by
  subst hn
  subst hz
  intro p l e R s m args below meth c HH locs cells slots D E ad A ls Qm hC hS hL hvs hr
  have he := wl_get (E := E) (ad := ad) (h := h) hk
  rw [cE_obj hkd] at he
  have e9 : fv ad h k j (t, y) = xg ad v ∧ vv v := by
    have hJ := isJ_obj hkd hf
    have hg : (fcs k).getD j (9, 0) = (t, y) := by simp [List.getD, hf]
    unfold avf at hv
    rw [hg] at hv
    match t, hv, hJ with
    | 0, hv, hJ => subst hv; exact ⟨rfl, vvI (hS.2.2.2.i hJ)⟩
    | 1, hv, hJ => subst hv; exact ⟨rfl, vvJ (hS.2.2.2.j hJ)⟩
    | 2, hv, hJ => subst hv; exact ⟨rfl, vvI (hS.2.2.2.i hJ)⟩
    | 3, hv, _ => subst hv; exact ⟨rfl, vvR⟩
    | 4, hv, _ => subst hv; exact ⟨rfl, vvR⟩
    | q + 5, hv, hJ => subst hv; exact ⟨rfl, vvI (hS.2.2.2.i (by rw [hJ]; simp))⟩
  exact va_get (D := D) (ci := ci) (v := xg ad v) hC.1 hC.2.1 hC.2.2.2.2.1 hc.2.1 hC.2.2.2.1 hC.2.2.2.2.2.1 hS.1 k he hc.1 j hj (hC.2.2.2.2.1 _ hw) (fun _ q => q) (by rw [fvs_get hf, e9.1]) hd
    (H p l e R s m args below meth c HH locs cells slots D E ad A ls Qm hC hS hL (VS.c e9.2 hvs.t) hr)
theorem s_putx {mi : MI} {X : Nat × (Int → Int)} {pc : Nat} {L S : List AV} {h : HP} {Q : Int → HP → Prop} (n : Nat) {idx : Nat} (k j : Nat) {z x : Int} {g : Nat} {ci N t : Nat} {y : Int} {C : String} {T : u_T} {ty : Nat → FieldType} (hn : pc + 3 = n) (hd : decode mi.2.1 pc = .ok (.putfield idx, 3)) (hc : CK ci C T N ty) (hz : z = (k : Int)) (hk : k < NC) (hkd : kd k = (4, ci)) (hj : j < N) (hw : Cond.fieldLink mi.1.cls idx (T j).1 (T j).2.1 (T j).2.2.1 ∈ gtbl) (hfin : (T j).2.2.2 = false) (hf : (fcs k)[j]? = some (t, y))
    (hval : ∀ ad : Int → Nat, narrow (ty j) (xg ad (g, x)) = xg ad (g, x) ∧ fits (ty j) (xg ad (g, x)) = true ∧ fv ad (xu h k j x) k j (t, y) = xg ad (g, x)) (hvx : vv (g, x) → if (t == 1) = true then inJ x else inI x)
    (H : Wd mi X n L S (xu h k j x) Q) : Wd mi X pc L ((g, x) :: (2, z) :: S) h Q := by
  subst hn
  subst hz
  intro p l e R s m args below meth c HH locs cells slots D E ad A ls Qm hC hS hL hvs hr
  have he := wl_get (E := E) (ad := ad) (h := h) hk
  rw [cE_obj hkd] at he
  obtain ⟨v1, v2, v3⟩ := hval ad
  refine va_put (D := D) (ci := ci) (v := xg ad (g, x)) (ty := ty j) hC.1 hC.2.1 hC.2.2.2.2.1 hc.2.1 ty hc.2.2.1 hc.2.2.2 hC.2.2.2.1 hC.2.2.2.2.2.1 hS.1 hS.2.1 hS.2.2.1 k he hc.1 j hj (hC.2.2.2.2.1 _ hw) (fun _ q => q) hfin (hc.2.2.1 j hj) v1 v2 (by rw [fvs_len]; exact (List.getElem?_eq_some_iff.mp hf).1) hd (fun H1 locs1 hP hD hSS => ?_)
  have ew : (wl E ad h).set k (ad (k : Int), .inr (ci, (fvs ad h k).set j (xg ad (g, x)))) = wl E ad (xu h k j x) := wl_set hk (fun k' q j' => xu_off k' q j') (by rw [cE_obj hkd, fvs_set hf v3])
  rw [ew] at hP hD
  refine H p l e R s m args below meth c H1 locs1 cells slots D E ad A ls Qm hC ⟨hP, hD, hSS, vh_xu hS.2.2.2 (fun q hq => ?_)⟩ hL hvs.t.t hr
  have hq : q = j := Int.ofNat.inj hq
  subst hq
  rw [isJ_obj hkd hf]
  exact hvx hvs.h
theorem s_putI {mi : MI} {X : Nat × (Int → Int)} {pc : Nat} {L S : List AV} {h : HP} {Q : Int → HP → Prop} (n : Nat) {idx : Nat} (k j : Nat) {z x : Int} {ci N : Nat} {y : Int} {C : String} {T : u_T} {ty : Nat → FieldType} (hn : pc + 3 = n) (hd : decode mi.2.1 pc = .ok (.putfield idx, 3)) (hc : CK ci C T N ty) (hz : z = (k : Int)) (hk : k < NC) (hkd : kd k = (4, ci)) (hj : j < N) (hw : Cond.fieldLink mi.1.cls idx (T j).1 (T j).2.1 (T j).2.2.1 ∈ gtbl) (hfin : (T j).2.2.2 = false) (hf : (fcs k)[j]? = some (0, y)) (hty : ty j = .int)
    (H : Wd mi X n L S (xu h k j x) Q) : Wd mi X pc L ((0, x) :: (2, z) :: S) h Q :=
  s_putx n k j hn hd hc hz hk hkd hj hw hfin hf (fun ad => by rw [hty]; exact ⟨rfl, rfl, by show Value.int (Int32.ofInt (xu h k j x k j)) = _; rw [xu_s]; rfl⟩) (fun q => q.i) H
theorem s_putZ {mi : MI} {X : Nat × (Int → Int)} {pc : Nat} {L S : List AV} {h : HP} {Q : Int → HP → Prop} (n : Nat) {idx : Nat} (k j : Nat) {z x : Int} {ci N : Nat} {y : Int} {C : String} {T : u_T} {ty : Nat → FieldType} (hn : pc + 3 = n) (hd : decode mi.2.1 pc = .ok (.putfield idx, 3)) (hc : CK ci C T N ty) (hz : z = (k : Int)) (hk : k < NC) (hkd : kd k = (4, ci)) (hj : j < N) (hw : Cond.fieldLink mi.1.cls idx (T j).1 (T j).2.1 (T j).2.2.1 ∈ gtbl) (hfin : (T j).2.2.2 = false) (hf : (fcs k)[j]? = some (2, y)) (hty : ty j = .boolean) (h01 : x = 0 ∨ x = 1)
    (H : Wd mi X n L S (xu h k j x) Q) : Wd mi X pc L ((0, x) :: (2, z) :: S) h Q :=
  s_putx n k j hn hd hc hz hk hkd hj hw hfin hf (fun ad => by
    rw [hty]
    refine ⟨?_, ?_, by show Value.int (Int32.ofInt (xu h k j x k j)) = _; rw [xu_s]; rfl⟩
    · rcases h01 with q | q <;> rw [q] <;> rfl
    · rcases h01 with q | q <;> rw [q] <;> rfl) (fun q => q.i) H
theorem s_putJ {mi : MI} {X : Nat × (Int → Int)} {pc : Nat} {L S : List AV} {h : HP} {Q : Int → HP → Prop} (n : Nat) {idx : Nat} (k j : Nat) {z x : Int} {ci N : Nat} {y : Int} {C : String} {T : u_T} {ty : Nat → FieldType} (hn : pc + 3 = n) (hd : decode mi.2.1 pc = .ok (.putfield idx, 3)) (hc : CK ci C T N ty) (hz : z = (k : Int)) (hk : k < NC) (hkd : kd k = (4, ci)) (hj : j < N) (hw : Cond.fieldLink mi.1.cls idx (T j).1 (T j).2.1 (T j).2.2.1 ∈ gtbl) (hfin : (T j).2.2.2 = false) (hf : (fcs k)[j]? = some (1, y)) (hty : ty j = .long)
    (H : Wd mi X n L S (xu h k j x) Q) : Wd mi X pc L ((1, x) :: (2, z) :: S) h Q :=
  s_putx n k j hn hd hc hz hk hkd hj hw hfin hf (fun ad => by rw [hty]; exact ⟨rfl, rfl, by show Value.long (Int64.ofInt (xu h k j x k j)) = _; rw [xu_s]; rfl⟩) (fun q => q.j) H
theorem s_putR {mi : MI} {X : Nat × (Int → Int)} {pc : Nat} {L S : List AV} {h : HP} {Q : Int → HP → Prop} (n : Nat) {idx : Nat} (k j : Nat) {z x : Int} {ci N : Nat} {y : Int} {C : String} {T : u_T} {ty : Nat → FieldType} {et : FieldType} (hn : pc + 3 = n) (hd : decode mi.2.1 pc = .ok (.putfield idx, 3)) (hc : CK ci C T N ty) (hz : z = (k : Int)) (hk : k < NC) (hkd : kd k = (4, ci)) (hj : j < N) (hw : Cond.fieldLink mi.1.cls idx (T j).1 (T j).2.1 (T j).2.2.1 ∈ gtbl) (hfin : (T j).2.2.2 = false) (hf : (fcs k)[j]? = some (4, y)) (hty : ty j = .array et) (hx : inI x)
    (H : Wd mi X n L S (xu h k j x) Q) : Wd mi X pc L ((2, x) :: (2, z) :: S) h Q :=
  s_putx n k j hn hd hc hz hk hkd hj hw hfin hf (fun ad => by rw [hty]; exact ⟨rfl, rfl, by show Value.ref (ad (xu h k j x k j)) = _; rw [xu_s]; rfl⟩) (fun _ => hx) H
/-- arrays by place -/
def IA (a : Int) (n : Nat) : Prop := ∃ k : Nat, a = (k : Int) ∧ k < NC ∧ kd k = (0, n)
def JA (a : Int) (n : Nat) : Prop := ∃ k : Nat, a = (k : Int) ∧ k < NC ∧ kd k = (1, n)
def ZA (a : Int) (n : Nat) : Prop := ∃ k : Nat, a = (k : Int) ∧ k < NC ∧ kd k = (2, n)
theorem isJ_i {k n : Nat} (j : Nat) (hk : kd k = (0, n)) : isJ k j = false := by unfold isJ; rw [hk]; rfl
theorem isJ_z {k n : Nat} (j : Nat) (hk : kd k = (2, n)) : isJ k j = false := by unfold isJ; rw [hk]; rfl
theorem isJ_j {k n : Nat} (j : Nat) (hk : kd k = (1, n)) : isJ k j = true := by unfold isJ; rw [hk]; rfl
theorem s_iald {mi : MI} {X : Nat × (Int → Int)} {pc : Nat} {L S : List AV} {h : HP} {Q : Int → HP → Prop} (n : Nat) {a i : Int} {len : Nat} (hn : pc + 1 = n) (hd : decode mi.2.1 pc = .ok (.iaload, 1)) (ha : IA a len) (h0 : 0 ≤ i) (h1 : i < len) {v9 : Int} (hv9 : h a i = v9) (H : Wd mi X n L ((0, v9) :: S) h Q) : Wd mi X pc L ((0, i) :: (2, a) :: S) h Q := by
  subst hv9
  subst hn
  obtain ⟨k, rfl, hk, hkd⟩ := ha
  intro p l e R s m args below meth c HH locs cells slots D E ad A ls Qm hC hS hL hvs hr
  have he := wl_get (E := E) (ad := ad) (h := h) hk
  rw [cE_i hkd] at he
  have hi := hvs.h.i
  obtain ⟨j, rfl⟩ : ∃ j : Nat, i = (j : Int) := ⟨i.toNat, by omega⟩
  refine va_iald hC.1 hC.2.1 hC.2.2.2.2.2.1 hS.1 k 0 he rfl (oI_in hi h0 h1) hd ?_
  rw [oI_toNat hi]
  exact H p l e R s m args below meth c HH locs cells slots D E ad A ls Qm hC hS hL (VS.c (vvI (hS.2.2.2.i (isJ_i j hkd))) hvs.t.t) hr
theorem s_zald {mi : MI} {X : Nat × (Int → Int)} {pc : Nat} {L S : List AV} {h : HP} {Q : Int → HP → Prop} (n : Nat) {a i : Int} {len : Nat} (hn : pc + 1 = n) (hd : decode mi.2.1 pc = .ok (.baload, 1)) (ha : ZA a len) (h0 : 0 ≤ i) (h1 : i < len) {v9 : Int} (hv9 : h a i = v9) (H : Wd mi X n L ((0, v9) :: S) h Q) : Wd mi X pc L ((0, i) :: (2, a) :: S) h Q := by
  subst hv9
  subst hn
  obtain ⟨k, rfl, hk, hkd⟩ := ha
  intro p l e R s m args below meth c HH locs cells slots D E ad A ls Qm hC hS hL hvs hr
  have he := wl_get (E := E) (ad := ad) (h := h) hk
  rw [cE_z hkd] at he
  have hi := hvs.h.i
  obtain ⟨j, rfl⟩ : ∃ j : Nat, i = (j : Int) := ⟨i.toNat, by omega⟩
  refine va_zald hC.1 hC.2.1 hC.2.2.2.2.2.1 hS.1 k 2 he rfl (oI_in hi h0 h1) hd ?_
  rw [oI_toNat hi]
  exact H p l e R s m args below meth c HH locs cells slots D E ad A ls Qm hC hS hL (VS.c (vvI (hS.2.2.2.i (isJ_z j hkd))) hvs.t.t) hr
theorem s_lald {mi : MI} {X : Nat × (Int → Int)} {pc : Nat} {L S : List AV} {h : HP} {Q : Int → HP → Prop} (n : Nat) {a i : Int} {len : Nat} (hn : pc + 1 = n) (hd : decode mi.2.1 pc = .ok (.laload, 1)) (ha : JA a len) (h0 : 0 ≤ i) (h1 : i < len) {v9 : Int} (hv9 : h a i = v9) (H : Wd mi X n L ((1, v9) :: S) h Q) : Wd mi X pc L ((0, i) :: (2, a) :: S) h Q := by
  subst hv9
  subst hn
  obtain ⟨k, rfl, hk, hkd⟩ := ha
  intro p l e R s m args below meth c HH locs cells slots D E ad A ls Qm hC hS hL hvs hr
  have he := wl_get (E := E) (ad := ad) (h := h) hk
  rw [cE_j hkd] at he
  have hi := hvs.h.i
  obtain ⟨j, rfl⟩ : ∃ j : Nat, i = (j : Int) := ⟨i.toNat, by omega⟩
  refine va_lald hC.1 hC.2.1 hC.2.2.2.2.2.1 hS.1 k 1 he rfl (oI_in hi h0 h1) hd ?_
  rw [oI_toNat hi]
  exact H p l e R s m args below meth c HH locs cells slots D E ad A ls Qm hC hS hL (VS.c (vvJ (hS.2.2.2.j (isJ_j j hkd))) hvs.t.t) hr
theorem up_i {h : HP} {k j : Nat} {x : Int} : (fun q : Nat => Int32.ofInt (xu h k j x k q)) = upd (fun q : Nat => Int32.ofInt (h k q)) j (Int32.ofInt x) := by
  funext q
  unfold upd
  by_cases e : q = j
  · subst e; rw [xu_s, if_pos rfl]
  · have e1 : ¬ (q : Int) = (j : Int) := by omega
    rw [xu_i e1, if_neg e]
theorem up_j {h : HP} {k j : Nat} {x : Int} : (fun q : Nat => Int64.ofInt (xu h k j x k q)) = vp_updL (fun q : Nat => Int64.ofInt (h k q)) j (Int64.ofInt x) := by
  funext q
  unfold vp_updL
  by_cases e : q = j
  · subst e; rw [xu_s, if_pos rfl]
  · have e1 : ¬ (q : Int) = (j : Int) := by omega
    rw [xu_i e1, if_neg e]
theorem s_iast {mi : MI} {X : Nat × (Int → Int)} {pc : Nat} {L S : List AV} {h : HP} {Q : Int → HP → Prop} (n : Nat) {a i x : Int} {len : Nat} (hn : pc + 1 = n) (hd : decode mi.2.1 pc = .ok (.iastore, 1)) (ha : IA a len) (h0 : 0 ≤ i) (h1 : i < len) (H : Wd mi X n L S (xu h a i x) Q) : Wd mi X pc L ((0, x) :: (0, i) :: (2, a) :: S) h Q := by
  subst hn
  obtain ⟨k, rfl, hk, hkd⟩ := ha
  intro p l e R s m args below meth c HH locs cells slots D E ad A ls Qm hC hS hL hvs hr
  have he := wl_get (E := E) (ad := ad) (h := h) hk
  rw [cE_i hkd] at he
  have hi := hvs.t.h.i
  obtain ⟨j, rfl⟩ : ∃ j : Nat, i = (j : Int) := ⟨i.toNat, by omega⟩
  refine va_iast hC.1 hC.2.1 hC.2.2.2.2.2.1 hS.1 hS.2.1 hS.2.2.1 k 0 he rfl (oI_in hi h0 h1) hd (fun H1 locs1 hP hD hSS => ?_)
  rw [oI_toNat hi] at hP hD
  have ew := wl_set (E := E) (ad := ad) (h := h) (h' := xu h k j x) hk (fun k' q j' => xu_off k' q j') (x := .inl (E.1, len, .inl (upd (fun q : Nat => Int32.ofInt (h k q)) j (Int32.ofInt x)))) (by rw [cE_i hkd, up_i])
  have e2 : ((j : Int)).toNat = j := Int.toNat_natCast j
  rw [e2, ew] at hP hD
  exact H p l e R s m args below meth c H1 locs1 cells slots D E ad A ls Qm hC ⟨hP, hD, hSS, vh_xu hS.2.2.2 (fun q hq => by rw [isJ_i q hkd]; exact hvs.h.i)⟩ hL hvs.t.t.t hr
theorem s_last {mi : MI} {X : Nat × (Int → Int)} {pc : Nat} {L S : List AV} {h : HP} {Q : Int → HP → Prop} (n : Nat) {a i x : Int} {len : Nat} (hn : pc + 1 = n) (hd : decode mi.2.1 pc = .ok (.lastore, 1)) (ha : JA a len) (h0 : 0 ≤ i) (h1 : i < len) (H : Wd mi X n L S (xu h a i x) Q) : Wd mi X pc L ((1, x) :: (0, i) :: (2, a) :: S) h Q := by
  subst hn
  obtain ⟨k, rfl, hk, hkd⟩ := ha
  intro p l e R s m args below meth c HH locs cells slots D E ad A ls Qm hC hS hL hvs hr
  have he := wl_get (E := E) (ad := ad) (h := h) hk
  rw [cE_j hkd] at he
  have hi := hvs.t.h.i
  obtain ⟨j, rfl⟩ : ∃ j : Nat, i = (j : Int) := ⟨i.toNat, by omega⟩
  refine va_last hC.1 hC.2.1 hC.2.2.2.2.2.1 hS.1 hS.2.1 hS.2.2.1 k 1 he rfl (oI_in hi h0 h1) hd (fun H1 locs1 hP hD hSS => ?_)
  rw [oI_toNat hi] at hP hD
  have ew := wl_set (E := E) (ad := ad) (h := h) (h' := xu h k j x) hk (fun k' q j' => xu_off k' q j') (x := .inl (E.2.1, len, .inr (.inl (vp_updL (fun q : Nat => Int64.ofInt (h k q)) j (Int64.ofInt x))))) (by rw [cE_j hkd, up_j])
  have e2 : ((j : Int)).toNat = j := Int.toNat_natCast j
  rw [e2, ew] at hP hD
  exact H p l e R s m args below meth c H1 locs1 cells slots D E ad A ls Qm hC ⟨hP, hD, hSS, vh_xu hS.2.2.2 (fun q hq => by rw [isJ_j q hkd]; exact hvs.h.j)⟩ hL hvs.t.t.t hr
theorem s_zast {mi : MI} {X : Nat × (Int → Int)} {pc : Nat} {L S : List AV} {h : HP} {Q : Int → HP → Prop} (n : Nat) {a i x : Int} {len : Nat} (hn : pc + 1 = n) (hd : decode mi.2.1 pc = .ok (.bastore, 1)) (ha : ZA a len) (h0 : 0 ≤ i) (h1 : i < len) (h01 : x = 0 ∨ x = 1) (H : Wd mi X n L S (xu h a i x) Q) : Wd mi X pc L ((0, x) :: (0, i) :: (2, a) :: S) h Q := by
  subst hn
  obtain ⟨k, rfl, hk, hkd⟩ := ha
  intro p l e R s m args below meth c HH locs cells slots D E ad A ls Qm hC hS hL hvs hr
  have he := wl_get (E := E) (ad := ad) (h := h) hk
  rw [cE_z hkd] at he
  have hi := hvs.t.h.i
  obtain ⟨j, rfl⟩ : ∃ j : Nat, i = (j : Int) := ⟨i.toNat, by omega⟩
  refine va_zast hC.1 hC.2.1 hC.2.2.2.2.2.1 hS.1 hS.2.1 hS.2.2.1 k 2 he rfl (oI_in hi h0 h1) hd (fun H1 locs1 hP hD hSS => ?_)
  have en : vp_nar .boolean (Int32.ofInt x) = Int32.ofInt x := by rcases h01 with q | q <;> rw [q] <;> rfl
  rw [oI_toNat hi, en] at hP hD
  have ew := wl_set (E := E) (ad := ad) (h := h) (h' := xu h k j x) hk (fun k' q j' => xu_off k' q j') (x := .inl (E.2.2.1, len, .inl (upd (fun q : Nat => Int32.ofInt (h k q)) j (Int32.ofInt x)))) (by rw [cE_z hkd, up_i])
  have e2 : ((j : Int)).toNat = j := Int.toNat_natCast j
  rw [e2, ew] at hP hD
  exact H p l e R s m args below meth c H1 locs1 cells slots D E ad A ls Qm hC ⟨hP, hD, hSS, vh_xu hS.2.2.2 (fun q hq => by rw [isJ_z q hkd]; exact hvs.h.i)⟩ hL hvs.t.t.t hr
theorem inI_len {k t n : Nat} (h : kd k = (t, n)) : inI (n : Int) := by
  have key : ∀ q ∈ kdL, q.2 ≤ 1000 := by decide
  have : n ≤ 1000 := by
    unfold kd at h
    rw [List.getD] at h
    cases hq : kdL[k]? with
    | none => rw [hq] at h; cases h; decide
    | some q => rw [hq] at h; have := key q (List.mem_of_getElem? hq); cases h; exact this
  unfold inI; omega
theorem s_alenI {mi : MI} {X : Nat × (Int → Int)} {pc : Nat} {L S : List AV} {h : HP} {Q : Int → HP → Prop} (n : Nat) {a : Int} {len : Nat} (hn : pc + 1 = n) (hd : decode mi.2.1 pc = .ok (.arraylength, 1)) (ha : IA a len) (H : Wd mi X n L ((0, (len : Int)) :: S) h Q) : Wd mi X pc L ((2, a) :: S) h Q := by
  subst hn
  obtain ⟨k, rfl, hk, hkd⟩ := ha
  intro p l e R s m args below meth c HH locs cells slots D E ad A ls Qm hC hS hL hvs hr
  have he := wl_get (E := E) (ad := ad) (h := h) hk
  rw [cE_i hkd] at he
  exact va_alen hC.1 hC.2.1 hC.2.2.2.2.2.1 hS.1 k 0 he rfl (v := Int32.ofInt (len : Int)) Int32.ofInt_eq_ofNat.symm hd (H p l e R s m args below meth c HH locs cells slots D E ad A ls Qm hC hS hL (VS.c (vvI (inI_len hkd)) hvs.t) hr)
theorem s_alenJ {mi : MI} {X : Nat × (Int → Int)} {pc : Nat} {L S : List AV} {h : HP} {Q : Int → HP → Prop} (n : Nat) {a : Int} {len : Nat} (hn : pc + 1 = n) (hd : decode mi.2.1 pc = .ok (.arraylength, 1)) (ha : JA a len) (H : Wd mi X n L ((0, (len : Int)) :: S) h Q) : Wd mi X pc L ((2, a) :: S) h Q := by
  subst hn
  obtain ⟨k, rfl, hk, hkd⟩ := ha
  intro p l e R s m args below meth c HH locs cells slots D E ad A ls Qm hC hS hL hvs hr
  have he := wl_get (E := E) (ad := ad) (h := h) hk
  rw [cE_j hkd] at he
  exact va_alen hC.1 hC.2.1 hC.2.2.2.2.2.1 hS.1 k 1 he rfl (v := Int32.ofInt (len : Int)) Int32.ofInt_eq_ofNat.symm hd (H p l e R s m args below meth c HH locs cells slots D E ad A ls Qm hC hS hL (VS.c (vvI (inI_len hkd)) hvs.t) hr)
/-- the five rows of shown -/
theorem s_aald {mi : MI} {X : Nat × (Int → Int)} {pc : Nat} {L S : List AV} {h : HP} {Q : Int → HP → Prop} (n : Nat) {i : Int} (hn : pc + 1 = n) (hd : decode mi.2.1 pc = .ok (.aaload, 1)) (h0 : 0 ≤ i) (h1 : i < 5) (H : Wd mi X n L ((2, 15 + i) :: S) h Q) : Wd mi X pc L ((0, i) :: (2, 14) :: S) h Q := by
  subst hn
  intro p l e R s m args below meth c HH locs cells slots D E ad A ls Qm hC hS hL hvs hr
  have hkd : kd 14 = (3, 5) := by decide
  have he := wl_get (E := E) (ad := ad) (h := h) (show 14 < NC by decide)
  rw [cE_g hkd] at he
  have hi := hvs.h.i
  obtain ⟨j, rfl⟩ : ∃ j : Nat, i = (j : Int) := ⟨i.toNat, by omega⟩
  have hin := oI_in (n := 5) hi h0 h1
  have hj : j < 5 := by omega
  have ht : (tyE E)[3]? = some (E.2.2.2, .array .int) := rfl
  have e2 : (Int32.ofInt (j : Int)).toNatClampNeg = j := by rw [oI_toNat hi]; exact Int.toNat_natCast j
  refine W.aald (v := .ref (ad (15 + (j : Int)))) (ty := .array .int) hC.1 hC.2.1 (hS.1 14 _ he) ((hC.2.2.2.2.2.1.2 3 _ ht).1 5 (fun j => va_rf (some (ad (15 + (j : Int)))))) rfl (fun q => by cases q) (by show ¬ (Int32.ofInt (j : Int) < 0 ∨ (arrV _ _ _).slots.size ≤ _); rw [arrV_size]; exact hin) (by show (arrV _ _ _).slots[_]? = _; rw [e2, arrV_read _ _ hj]; rfl) rfl rfl hd ?_
  exact H p l e R s m args below meth c HH locs cells slots D E ad A ls Qm hC hS hL (VS.c vvR hvs.t.t) hr
/-- static arrays, the script -/
def xa (X : Nat × (Int → Int)) (a : Int) : Nat × (Int → Int) := if a = 1000 then (4, sx 0) else if a = 1001 then (4, sx 1) else if a = 1002 then (5, sx 2) else if a = 1003 then (5, sx 3) else X
theorem sx_in (i : Nat) (j : Int) : inI (sx i j) := by
  have key : ∀ l ∈ sxL, ∀ z ∈ l, inI z := by unfold inI; decide
  unfold sx
  rw [List.getD, List.getD]
  cases h1 : sxL[i]? with
  | none => simp; exact inI_0
  | some l =>
    simp only [Option.getD_some]
    cases h2 : l[j.toNat]? with
    | none => simp; exact inI_0
    | some z => exact key l (List.mem_of_getElem? h1) z (List.mem_of_getElem? h2)
theorem SX.at {X : Nat × (Int → Int)} {ad : Int → Nat} {A : Nat → Prop} {U : State} {H : Heap} (h : SX X ad A U H) {a : Int} (ha : a = 1000 ∨ a = 1001 ∨ a = 1002 ∨ a = 1003 ∨ a = 1004) : va_T .int (ad a) (xa X a).1 (fun j => .int (Int32.ofInt ((xa X a).2 j))) A U H ∧ (xa X a).1 ≤ 1536 ∧ ∀ j : Nat, j < (xa X a).1 → inI ((xa X a).2 j) := by
  obtain ⟨-, ⟨b1, b2, b3, b4⟩, ⟨c1, c2, c3⟩, -, -⟩ := h
  rcases ha with rfl | rfl | rfl | rfl | rfl
  · exact ⟨b1, (by decide : 4 ≤ 1536), fun j _ => sx_in 0 j⟩
  · exact ⟨b2, (by decide : 4 ≤ 1536), fun j _ => sx_in 1 j⟩
  · exact ⟨b3, (by decide : 5 ≤ 1536), fun j _ => sx_in 2 j⟩
  · exact ⟨b4, (by decide : 5 ≤ 1536), fun j _ => sx_in 3 j⟩
  · exact ⟨c1, c2, c3⟩
theorem s_xald {mi : MI} {X : Nat × (Int → Int)} {pc : Nat} {L S : List AV} {h : HP} {Q : Int → HP → Prop} (n : Nat) {a i : Int} {len : Nat} {f : Int → Int} (hn : pc + 1 = n) (hd : decode mi.2.1 pc = .ok (.iaload, 1)) (ha : a = 1000 ∨ a = 1001 ∨ a = 1002 ∨ a = 1003 ∨ a = 1004) (hx : xa X a = (len, f)) (h0 : 0 ≤ i) (h1 : i < len) (H : Wd mi X n L ((0, f i) :: S) h Q) : Wd mi X pc L ((0, i) :: (2, a) :: S) h Q := by
  subst hn
  intro p l e R s m args below meth c HH locs cells slots D E ad A ls Qm hC hS hL hvs hr
  obtain ⟨t1, t2, t3⟩ := hC.2.2.2.2.2.2.2.2.at ha
  rw [hx] at t1 t2 t3
  have hi := hvs.h.i
  obtain ⟨j, rfl⟩ : ∃ j : Nat, i = (j : Int) := ⟨i.toNat, by omega⟩
  refine va_ti hC.1 hC.2.1 t1 hS.2.2.1 (oI_in hi h0 h1) (v := .int (Int32.ofInt (f j))) (by rw [oI_toNat hi]; rfl) hd ?_
  exact H p l e R s m args below meth c HH locs cells slots D E ad A ls Qm hC hS hL (VS.c (vvI (t3 j (by omega))) hvs.t.t) hr
theorem s_xlen {mi : MI} {X : Nat × (Int → Int)} {pc : Nat} {L S : List AV} {h : HP} {Q : Int → HP → Prop} (n : Nat) {a : Int} {len : Nat} {f : Int → Int} (hn : pc + 1 = n) (hd : decode mi.2.1 pc = .ok (.arraylength, 1)) (ha : a = 1000 ∨ a = 1001 ∨ a = 1002 ∨ a = 1003 ∨ a = 1004) (hx : xa X a = (len, f)) (H : Wd mi X n L ((0, (len : Int)) :: S) h Q) : Wd mi X pc L ((2, a) :: S) h Q := by
  subst hn
  intro p l e R s m args below meth c HH locs cells slots D E ad A ls Qm hC hS hL hvs hr
  obtain ⟨t1, t2, t3⟩ := hC.2.2.2.2.2.2.2.2.at ha
  rw [hx] at t1 t2
  have t2 : len ≤ 1536 := t2
  exact va_tlen hC.1 hC.2.1 t1 hS.2.2.1 (v := Int32.ofInt (len : Int)) Int32.ofInt_eq_ofNat.symm hd (H p l e R s m args below meth c HH locs cells slots D E ad A ls Qm hC hS hL (VS.c (vvI ⟨by omega, by omega⟩) hvs.t) hr)
theorem s_gets {mi : MI} {X : Nat × (Int → Int)} {pc : Nat} {L S : List AV} {h : HP} {Q : Int → HP → Prop} (n : Nat) {idx : Nat} (a : Int) (C f : String) (hn : pc + 3 = n) (hd : decode mi.2.1 pc = .ok (.getstatic idx, 3)) (ha : (a = 1000 ∧ C = "BuoyReader$Settings" ∧ f = "LOWEST") ∨ (a = 1001 ∧ C = "BuoyReader$Settings" ∧ f = "GREATEST") ∨ (a = 1002 ∧ C = "BuoyReader$LensRow" ∧ f = "LEAST_N") ∨ (a = 1003 ∧ C = "BuoyReader$LensRow" ∧ f = "GREATEST_N")) (hw : Cond.fieldLink mi.1.cls idx C f "[I" ∈ gtbl) (H : Wd mi X n L ((2, a) :: S) h Q) : Wd mi X pc L S h Q := by
  subst hn
  intro p l e R s m args below meth c HH locs cells slots D E ad A ls Qm hC hS hL hvs hr
  obtain ⟨⟨a1, a2, a3, a4⟩, -⟩ := hC.2.2.2.2.2.2.2.2
  have k := H p l e R s m args below meth c HH locs cells slots D E ad A ls Qm hC hS hL (VS.c vvR hvs) hr
  rcases ha with ⟨rfl, rfl, rfl⟩ | ⟨rfl, rfl, rfl⟩ | ⟨rfl, rfl, rfl⟩ | ⟨rfl, rfl, rfl⟩
  · exact va_gets hC.1 hC.2.1 a1 hS.2.2.1 hC.2.2.2.1 (hC.2.2.2.2.1 _ hw) (fun _ q => q) hd k
  · exact va_gets hC.1 hC.2.1 a2 hS.2.2.1 hC.2.2.2.1 (hC.2.2.2.2.1 _ hw) (fun _ q => q) hd k
  · exact va_gets hC.1 hC.2.1 a3 hS.2.2.1 hC.2.2.2.1 (hC.2.2.2.2.1 _ hw) (fun _ q => q) hd k
  · exact va_gets hC.1 hC.2.1 a4 hS.2.2.1 hC.2.2.2.1 (hC.2.2.2.2.1 _ hw) (fun _ q => q) hd k
/-- fewer locals, by places -/
def LE9 : List AV → List AV → Prop
  | [], _ => True
  | _ :: _, [] => False
  | x :: l', y :: l => (x.1 = 9 ∨ x = y) ∧ LE9 l' l
theorem LE9.get : ∀ {l' l : List AV}, LE9 l' l → ∀ (i : Nat) (v : AV), l'[i]? = some v → v.1 ≠ 9 → l[i]? = some v
  | [], _, _, i, v, h, _ => by simp at h
  | _ :: _, [], hh, _, _, _, _ => hh.elim
  | x :: l', y :: l, hh, 0, v, h, h9 => by
    cases h
    rcases hh.1 with q | q
    · exact absurd q h9
    · rw [q]; rfl
  | x :: l', y :: l, hh, i + 1, v, h, h9 => LE9.get hh.2 i v h h9
theorem s_less {mi : MI} {X : Nat × (Int → Int)} {pc : Nat} {L S : List AV} {h : HP} {Q : Int → HP → Prop} (L' : List AV) (hl : LE9 L' L) (H : Wd mi X pc L' S h Q) : Wd mi X pc L S h Q := H.less (fun i v h1 h2 => hl.get i v h1 h2)

/-! ROWS of the engine: calls -/
def argL (As : List AV) : List AV := As.flatMap (fun v => if v.1 = 1 then [v, (9, 0)] else [v])
def entL (As : List AV) (n : Nat) : List AV := argL As ++ List.replicate (n - (argL As).length) (9, 0)
theorem xg_cat2 {ad : Int → Nat} {v : AV} (h : v.1 = 1) : (xg ad v).category = 2 := by
  obtain ⟨t, z⟩ := v
  have h : t = 1 := h
  subst h
  rfl
theorem argL_at {ad : Int → Nat} : ∀ (As : List AV) (off i : Nat) (v : AV), VS As → (argL As)[i]? = some v → ¬ v.1 = 9 → (off + i, xg ad v) ∈ lv_args off (As.map (xg ad)) ∧ vv v
  | [], off, i, v, _, h, _ => by simp [argL] at h
  | a :: As, off, i, v, hv, h, h9 => by
    by_cases h1 : a.1 = 1
    · have e : argL (a :: As) = a :: (9, 0) :: argL As := by simp [argL, h1]
      rw [e] at h
      match i, h with
      | 0, h => cases h; exact ⟨by simp [lv_args], hv.h⟩
      | 1, h => cases h; exact absurd rfl h9
      | i + 2, h =>
        have k := argL_at (ad := ad) As (off + 2) i v hv.t h h9
        refine ⟨?_, k.2⟩
        show _ ∈ lv_args off (xg ad a :: As.map (xg ad))
        unfold lv_args
        rw [if_pos (xg_cat2 h1)]
        refine List.mem_cons_of_mem _ ?_
        rw [show off + (i + 2) = off + 2 + i by omega]
        exact k.1
    · have e : argL (a :: As) = a :: argL As := by simp [argL, h1]
      rw [e] at h
      match i, h with
      | 0, h => cases h; exact ⟨by simp [lv_args], hv.h⟩
      | i + 1, h =>
        have k := argL_at (ad := ad) As (off + 1) i v hv.t h h9
        refine ⟨?_, k.2⟩
        show _ ∈ lv_args off (xg ad a :: As.map (xg ad))
        unfold lv_args
        rw [if_neg (by rw [xg_cat1 h1]; decide)]
        refine List.mem_cons_of_mem _ ?_
        rw [show off + (i + 1) = off + 1 + i by omega]
        exact k.1
theorem lg_sl_len {ad : Int → Nat} : ∀ As : List AV, (lg_sl (As.map (xg ad))).length = (argL As).length
  | [] => rfl
  | a :: As => by
    have ih := lg_sl_len (ad := ad) As
    by_cases h1 : a.1 = 1
    · have e1 : argL (a :: As) = a :: (9, 0) :: argL As := by simp [argL, h1]
      have e2 : lg_sl ((a :: As).map (xg ad)) = .val (xg ad a) :: .second :: lg_sl (As.map (xg ad)) := by simp [lg_sl, xg_cat2 h1]
      rw [e1, e2]; simp [ih]
    · have e1 : argL (a :: As) = a :: argL As := by simp [argL, h1]
      have e2 : lg_sl ((a :: As).map (xg ad)) = .val (xg ad a) :: lg_sl (As.map (xg ad)) := by simp [lg_sl, xg_cat1 h1]
      rw [e1, e2]; simp [ih]
theorem HL_entry {ad : Int → Nat} {n : Nat} {As : List AV} (hv : VS As) (hle : (argL As).length ≤ n) : HL ad n ((lg_sl (As.map (xg ad)) ++ List.replicate (n - (lg_sl (As.map (xg ad))).length) Slot.unset).toArray) (entL As n) := by
  have hl := lv_entry (As.map (xg ad)) (n := n) (by rw [lg_sl_len]; exact hle)
  refine ⟨hl.1, hl.2.1, fun i v hi h9 => ?_⟩
  unfold entL at hi
  by_cases h : i < (argL As).length
  · rw [List.getElem?_append_left h] at hi
    have k := argL_at (ad := ad) As 0 i v hv hi h9
    rw [Nat.zero_add] at k
    exact ⟨hl.2.2 _ k.1, k.2⟩
  · rw [List.getElem?_append_right (by omega)] at hi
    have := List.eq_of_mem_replicate (List.mem_of_getElem? hi)
    subst this
    exact absurd rfl h9
/-- what is asked of a method that is called -/
def MOK (mj : MI) : Prop := plainFor mj.1 = true ∧ (mj.1.cls ≠ "java/lang/invoke/MethodHandle" ∧ mj.1.cls ≠ "java/lang/invoke/VarHandle") ∧ Cond.code mj.1 mj.2.1 mj.2.2.1 mj.2.2.2.1 ∈ gtbl ∧ Cond.initialized mj.1.cls ∈ gtbl
def xPc (X : Nat × (Int → Int)) (D : va_G) (E : xE) (ad : Int → Nat) (A : Nat → Prop) (H : Heap) (As : List AV) : Array Value → State → Prop := va_Pc (As.map (xg ad)) (fun U => U.heap = H ∧ va_K D vwCl (tyE E) U ∧ SX X ad A U U.heap)
def xQc (D : va_G) (E : xE) (ad : Int → Nat) (A : Nat → Prop) (o : Option FieldType) (Q : Int → HP → Prop) : Array Value → State → Outcome → State → Prop := fun _ st oc t => (∃ (z : Int) (h' : HP), oc = .returned (rsv ad o z) ∧ vv (rtag o, z) ∧ Q z h' ∧ va_P D vwCl (wl E ad h') t.heap ∧ va_D A (wl E ad h') ∧ vh h') ∧ va_F A st t
abbrev xrm (mj : MI) : Room := { frames := mj.2.2.2.2.1, cells := 0, slots := 0, locals := mj.2.2.2.2.2 }
theorem wd_met {l : Launch} {mj : MI} {X : Nat × (Int → Int)} {h : HP} {Q : Int → HP → Prop} {As Lj : List AV} {D : va_G} {E : xE} {ad : Int → Nat} {A : Nat → Prop} {H : Heap} (hok : MOK mj) (hle : (argL As).length ≤ mj.2.2.1) (hLj : entL As mj.2.2.1 = Lj) (hW : Wd mj X 0 Lj [] h Q) (hvs : VS As) (hP : va_P D vwCl (wl E ad h) H) (hD : va_D A (wl E ad h)) (hv : vh h) (hA : ∀ q : Nat, H.size ≤ q → A q) :
    Met l mj.1 (Cond.code mj.1 mj.2.1 mj.2.2.1 mj.2.2.2.1 :: gtbl) (xrm mj) (xPc X D E ad A H As) (xQc D E ad A mj.2.2.2.1 Q) 0 0 A := by
  refine va_MetF (cc := mj.2.1) (maxL := mj.2.2.1) (ret := mj.2.2.2.1) hok.1 rfl ?_
  intro p e s m args below meth c s₁ B hml hpre
  obtain ⟨rfl, hH, hK, hSX⟩ := hpre
  have hts := atoms_spec (ws := Cond.code mj.1 mj.2.1 mj.2.2.1 mj.2.2.2.1 :: gtbl) B.pre
  have hown : s.vm.findClass mj.1.cls = some m.cls := findClass_of_methodNamed B.named
  have hlocks := B.notSynchronized
  have hret := B.returns
  rw [lg_entry_eq]
  subst hH
  refine hW p l e _ s m _ below meth c s.heap [] 0 0 D E ad A _ _ ⟨B.exec, B.bytes, hml, hown, fun w hw => hts w (List.mem_cons_of_mem _ hw), hK, hA, ⟨Nat.le_refl _, Nat.le_refl _, Nat.le_refl _, Nat.le_refl _⟩, hSX⟩ ⟨hP, hD, va_S.rf, hv⟩ (by rw [← hLj]; exact HL_entry hvs hle) (fun v hq => by cases hq) ?_
  intro pcr ls' H' locs' z h' hrt hvr hQ hS'
  have hq : ∀ t : State, t.heap = H' → xQc D E ad A mj.2.2.2.1 Q (As.map (xg ad)).toArray s (.returned (rsv ad mj.2.2.2.1 z)) t := fun t ht => ⟨⟨z, h', rfl, hvr, hQ, by rw [ht]; exact hS'.1, hS'.2.1, hS'.2.2.2⟩, hS'.2.2.1.F ht⟩
  rcases hrt with ⟨hd, hr⟩ | ⟨hd, hr⟩ | ⟨hd, hr⟩
  · rcases hr with hr | ⟨hr, h01⟩
    · rw [hr] at hq hret ⊢
      exact W.iret (v := Int32.ofInt z) B.exec B.bytes hret (fun t ht _ => hq t ht) hS'.2.2.1.2.2 hd
    · rw [hr] at hq hret ⊢
      exact W.zret (v := Int32.ofInt z) (ty := .boolean) B.exec B.bytes hret (by rcases h01 with q | q <;> rw [q] <;> rfl) (fun t ht _ => hq t ht) hS'.2.2.1.2.2 hd
  · rw [hr] at hq hret ⊢
    exact W.lret (v := Int64.ofInt z) B.exec B.bytes hret (fun t ht _ => hq t ht) hS'.2.2.1.2.2 hd
  · rw [hr] at hq hret ⊢
    exact W.vret B.exec B.bytes hret (fun t ht _ => hq t ht) hS'.2.2.1.2.2 hd
theorem xPc_blind {X : Nat × (Int → Int)} {D : va_G} {E : xE} {ad : Int → Nat} {A : Nat → Prop} {H : Heap} {As : List AV} : FrameBlind (xPc X D E ad A H As) := by
  intro a U g mk q
  obtain ⟨q0, q1, qK, qS⟩ := q
  exact ⟨q0, q1, va_K.moved (u := U) (U := U.calling g mk a) (Vm.Alike.refl U.vm) qK, SX.same (u := U) (U := U.calling g mk a) rfl qS⟩
theorem x_call {p : Program} {l : Launch} {e : Env} {R : Room} {s : State} {m : MethodId} {args : Array Value} {below : List Frame} {meth : Method} {c : Code} {H : Heap} {locs : List Loc} {cells slots pc : Nat} {Qm : State → Prop} {ls : Array Slot} {st0 rest : List Value} {Qa : State → Outcome → State → Prop} {A : Nat → Prop}
    (hr : va_Run p l e R s m args below meth c H locs cells slots 0 0 (F0 m pc ls st0) rest Qa A)
    (kk : ∀ (v : Option Value) (st₀ t : State) (H1 : Heap) (locs1 : List Loc), st₀.heap = H → t.heap = H1 → Qa st₀ (.returned v) t → (∀ q ∈ locs1, q ∈ locs ∨ A q.base) → W p l e R s m args below meth c H1 locs1 cells slots Qm (F0 m (pc + 3) ls (v.toList ++ rest))) : W p l e R s m args below meth c H locs cells slots Qm (F0 m pc ls st0) := by
  intro T hT X
  obtain ⟨v, st₀, t, T', L, h0, X', hL, e1, e2, hq, st⟩ := hr T hT X
  obtain ⟨t2, a1, b1⟩ := kk v st₀ t T'.heap (locs ++ L) h0 e1.symm hq (fun q hq => (List.mem_append.mp hq).elim Or.inl (fun h => Or.inr (hL q h))) T' rfl X'
  exact ⟨t2, st t2 a1, b1⟩
theorem good_gt {mj : MI} (hok : MOK mj) : GoodIn gtbl (Cond.code mj.1 mj.2.1 mj.2.2.1 mj.2.2.2.1 :: gtbl) := by
  intro w hw
  have hm : w ∈ gtbl := (List.mem_cons.mp hw).elim (fun q => q ▸ hok.2.2.1) id
  exact ⟨hm, good_of_word (List.mem_filter.mp hm).2⟩
/-- behind a call the machine goes on with the callee's world -/
theorem x_back {mi : MI} {mj : MI} {X : Nat × (Int → Int)} {pc : Nat} {L S : List AV} {h : HP} {Q : Int → HP → Prop} {p : Program} {l : Launch} {e : Env} {R : Room} {s : State} {m : MethodId} {args : Array Value} {below : List Frame} {meth : Method} {c : Code} {HH : Heap} {locs : List Loc} {cells slots : Nat} {D : va_G} {E : xE} {ad : Int → Nat} {A : Nat → Prop} {ls : Array Slot} {Qm : State → Prop} {st0 : List Value}
    (hC : Cx mi X p R s m args c D E ad A cells slots) (hS : Sx D E ad A s HH locs h) (hL : HL ad mi.2.2.1 ls L) (hv : VS S)
    (hr : ∀ (pcr : Nat) (ls' : Array Slot) (H' : Heap) (locs' : List Loc) (z : Int) (h' : HP), rt mi pcr z → vv (rtag mi.2.2.2.1, z) → Q z h' → Sx D E ad A s H' locs' h' → W p l e R s m args below meth c H' locs' cells slots Qm (F0 m pcr ls' (rsv ad mi.2.2.2.1 z).toList)) {a9 : Array Value}
    (hrun : va_Run p l e R s m args below meth c HH locs cells slots 0 0 (F0 m pc ls st0) (S.map (xg ad)) (xQc D E ad A mj.2.2.2.1 (fun z h' => Wd mi X (pc + 3) L (rpush mj.2.2.2.1 z S) h' Q) a9) A) :
    W p l e R s m args below meth c HH locs cells slots Qm (F0 m pc ls st0) := by
  refine x_call hrun (fun v st₀ t H1 locs1 e0 e1 hq hlocs => ?_)
  obtain ⟨⟨z, h', ho, hvz, hW, hP, hD, hvh⟩, hF⟩ := hq
  cases ho
  rw [← rpush_map]
  have hS1 : va_S A s.heap H1 locs1 := by
    refine ⟨?_, fun q h1 h2 => ?_, fun q hq => ?_⟩
    · have := hS.2.2.1.1
      have h2 := hF.1
      rw [e0, e1] at h2
      exact Nat.le_trans this h2
    · have h3 := hF.2 q (by rw [e0]; exact Nat.lt_of_lt_of_le h1 hS.2.2.1.1) h2
      rw [e0, e1] at h3
      rw [h3]
      exact hS.2.2.1.2.1 q h1 h2
    · rcases hlocs q hq with k | k
      · exact hS.2.2.1.2.2 q k
      · exact k
  exact hW p l e R s m args below meth c H1 locs1 cells slots D E ad A ls Qm hC ⟨by rw [← e1]; exact hP, hD, hS1, hvh⟩ hL (rpush_vs hvz hv) hr
theorem s_callV {mi mj : MI} {X : Nat × (Int → Int)} {pc : Nat} {L S S0 : List AV} {h : HP} {Q : Int → HP → Prop} (n : Nat) {idx : Nat} (As Lj : List AV) (k : Nat) {z : Int} {ci : Nat} {q9 : vw_C} (hn : pc + 3 = n) (hd : decode mi.2.1 pc = .ok (.invokevirtual idx, 3)) (hok : MOK mj) (hlk : Cond.methodLink mi.1.cls idx mj.1 ∈ gtbl) (hin : Cond.instanceMethod mj.1 ∈ gtbl) (hsel : Cond.selects mj.1.cls mj.1 mj.1 ∈ gtbl) (hz : z = (k : Int)) (hk : k < NC) (hkd : kd k = (4, ci)) (hcl : vwCl[ci]? = some q9) (hcn : q9.1 = mj.1.cls) (hs : S0 = As.reverse ++ (2, z) :: S) (hnp : (parseMethodDescriptor mj.1.desc).map (fun d => d.parameters.length) = some As.length) (hst : (S.map (fun v => if v.1 = 1 then 2 else 1)).sum ≤ 8) (hfr : mj.2.2.2.2.1 + 1 ≤ mi.2.2.2.2.1 ∧ 8 + (mj.2.2.1 + 11) + mj.2.2.2.2.2 ≤ mi.2.2.2.2.2) (hle : (argL ((2, z) :: As)).length ≤ mj.2.2.1) (hLj : entL ((2, z) :: As) mj.2.2.1 = Lj)
    (H : Wd mj X 0 Lj [] h (fun z h' => Wd mi X n L (rpush mj.2.2.2.1 z S) h' Q)) : Wd mi X pc L S0 h Q := by
  subst hn
  subst hz
  subst hs
  intro p l e R s m args below meth c HH locs cells slots D E ad A ls Qm hC hS hL hv hr
  have hvA : VS ((2, (k : Int)) :: As) := fun v hq => hv v (by
    rcases List.mem_cons.mp hq with q | q
    · rw [q]; exact List.mem_append_right _ List.mem_cons_self
    · exact List.mem_append_left _ (List.mem_reverse.mpr q))
  have hvS : VS S := fun v hq => hv v (List.mem_append_right _ (List.mem_cons_of_mem _ hq))
  have he := wl_get (E := E) (ad := ad) (h := h) hk
  rw [cE_obj hkd] at he
  have hts := hC.2.2.2.2.1
  have hA : ∀ q : Nat, HH.size ≤ q → A q := fun q hq => hC.2.2.2.2.2.2.1 q (Nat.le_trans hS.2.2.1.1 hq)
  have hrm := hC.2.2.2.2.2.2.2.1
  have em : (As.reverse ++ (2, (k : Int)) :: S).map (xg ad) = (As.map (xg ad)).reverse ++ .ref (ad (k : Int)) :: S.map (xg ad) := by simp [xg]
  rw [em]
  have hst9 : ((S.map (xg ad)).map fun v => v.category).sum ≤ 8 := by
    have e9 : ((S.map (xg ad)).map fun v => v.category) = S.map (fun v => if v.1 = 1 then 2 else 1) := by
      rw [List.map_map]
      apply List.map_congr_left
      intro v _
      show (xg ad v).category = _
      by_cases h1 : v.1 = 1
      · rw [if_pos h1, xg_cat2 h1]
      · rw [if_neg h1, xg_cat1 h1]
    rw [e9]; exact hst
  refine x_back (mj := mj) hC hS hL hvS hr (va_runV (As := As.map (xg ad)) (b := ad (k : Int)) (C := mj.1.cls) (Ts := gtbl) (nL := mi.2.2.1) (n := As.length) ⟨hC.1, hC.2.1, hC.2.2.1, hC.2.2.2.1, hts⟩ (wd_met hok hle hLj H hvA hS.1 hS.2.1 hS.2.2.2 hA)
    ⟨callB_of As.length hts (good_gt hok) rfl rfl rfl (hts _ hok.2.2.2) (hts _ hlk) ⟨hok.2.1.1, hok.2.1.2, hnp⟩ ⟨Nat.le_trans hfr.1 hrm.1, Nat.le_trans hfr.2 hrm.2.1⟩, hts _ hin, hts _ hsel⟩
    ⟨xPc_blind, ?_, fun U hU hW => ⟨rfl, hU, va_K.moved hW.alike hC.2.2.2.2.2.1, SX.moved hW (by rw [hU]; exact SX.kept (fun a h1 h2 => hS.2.2.1.2.1 a h1 h2) hC.2.2.2.2.2.2.2.2)⟩⟩
    rfl (by rw [List.length_map]) hL.1 rfl (lv_room hst9) hd ⟨hrm.2.2.1, hrm.2.2.2⟩)
  have hrc := va_recv hC.2.2.2.2.2.1 hS.1 (q := q9) hcl he
  rw [hcn] at hrc
  exact hrc
theorem s_callS {mi mj : MI} {X : Nat × (Int → Int)} {pc : Nat} {L S S0 : List AV} {h : HP} {Q : Int → HP → Prop} (n : Nat) {idx : Nat} (As Lj : List AV) (hn : pc + 3 = n) (hd : decode mi.2.1 pc = .ok (.invokestatic idx, 3)) (hok : MOK mj) (hlk : Cond.methodLink mi.1.cls idx mj.1 ∈ gtbl) (hin : Cond.static mj.1 ∈ gtbl) (hs : S0 = As.reverse ++ S) (hnp : (parseMethodDescriptor mj.1.desc).map (fun d => d.parameters.length) = some As.length) (hst : (S.map (fun v => if v.1 = 1 then 2 else 1)).sum ≤ 8) (hfr : mj.2.2.2.2.1 + 1 ≤ mi.2.2.2.2.1 ∧ 8 + (mj.2.2.1 + 11) + mj.2.2.2.2.2 ≤ mi.2.2.2.2.2) (hle : (argL As).length ≤ mj.2.2.1) (hLj : entL As mj.2.2.1 = Lj)
    (H : Wd mj X 0 Lj [] h (fun z h' => Wd mi X n L (rpush mj.2.2.2.1 z S) h' Q)) : Wd mi X pc L S0 h Q := by
  subst hn
  subst hs
  intro p l e R s m args below meth c HH locs cells slots D E ad A ls Qm hC hS hL hv hr
  have hvA : VS As := fun v hq => hv v (List.mem_append_left _ (List.mem_reverse.mpr hq))
  have hvS : VS S := fun v hq => hv v (List.mem_append_right _ hq)
  have hts := hC.2.2.2.2.1
  have hA : ∀ q : Nat, HH.size ≤ q → A q := fun q hq => hC.2.2.2.2.2.2.1 q (Nat.le_trans hS.2.2.1.1 hq)
  have hrm := hC.2.2.2.2.2.2.2.1
  have em : (As.reverse ++ S).map (xg ad) = (As.map (xg ad)).reverse ++ S.map (xg ad) := by simp
  rw [em]
  have hst9 : ((S.map (xg ad)).map fun v => v.category).sum ≤ 8 := by
    have e9 : ((S.map (xg ad)).map fun v => v.category) = S.map (fun v => if v.1 = 1 then 2 else 1) := by
      rw [List.map_map]
      apply List.map_congr_left
      intro v _
      show (xg ad v).category = _
      by_cases h1 : v.1 = 1
      · rw [if_pos h1, xg_cat2 h1]
      · rw [if_neg h1, xg_cat1 h1]
    rw [e9]; exact hst
  exact x_back (mj := mj) hC hS hL hvS hr (va_runS (As := As.map (xg ad)) (Ts := gtbl) (nL := mi.2.2.1) (n := As.length) ⟨hC.1, hC.2.1, hC.2.2.1, hC.2.2.2.1, hts⟩ (wd_met hok hle hLj H hvA hS.1 hS.2.1 hS.2.2.2 hA)
    ⟨callB_of As.length hts (good_gt hok) rfl rfl rfl (hts _ hok.2.2.2) (hts _ hlk) ⟨hok.2.1.1, hok.2.1.2, hnp⟩ ⟨Nat.le_trans hfr.1 hrm.1, Nat.le_trans hfr.2 hrm.2.1⟩, hts _ hin⟩
    ⟨xPc_blind, fun U hU hW => ⟨rfl, hU, va_K.moved hW.alike hC.2.2.2.2.2.1, SX.moved hW (by rw [hU]; exact SX.kept (fun a h1 h2 => hS.2.2.1.2.1 a h1 h2) hC.2.2.2.2.2.2.2.2)⟩⟩
    rfl (by rw [List.length_map]) hL.1 rfl (lv_room hst9) hd ⟨hrm.2.2.1, hrm.2.2.2⟩)
/-- a static method of a nest mate (meanDown) -/
theorem s_callN {mi mj : MI} {X : Nat × (Int → Int)} {pc : Nat} {L S S0 : List AV} {h : HP} {Q : Int → HP → Prop} (n : Nat) {idx : Nat} (As Lj : List AV) (hn : pc + 3 = n) (hd : decode mi.2.1 pc = .ok (.invokestatic idx, 3)) (hok : MOK mj) (hlk : (mi.1.cls = RX1 ∧ idx = 44 ∨ mi.1.cls = RX6 ∧ idx = 55) ∧ mj.1 = yX8_meanDown) (hin : Cond.static mj.1 ∈ gtbl) (hs : S0 = As.reverse ++ S) (hnp : (parseMethodDescriptor mj.1.desc).map (fun d => d.parameters.length) = some As.length) (hst : (S.map (fun v => if v.1 = 1 then 2 else 1)).sum ≤ 8) (hfr : mj.2.2.2.2.1 + 1 ≤ mi.2.2.2.2.1 ∧ 8 + (mj.2.2.1 + 11) + mj.2.2.2.2.2 ≤ mi.2.2.2.2.2) (hle : (argL As).length ≤ mj.2.2.1) (hLj : entL As mj.2.2.1 = Lj)
    (H : Wd mj X 0 Lj [] h (fun z h' => Wd mi X n L (rpush mj.2.2.2.1 z S) h' Q)) : Wd mi X pc L S0 h Q := by
  subst hn
  subst hs
  intro p l e R s m args below meth c HH locs cells slots D E ad A ls Qm hC hS hL hv hr
  have hvA : VS As := fun v hq => hv v (List.mem_append_left _ (List.mem_reverse.mpr hq))
  have hvS : VS S := fun v hq => hv v (List.mem_append_right _ hq)
  have hts := hC.2.2.2.2.1
  have hA : ∀ q : Nat, HH.size ≤ q → A q := fun q hq => hC.2.2.2.2.2.2.1 q (Nat.le_trans hS.2.2.1.1 hq)
  have hrm := hC.2.2.2.2.2.2.2.1
  have hnw : va_Nw (.methodLinkNest mi.1.cls idx mj.1 "BuoyReader") s := by
    obtain ⟨-, -, -, d1, d2⟩ := hC.2.2.2.2.2.2.2.2
    obtain ⟨h1 | h1, h2⟩ := hlk
    · rw [h1.1, h1.2, h2]; exact d1
    · rw [h1.1, h1.2, h2]; exact d2
  have em : (As.reverse ++ S).map (xg ad) = (As.map (xg ad)).reverse ++ S.map (xg ad) := by simp
  rw [em]
  have hst9 : ((S.map (xg ad)).map fun v => v.category).sum ≤ 8 := by
    have e9 : ((S.map (xg ad)).map fun v => v.category) = S.map (fun v => if v.1 = 1 then 2 else 1) := by
      rw [List.map_map]
      apply List.map_congr_left
      intro v _
      show (xg ad v).category = _
      by_cases h1 : v.1 = 1
      · rw [if_pos h1, xg_cat2 h1]
      · rw [if_neg h1, xg_cat1 h1]
    rw [e9]; exact hst
  exact x_back (mj := mj) hC hS hL hvS hr (va_runSN (As := As.map (xg ad)) (Ts := gtbl) (nL := mi.2.2.1) (n := As.length) (host := "BuoyReader") ⟨hC.1, hC.2.1, hC.2.2.1, hC.2.2.2.1, hts⟩ (wd_met hok hle hLj H hvA hS.1 hS.2.1 hS.2.2.2 hA)
    ⟨va_cnB As.length hts (good_gt hok) rfl rfl rfl hnw (hts _ hok.2.2.2) ⟨hok.2.1.1, hok.2.1.2, hnp⟩ ⟨Nat.le_trans hfr.1 hrm.1, Nat.le_trans hfr.2 hrm.2.1⟩, hts _ hin, trivial⟩
    ⟨xPc_blind, fun U hU hW => ⟨rfl, hU, va_K.moved hW.alike hC.2.2.2.2.2.1, SX.moved hW (by rw [hU]; exact SX.kept (fun a h1 h2 => hS.2.2.1.2.1 a h1 h2) hC.2.2.2.2.2.2.2.2)⟩⟩
    rfl (by rw [List.length_map]) hL.1 rfl (lv_room hst9) hd ⟨hrm.2.2.1, hrm.2.2.2⟩)

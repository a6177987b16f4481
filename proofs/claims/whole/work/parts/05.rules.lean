/-! ROWS of the engine: numbers, locals -/
theorem inJ_0 : inJ 0 := ⟨by decide, by decide⟩
theorem oJ_eq {a b : Int} (ha : inJ a) (hb : inJ b) : Int64.ofInt a = Int64.ofInt b ↔ a = b := ⟨fun h => by rw [← oJ ha, ← oJ hb, h], fun h => by rw [h]⟩
theorem oJ_lt {a b : Int} (ha : inJ a) (hb : inJ b) : Int64.ofInt a < Int64.ofInt b ↔ a < b := by rw [Int64.lt_iff_toInt_lt, oJ ha, oJ hb]
theorem inI_J {a : Int} (h : inI a) : inJ a := ⟨by have := h.1; omega, by have := h.2; omega⟩
theorem inI_toInt (x : Int32) : inI x.toInt := ⟨Int32.le_toInt x, by have := Int32.toInt_lt x; omega⟩
theorem inJ_toInt (x : Int64) : inJ x.toInt := ⟨Int64.le_toInt x, by have := Int64.toInt_lt x; omega⟩
theorem o_i2l {a : Int} (h : inI a) : (Int32.ofInt a).toInt64 = Int64.ofInt a := Int32.toInt64_ofInt (by have := h.1; exact this) (by have := h.2; exact this)
theorem o_l2iw (a : Int) : (Int64.ofInt a).toInt32 = Int32.ofInt (a.bmod 4294967296) := by
  rw [Int64.toInt32_ofInt]
  apply Int32.toInt_inj.mp
  rw [Int32.toInt_ofInt, Int32.toInt_ofInt]
  exact (Int.bmod_bmod (x := a) (m := 4294967296)).symm
theorem inI_bmod (a : Int) : inI (a.bmod 4294967296) := by
  have h1 := Int.le_bmod (x := a) (m := 4294967296) (by decide)
  have h2 := Int.bmod_lt (x := a) (m := 4294967296) (by decide)
  unfold inI; omega
theorem inI_bmods (a : Int) : inI (a.bmod 65536) := by
  have h1 := Int.le_bmod (x := a) (m := 65536) (by decide)
  have h2 := Int.bmod_lt (x := a) (m := 65536) (by decide)
  unfold inI; omega
theorem o_i2s (a : Int) : (Int32.ofInt a).toInt16.toInt32 = Int32.ofInt (a.bmod 65536) := by
  rw [Int32.toInt16_ofInt]
  apply Int32.toInt_inj.mp
  rw [Int16.toInt_toInt32, Int16.toInt_ofInt, oI (inI_bmods a)]
theorem oI_div {a b : Int} (ha : inI a) (hb : inI b) (_h0 : ¬ b = 0) : Int32.ofInt (a.tdiv b) = Int32.ofInt a / Int32.ofInt b := Int32.ofInt_tdiv (by exact ha.1) (by exact ha.2) (by exact hb.1) (by exact hb.2)
theorem oJ_div {a b : Int} (ha : inJ a) (hb : inJ b) (_h0 : ¬ b = 0) : Int64.ofInt (a.tdiv b) = Int64.ofInt a / Int64.ofInt b := Int64.ofInt_tdiv (by exact ha.1) (by exact ha.2) (by exact hb.1) (by exact hb.2)
theorem oI_rem {a b : Int} (ha : inI a) (hb : inI b) (h0 : ¬ b = 0) : Int32.ofInt a - Int32.ofInt a / Int32.ofInt b * Int32.ofInt b = Int32.ofInt (a.tmod b) := by
  rw [← oI_div ha hb h0, ← Int32.ofInt_mul, ← Int32.ofInt_sub]
  congr 1
  have := Int.tmod_def a b
  rw [Int.mul_comm] at this
  omega
theorem oJ_rem {a b : Int} (ha : inJ a) (hb : inJ b) (h0 : ¬ b = 0) : Int64.ofInt a - Int64.ofInt a / Int64.ofInt b * Int64.ofInt b = Int64.ofInt (a.tmod b) := by
  rw [← oJ_div ha hb h0, ← Int64.ofInt_mul, ← Int64.ofInt_sub]
  congr 1
  have := Int.tmod_def a b
  rw [Int.mul_comm] at this
  omega
theorem tmod_abs {a b : Int} (h0 : ¬ b = 0) : (0 ≤ b → -b < a.tmod b ∧ a.tmod b < b) ∧ (b < 0 → b < a.tmod b ∧ a.tmod b < -b) := by
  have k : (a.tmod b).natAbs = a.natAbs % b.natAbs := Int.natAbs_tmod a b
  have hb : 0 < b.natAbs := by omega
  have k2 := Nat.mod_lt a.natAbs hb
  constructor
  · intro hb
    omega
  · intro hb
    omega
theorem inI_tmod {a b : Int} (_ha : inI a) (hb : inI b) (h0 : ¬ b = 0) : inI (a.tmod b) := by
  have k := tmod_abs (a := a) h0
  unfold inI at *
  rcases Int.lt_or_le b 0 with h | h
  · have := k.2 h; omega
  · have := k.1 h; omega
theorem inJ_tmod {a b : Int} (_ha : inJ a) (hb : inJ b) (h0 : ¬ b = 0) : inJ (a.tmod b) := by
  have k := tmod_abs (a := a) h0
  unfold inJ at *
  rcases Int.lt_or_le b 0 with h | h
  · have := k.2 h; omega
  · have := k.1 h; omega
def lcz (a b : Int) : Int := if b < a then 1 else if a = b then 0 else -1
theorem inI_lcz (a b : Int) : inI (lcz a b) := by
  unfold lcz inI
  split
  · decide
  · split <;> decide
theorem o_lcmp {a b : Int} (ha : inJ a) (hb : inJ b) : lg_cmp (Int64.ofInt a) (Int64.ofInt b) = Int32.ofInt (lcz a b) := by
  show (if Int64.ofInt b < Int64.ofInt a then (1 : Int32) else if Int64.ofInt a = Int64.ofInt b then 0 else -1) = _
  unfold lcz
  by_cases h : b < a
  · rw [if_pos ((oJ_lt hb ha).mpr h), if_pos h]; rfl
  · rw [if_neg (fun q => h ((oJ_lt hb ha).mp q)), if_neg h]
    by_cases h2 : a = b
    · rw [if_pos ((oJ_eq ha hb).mpr h2), if_pos h2]; rfl
    · rw [if_neg (fun q => h2 ((oJ_eq ha hb).mp q)), if_neg h2]; rfl
theorem lcz_le {a b : Int} : lcz a b ≤ 0 ↔ a ≤ b := by unfold lcz; split <;> (try split) <;> omega
theorem lcz_ge {a b : Int} : 0 ≤ lcz a b ↔ b ≤ a := by unfold lcz; split <;> (try split) <;> omega
theorem lcz_lt {a b : Int} : lcz a b < 0 ↔ a < b := by unfold lcz; split <;> (try split) <;> omega
theorem lcz_gt {a b : Int} : 0 < lcz a b ↔ b < a := by unfold lcz; split <;> (try split) <;> omega
theorem lcz_eq {a b : Int} : lcz a b = 0 ↔ a = b := by unfold lcz; split <;> (try split) <;> omega
theorem xg_cat {ad : Int → Nat} {v : AV} (h : (xg ad v).category = 2) : v.1 = 1 := by
  obtain ⟨t, z⟩ := v
  match t, h with
  | 0, h => simp [xg, Value.category] at h
  | 1, _ => rfl
  | n + 2, h => simp [xg, Value.category] at h
theorem xg_cat1 {ad : Int → Nat} {v : AV} (h : ¬ v.1 = 1) : (xg ad v).category = 1 := by
  rcases lv_cat (xg ad v) with q | q
  · exact q
  · exact absurd (xg_cat q) h
def lvO (ad : Int → Nat) (L : List AV) : List (Nat × Value) := (List.range L.length).filterMap (fun i => match L[i]? with
  | some v => if v.1 = 9 then none else some (i, xg ad v)
  | none => none)
theorem lvO_mem {ad : Int → Nat} {L : List AV} {i : Nat} {v : AV} (h : L[i]? = some v) (h9 : ¬ v.1 = 9) : (i, xg ad v) ∈ lvO ad L := by
  unfold lvO
  refine List.mem_filterMap.mpr ⟨i, List.mem_range.mpr (List.getElem?_eq_some_iff.mp h).1, ?_⟩
  rw [h]
  simp [h9]
theorem lvO_has {ad : Int → Nat} {nL : Nat} {ls : Array Slot} {L : List AV} (h : HL ad nL ls L) : lv_has ls nL (lvO ad L) := by
  refine ⟨h.1, h.2.1, fun q hq => ?_⟩
  obtain ⟨i, -, hi⟩ := List.mem_filterMap.mp hq
  cases hv : L[i]? with
  | none => rw [hv] at hi; cases hi
  | some v =>
    rw [hv] at hi
    by_cases h9 : v.1 = 9
    · simp [h9] at hi
    · simp only [h9, if_false] at hi
      cases hi
      exact (h.2.2 i v hv h9).1
def lclr (L : List AV) (i : Nat) : List AV := match i with
  | 0 => L
  | n + 1 => match L[n]? with
    | some (1, _) => L.set n (9, 0)
    | _ => L
theorem lclr_get {L : List AV} {i j : Nat} {w : AV} (h : (lclr L i)[j]? = some w) (h9 : ¬ w.1 = 9) : L[j]? = some w ∧ (j + 1 = i → ¬ w.1 = 1) := by
  cases i with
  | zero => exact ⟨h, fun e => by omega⟩
  | succ n =>
    have h : (match L[n]? with
      | some (1, _) => L.set n (9, 0)
      | _ => L)[j]? = some w := h
    split at h
    · rename_i z hz
      by_cases e : n = j
      · subst e
        rw [List.getElem?_set_self (List.getElem?_eq_some_iff.mp hz).1] at h
        cases h
        exact absurd rfl h9
      · rw [List.getElem?_set_ne e] at h
        exact ⟨h, fun q => by omega⟩
    · rename_i hn
      refine ⟨h, fun q z => ?_⟩
      have e : n = j := by omega
      subst e
      obtain ⟨t, y⟩ := w
      have z : t = 1 := z
      subst z
      exact hn y h
theorem HL_st1 {ad : Int → Nat} {nL : Nat} {ls ls9 : Array Slot} {L : List AV} {i : Nat} {v : AV} (h : HL ad nL ls L) (h1 : ¬ v.1 = 1) (hv : vv v) (h9 : lv_has ls9 nL ((i, xg ad v) :: (lvO ad L).filter (fun q => !(q.1 == i) && !(q.1 + 1 == i && q.2.category == 2)))) : HL ad nL ls9 ((lclr L i).set i v) := by
  refine ⟨h9.1, h9.2.1, fun j w hj hw => ?_⟩
  by_cases e : i = j
  · subst e
    have hl := (List.getElem?_eq_some_iff.mp hj).1
    rw [List.length_set] at hl
    rw [List.getElem?_set_self hl] at hj
    cases hj
    exact ⟨h9.2.2 (i, xg ad v) List.mem_cons_self, hv⟩
  · rw [List.getElem?_set_ne e] at hj
    obtain ⟨q1, q2⟩ := lclr_get hj hw
    refine ⟨h9.2.2 (j, xg ad w) (List.mem_cons_of_mem _ (List.mem_filter.mpr ⟨lvO_mem q1 hw, ?_⟩)), (h.2.2 j w q1 hw).2⟩
    have e2 : ¬ j = i := fun q => e q.symm
    by_cases e3 : j + 1 = i
    · have e4 : ¬ (xg ad w).category = 2 := fun q => q2 e3 (xg_cat q)
      simp [e2, e4]
    · simp [e2, e3]
theorem HL_st2 {ad : Int → Nat} {nL : Nat} {ls ls9 : Array Slot} {L : List AV} {i : Nat} {z : Int} (h : HL ad nL ls L) (hv : vv (1, z)) (h9 : lv_has ls9 nL ((i, Value.long (Int64.ofInt z)) :: (lvO ad L).filter (fun q => !(q.1 == i) && (!(q.1 == i + 1) && !(q.1 + 1 == i && q.2.category == 2))))) : HL ad nL ls9 (((lclr L i).set i (1, z)).set (i + 1) (9, 0)) := by
  refine ⟨h9.1, h9.2.1, fun j w hj hw => ?_⟩
  by_cases e0 : i + 1 = j
  · subst e0
    have hl := (List.getElem?_eq_some_iff.mp hj).1
    rw [List.length_set] at hl
    rw [List.getElem?_set_self hl] at hj
    cases hj
    exact absurd rfl hw
  · rw [List.getElem?_set_ne e0] at hj
    by_cases e : i = j
    · subst e
      have hl := (List.getElem?_eq_some_iff.mp hj).1
      rw [List.length_set] at hl
      rw [List.getElem?_set_self hl] at hj
      cases hj
      exact ⟨h9.2.2 (i, Value.long (Int64.ofInt z)) List.mem_cons_self, hv⟩
    · rw [List.getElem?_set_ne e] at hj
      obtain ⟨q1, q2⟩ := lclr_get hj hw
      refine ⟨h9.2.2 (j, xg ad w) (List.mem_cons_of_mem _ (List.mem_filter.mpr ⟨lvO_mem q1 hw, ?_⟩)), (h.2.2 j w q1 hw).2⟩
      have e2 : ¬ j = i := fun q => e q.symm
      have e5 : ¬ j = i + 1 := fun q => e0 q.symm
      by_cases e3 : j + 1 = i
      · have e4 : ¬ (xg ad w).category = 2 := fun q => q2 e3 (xg_cat q)
        simp [e2, e4, e5]
      · simp [e2, e3, e5]
theorem s_iconst {mi : MI} {X : Nat × (Int → Int)} {pc : Nat} {L S : List AV} {h : HP} {Q : Int → HP → Prop} (n : Nat) {z : Int} (hn : pc + 1 = n) (hd : decode mi.2.1 pc = .ok (.iconst z, 1)) (hz : inI z) (H : Wd mi X n L ((0, z) :: S) h Q) : Wd mi X pc L S h Q := by
  subst hn
  intro p l e R s m args below meth c HH locs cells slots D E ad A ls Qm hC hS hL hv hr
  have hx := hC.1
  have hb := hC.2.1
  exact lv_iconst hx hb hd rfl (H p l e R s m args below meth c HH locs cells slots D E ad A ls Qm hC hS hL (VS.c (vvI hz) hv) hr)
theorem s_bipush {mi : MI} {X : Nat × (Int → Int)} {pc : Nat} {L S : List AV} {h : HP} {Q : Int → HP → Prop} (n : Nat) {z : Int} (hn : pc + 2 = n) (hd : decode mi.2.1 pc = .ok (.bipush z, 2)) (hw : (Int8.ofInt z).toInt32 = Int32.ofInt z) (hz : inI z) (H : Wd mi X n L ((0, z) :: S) h Q) : Wd mi X pc L S h Q := by
  subst hn
  intro p l e R s m args below meth c HH locs cells slots D E ad A ls Qm hC hS hL hv hr
  have hx := hC.1
  have hb := hC.2.1
  exact lv_bipush hx hb hd hw (H p l e R s m args below meth c HH locs cells slots D E ad A ls Qm hC hS hL (VS.c (vvI hz) hv) hr)
theorem s_sipush {mi : MI} {X : Nat × (Int → Int)} {pc : Nat} {L S : List AV} {h : HP} {Q : Int → HP → Prop} (n : Nat) {z : Int} (hn : pc + 3 = n) (hd : decode mi.2.1 pc = .ok (.sipush z, 3)) (hw : (Int16.ofInt z).toInt32 = Int32.ofInt z) (hz : inI z) (H : Wd mi X n L ((0, z) :: S) h Q) : Wd mi X pc L S h Q := by
  subst hn
  intro p l e R s m args below meth c HH locs cells slots D E ad A ls Qm hC hS hL hv hr
  have hx := hC.1
  have hb := hC.2.1
  exact lv_sipush hx hb hd hw (H p l e R s m args below meth c HH locs cells slots D E ad A ls Qm hC hS hL (VS.c (vvI hz) hv) hr)
theorem s_lconst {mi : MI} {X : Nat × (Int → Int)} {pc : Nat} {L S : List AV} {h : HP} {Q : Int → HP → Prop} (n : Nat) {f : Fin 2} (z : Int) (hn : pc + 1 = n) (hd : decode mi.2.1 pc = .ok (.lconst f, 1)) (hw : Int64.ofNat (f : Nat) = Int64.ofInt z) (hz : inJ z) (H : Wd mi X n L ((1, z) :: S) h Q) : Wd mi X pc L S h Q := by
  subst hn
  intro p l e R s m args below meth c HH locs cells slots D E ad A ls Qm hC hS hL hv hr
  have hx := hC.1
  have hb := hC.2.1
  exact lv_lconst hx hb hd hw (H p l e R s m args below meth c HH locs cells slots D E ad A ls Qm hC hS hL (VS.c (vvJ hz) hv) hr)
theorem s_ldc {mi : MI} {X : Nat × (Int → Int)} {pc : Nat} {L S : List AV} {h : HP} {Q : Int → HP → Prop} (n : Nat) {idx : Nat} (z : Int) (hn : pc + 2 = n) (hd : decode mi.2.1 pc = .ok (.ldc idx, 2)) (hw : Cond.constant mi.1.cls idx (Int32.ofInt z) ∈ gtbl) (hz : inI z) (H : Wd mi X n L ((0, z) :: S) h Q) : Wd mi X pc L S h Q := by
  subst hn
  intro p l e R s m args below meth c HH locs cells slots D E ad A ls Qm hC hS hL hv hr
  have hx := hC.1
  have hb := hC.2.1
  exact lv_ldc hx hb hC.2.2.2.1 (hC.2.2.2.2.1 _ hw) hd (H p l e R s m args below meth c HH locs cells slots D E ad A ls Qm hC hS hL (VS.c (vvI hz) hv) hr)
theorem s_ldc2 {mi : MI} {X : Nat × (Int → Int)} {pc : Nat} {L S : List AV} {h : HP} {Q : Int → HP → Prop} (n : Nat) {idx : Nat} (z : Int) (hn : pc + 3 = n) (hd : decode mi.2.1 pc = .ok (.ldc2_w idx, 3)) (hw : Cond.constantLong mi.1.cls idx (Int64.ofInt z) ∈ gtbl) (hz : inJ z) (H : Wd mi X n L ((1, z) :: S) h Q) : Wd mi X pc L S h Q := by
  subst hn
  intro p l e R s m args below meth c HH locs cells slots D E ad A ls Qm hC hS hL hv hr
  have hx := hC.1
  have hb := hC.2.1
  exact lv_ldc2 hx hb hC.2.2.2.1 (hC.2.2.2.2.1 _ hw) hd (H p l e R s m args below meth c HH locs cells slots D E ad A ls Qm hC hS hL (VS.c (vvJ hz) hv) hr)
theorem s_iload_n {mi : MI} {X : Nat × (Int → Int)} {pc : Nat} {L S : List AV} {h : HP} {Q : Int → HP → Prop} (n : Nat) {f : Fin 4} (i : Nat) {z : Int} (hn : pc + 1 = n) (hd : decode mi.2.1 pc = .ok (.iload_n f, 1)) (hi : (f : Nat) = i) (hl : L[i]? = some (0, z)) (H : Wd mi X n L ((0, z) :: S) h Q) : Wd mi X pc L S h Q := by
  subst hn
  intro p l e R s m args below meth c HH locs cells slots D E ad A ls Qm hC hS hL hv hr
  have hx := hC.1
  have hb := hC.2.1
  have q := hL.2.2 i _ hl (by decide : ¬ (0 : Nat) = 9)
  exact lv_iload_n hx hb hd hi q.1 (H p l e R s m args below meth c HH locs cells slots D E ad A ls Qm hC hS hL (VS.c q.2 hv) hr)
theorem s_iload {mi : MI} {X : Nat × (Int → Int)} {pc : Nat} {L S : List AV} {h : HP} {Q : Int → HP → Prop} (n : Nat) (i : Nat) {z : Int} (hn : pc + 2 = n) (hd : decode mi.2.1 pc = .ok (.iload i, 2)) (hl : L[i]? = some (0, z)) (H : Wd mi X n L ((0, z) :: S) h Q) : Wd mi X pc L S h Q := by
  subst hn
  intro p l e R s m args below meth c HH locs cells slots D E ad A ls Qm hC hS hL hv hr
  have hx := hC.1
  have hb := hC.2.1
  have q := hL.2.2 i _ hl (by decide : ¬ (0 : Nat) = 9)
  exact lv_iload hx hb hd q.1 (H p l e R s m args below meth c HH locs cells slots D E ad A ls Qm hC hS hL (VS.c q.2 hv) hr)
theorem s_lload_n {mi : MI} {X : Nat × (Int → Int)} {pc : Nat} {L S : List AV} {h : HP} {Q : Int → HP → Prop} (n : Nat) {f : Fin 4} (i : Nat) {z : Int} (hn : pc + 1 = n) (hd : decode mi.2.1 pc = .ok (.lload_n f, 1)) (hi : (f : Nat) = i) (hl : L[i]? = some (1, z)) (H : Wd mi X n L ((1, z) :: S) h Q) : Wd mi X pc L S h Q := by
  subst hn
  intro p l e R s m args below meth c HH locs cells slots D E ad A ls Qm hC hS hL hv hr
  have hx := hC.1
  have hb := hC.2.1
  have q := hL.2.2 i _ hl (by decide : ¬ (1 : Nat) = 9)
  exact lv_lload_n hx hb hd hi q.1 (H p l e R s m args below meth c HH locs cells slots D E ad A ls Qm hC hS hL (VS.c q.2 hv) hr)
theorem s_lload {mi : MI} {X : Nat × (Int → Int)} {pc : Nat} {L S : List AV} {h : HP} {Q : Int → HP → Prop} (n : Nat) (i : Nat) {z : Int} (hn : pc + 2 = n) (hd : decode mi.2.1 pc = .ok (.lload i, 2)) (hl : L[i]? = some (1, z)) (H : Wd mi X n L ((1, z) :: S) h Q) : Wd mi X pc L S h Q := by
  subst hn
  intro p l e R s m args below meth c HH locs cells slots D E ad A ls Qm hC hS hL hv hr
  have hx := hC.1
  have hb := hC.2.1
  have q := hL.2.2 i _ hl (by decide : ¬ (1 : Nat) = 9)
  exact lv_lload hx hb hd q.1 (H p l e R s m args below meth c HH locs cells slots D E ad A ls Qm hC hS hL (VS.c q.2 hv) hr)
theorem s_aload_n {mi : MI} {X : Nat × (Int → Int)} {pc : Nat} {L S : List AV} {h : HP} {Q : Int → HP → Prop} (n : Nat) {f : Fin 4} (i : Nat) {z : Int} (hn : pc + 1 = n) (hd : decode mi.2.1 pc = .ok (.aload_n f, 1)) (hi : (f : Nat) = i) (hl : L[i]? = some (2, z)) (H : Wd mi X n L ((2, z) :: S) h Q) : Wd mi X pc L S h Q := by
  subst hn
  intro p l e R s m args below meth c HH locs cells slots D E ad A ls Qm hC hS hL hv hr
  have hx := hC.1
  have hb := hC.2.1
  have q := hL.2.2 i _ hl (by decide : ¬ (2 : Nat) = 9)
  exact lv_aload_n hx hb hd hi q.1 (H p l e R s m args below meth c HH locs cells slots D E ad A ls Qm hC hS hL (VS.c q.2 hv) hr)
theorem s_aload {mi : MI} {X : Nat × (Int → Int)} {pc : Nat} {L S : List AV} {h : HP} {Q : Int → HP → Prop} (n : Nat) (i : Nat) {z : Int} (hn : pc + 2 = n) (hd : decode mi.2.1 pc = .ok (.aload i, 2)) (hl : L[i]? = some (2, z)) (H : Wd mi X n L ((2, z) :: S) h Q) : Wd mi X pc L S h Q := by
  subst hn
  intro p l e R s m args below meth c HH locs cells slots D E ad A ls Qm hC hS hL hv hr
  have hx := hC.1
  have hb := hC.2.1
  have q := hL.2.2 i _ hl (by decide : ¬ (2 : Nat) = 9)
  exact lv_aload hx hb hd q.1 (H p l e R s m args below meth c HH locs cells slots D E ad A ls Qm hC hS hL (VS.c q.2 hv) hr)
theorem s_istore_n {mi : MI} {X : Nat × (Int → Int)} {pc : Nat} {L S : List AV} {h : HP} {Q : Int → HP → Prop} (n : Nat) {f : Fin 4} (i : Nat) {z : Int} {L2 : List AV} (hn : pc + 1 = n) (hd : decode mi.2.1 pc = .ok (.istore_n f, 1)) (hi : (f : Nat) = i) (hin : i < mi.2.2.1) (hl : (lclr L i).set i (0, z) = L2) (H : Wd mi X n L2 S h Q) : Wd mi X pc L ((0, z) :: S) h Q := by
  subst hn
  subst hl
  intro p l e R s m args below meth c HH locs cells slots D E ad A ls Qm hC hS hL hv hr
  have hx := hC.1
  have hb := hC.2.1
  refine lv_istore_n hx hb hd hi (lvO_has hL) hin rfl (fun ls9 h9 => ?_)
  have hL9 := HL_st1 (v := (0, z)) hL (by decide : ¬ (0 : Nat) = 1) hv.h h9
  exact H p l e R s m args below meth c HH locs cells slots D E ad A ls9 Qm hC hS hL9 hv.t hr
theorem s_istore {mi : MI} {X : Nat × (Int → Int)} {pc : Nat} {L S : List AV} {h : HP} {Q : Int → HP → Prop} (n : Nat) (i : Nat) {z : Int} {L2 : List AV} (hn : pc + 2 = n) (hd : decode mi.2.1 pc = .ok (.istore i, 2)) (hin : i < mi.2.2.1) (hl : (lclr L i).set i (0, z) = L2) (H : Wd mi X n L2 S h Q) : Wd mi X pc L ((0, z) :: S) h Q := by
  subst hn
  subst hl
  intro p l e R s m args below meth c HH locs cells slots D E ad A ls Qm hC hS hL hv hr
  have hx := hC.1
  have hb := hC.2.1
  refine lv_istore hx hb hd (lvO_has hL) hin rfl (fun ls9 h9 => ?_)
  have hL9 := HL_st1 (v := (0, z)) hL (by decide : ¬ (0 : Nat) = 1) hv.h h9
  exact H p l e R s m args below meth c HH locs cells slots D E ad A ls9 Qm hC hS hL9 hv.t hr
theorem s_astore_n {mi : MI} {X : Nat × (Int → Int)} {pc : Nat} {L S : List AV} {h : HP} {Q : Int → HP → Prop} (n : Nat) {f : Fin 4} (i : Nat) {z : Int} {L2 : List AV} (hn : pc + 1 = n) (hd : decode mi.2.1 pc = .ok (.astore_n f, 1)) (hi : (f : Nat) = i) (hin : i < mi.2.2.1) (hl : (lclr L i).set i (2, z) = L2) (H : Wd mi X n L2 S h Q) : Wd mi X pc L ((2, z) :: S) h Q := by
  subst hn
  subst hl
  intro p l e R s m args below meth c HH locs cells slots D E ad A ls Qm hC hS hL hv hr
  have hx := hC.1
  have hb := hC.2.1
  refine lv_astore_n hx hb hd hi (lvO_has hL) hin rfl (fun ls9 h9 => ?_)
  have hL9 := HL_st1 (v := (2, z)) hL (by decide : ¬ (2 : Nat) = 1) hv.h h9
  exact H p l e R s m args below meth c HH locs cells slots D E ad A ls9 Qm hC hS hL9 hv.t hr
theorem s_astore {mi : MI} {X : Nat × (Int → Int)} {pc : Nat} {L S : List AV} {h : HP} {Q : Int → HP → Prop} (n : Nat) (i : Nat) {z : Int} {L2 : List AV} (hn : pc + 2 = n) (hd : decode mi.2.1 pc = .ok (.astore i, 2)) (hin : i < mi.2.2.1) (hl : (lclr L i).set i (2, z) = L2) (H : Wd mi X n L2 S h Q) : Wd mi X pc L ((2, z) :: S) h Q := by
  subst hn
  subst hl
  intro p l e R s m args below meth c HH locs cells slots D E ad A ls Qm hC hS hL hv hr
  have hx := hC.1
  have hb := hC.2.1
  refine lv_astore hx hb hd (lvO_has hL) hin rfl (fun ls9 h9 => ?_)
  have hL9 := HL_st1 (v := (2, z)) hL (by decide : ¬ (2 : Nat) = 1) hv.h h9
  exact H p l e R s m args below meth c HH locs cells slots D E ad A ls9 Qm hC hS hL9 hv.t hr
theorem s_lstore_n {mi : MI} {X : Nat × (Int → Int)} {pc : Nat} {L S : List AV} {h : HP} {Q : Int → HP → Prop} (n : Nat) {f : Fin 4} (i : Nat) {z : Int} {L2 : List AV} (hn : pc + 1 = n) (hd : decode mi.2.1 pc = .ok (.lstore_n f, 1)) (hi : (f : Nat) = i) (hin : i + 1 < mi.2.2.1) (hl : ((lclr L i).set i (1, z)).set (i + 1) (9, 0) = L2) (H : Wd mi X n L2 S h Q) : Wd mi X pc L ((1, z) :: S) h Q := by
  subst hn
  subst hl
  intro p l e R s m args below meth c HH locs cells slots D E ad A ls Qm hC hS hL hv hr
  have hx := hC.1
  have hb := hC.2.1
  refine lv_lstore_n hx hb hd hi (lvO_has hL) hin rfl (fun ls9 h9 => ?_)
  have hL9 := HL_st2 hL hv.h h9
  exact H p l e R s m args below meth c HH locs cells slots D E ad A ls9 Qm hC hS hL9 hv.t hr
theorem s_lstore {mi : MI} {X : Nat × (Int → Int)} {pc : Nat} {L S : List AV} {h : HP} {Q : Int → HP → Prop} (n : Nat) (i : Nat) {z : Int} {L2 : List AV} (hn : pc + 2 = n) (hd : decode mi.2.1 pc = .ok (.lstore i, 2)) (hin : i + 1 < mi.2.2.1) (hl : ((lclr L i).set i (1, z)).set (i + 1) (9, 0) = L2) (H : Wd mi X n L2 S h Q) : Wd mi X pc L ((1, z) :: S) h Q := by
  subst hn
  subst hl
  intro p l e R s m args below meth c HH locs cells slots D E ad A ls Qm hC hS hL hv hr
  have hx := hC.1
  have hb := hC.2.1
  refine lv_lstore hx hb hd (lvO_has hL) hin rfl (fun ls9 h9 => ?_)
  have hL9 := HL_st2 hL hv.h h9
  exact H p l e R s m args below meth c HH locs cells slots D E ad A ls9 Qm hC hS hL9 hv.t hr
theorem s_iinc {mi : MI} {X : Nat × (Int → Int)} {pc : Nat} {L S : List AV} {h : HP} {Q : Int → HP → Prop} (n : Nat) (i : Nat) {z d : Int} {L2 : List AV} (hn : pc + 3 = n) (hd : decode mi.2.1 pc = .ok (.iinc i d, 3)) (hin : i < mi.2.2.1) (hz : L[i]? = some (0, z)) (hl : (lclr L i).set i (0, z + d) = L2) (hi : inI (z + d)) (H : Wd mi X n L2 S h Q) : Wd mi X pc L S h Q := by
  subst hn
  subst hl
  intro p l e R s m args below meth c HH locs cells slots D E ad A ls Qm hC hS hL hv hr
  have hx := hC.1
  have hb := hC.2.1
  obtain ⟨k9, hk9⟩ := List.getElem?_of_mem (lvO_mem (ad := ad) hz (by decide : ¬ (0 : Nat) = 9))
  refine lv_iinc (v := Int32.ofInt (z + d)) hx hb hd (lvO_has hL) (x := Int32.ofInt z) hk9 (by rw [Int32.ofInt_add]) hin rfl (fun ls9 h9 => ?_)
  have hL9 := HL_st1 (v := (0, z + d)) hL (by decide : ¬ (0 : Nat) = 1) (vvI hi) h9
  exact H p l e R s m args below meth c HH locs cells slots D E ad A ls9 Qm hC hS hL9 hv hr
theorem s_iadd {mi : MI} {X : Nat × (Int → Int)} {pc : Nat} {L S : List AV} {h : HP} {Q : Int → HP → Prop} (n : Nat) {a b : Int} (hn : pc + 1 = n) (hd : decode mi.2.1 pc = .ok (.iadd, 1)) (hi : inI (a + b)) (H : Wd mi X n L ((0, a + b) :: S) h Q) : Wd mi X pc L ((0, b) :: (0, a) :: S) h Q := by
  subst hn
  intro p l e R s m args below meth c HH locs cells slots D E ad A ls Qm hC hS hL hv hr
  have hx := hC.1
  have hb := hC.2.1
  refine lv_iadd hx hb hd ?_
  rw [← Int32.ofInt_add]
  exact H p l e R s m args below meth c HH locs cells slots D E ad A ls Qm hC hS hL (VS.c (vvI hi) hv.t.t) hr
theorem s_isub {mi : MI} {X : Nat × (Int → Int)} {pc : Nat} {L S : List AV} {h : HP} {Q : Int → HP → Prop} (n : Nat) {a b : Int} (hn : pc + 1 = n) (hd : decode mi.2.1 pc = .ok (.isub, 1)) (hi : inI (a - b)) (H : Wd mi X n L ((0, a - b) :: S) h Q) : Wd mi X pc L ((0, b) :: (0, a) :: S) h Q := by
  subst hn
  intro p l e R s m args below meth c HH locs cells slots D E ad A ls Qm hC hS hL hv hr
  have hx := hC.1
  have hb := hC.2.1
  refine lv_isub hx hb hd ?_
  rw [← Int32.ofInt_sub]
  exact H p l e R s m args below meth c HH locs cells slots D E ad A ls Qm hC hS hL (VS.c (vvI hi) hv.t.t) hr
theorem s_imul {mi : MI} {X : Nat × (Int → Int)} {pc : Nat} {L S : List AV} {h : HP} {Q : Int → HP → Prop} (n : Nat) {a b : Int} (hn : pc + 1 = n) (hd : decode mi.2.1 pc = .ok (.imul, 1)) (hi : inI (a * b)) (H : Wd mi X n L ((0, a * b) :: S) h Q) : Wd mi X pc L ((0, b) :: (0, a) :: S) h Q := by
  subst hn
  intro p l e R s m args below meth c HH locs cells slots D E ad A ls Qm hC hS hL hv hr
  have hx := hC.1
  have hb := hC.2.1
  refine lv_imul hx hb hd ?_
  rw [← Int32.ofInt_mul]
  exact H p l e R s m args below meth c HH locs cells slots D E ad A ls Qm hC hS hL (VS.c (vvI hi) hv.t.t) hr
theorem s_ineg {mi : MI} {X : Nat × (Int → Int)} {pc : Nat} {L S : List AV} {h : HP} {Q : Int → HP → Prop} (n : Nat) {a : Int} (hn : pc + 1 = n) (hd : decode mi.2.1 pc = .ok (.ineg, 1)) (hi : inI (-a)) (H : Wd mi X n L ((0, -a) :: S) h Q) : Wd mi X pc L ((0, a) :: S) h Q := by
  subst hn
  intro p l e R s m args below meth c HH locs cells slots D E ad A ls Qm hC hS hL hv hr
  have hx := hC.1
  have hb := hC.2.1
  refine lv_ineg hx hb hd ?_
  rw [← Int32.ofInt_neg]
  exact H p l e R s m args below meth c HH locs cells slots D E ad A ls Qm hC hS hL (VS.c (vvI hi) hv.t) hr
theorem s_idiv {mi : MI} {X : Nat × (Int → Int)} {pc : Nat} {L S : List AV} {h : HP} {Q : Int → HP → Prop} (n : Nat) {a b : Int} (hn : pc + 1 = n) (hd : decode mi.2.1 pc = .ok (.idiv, 1)) (h0 : ¬ b = 0) (hi : inI (a.tdiv b)) (H : Wd mi X n L ((0, a.tdiv b) :: S) h Q) : Wd mi X pc L ((0, b) :: (0, a) :: S) h Q := by
  subst hn
  intro p l e R s m args below meth c HH locs cells slots D E ad A ls Qm hC hS hL hv hr
  have hx := hC.1
  have hb := hC.2.1
  have va := hv.t.h.i
  have vb := hv.h.i
  refine lv_idiv hx hb hd (fun q => h0 ((oI_eq vb inI_0).mp q)) ?_
  rw [← oI_div va vb h0]
  exact H p l e R s m args below meth c HH locs cells slots D E ad A ls Qm hC hS hL (VS.c (vvI hi) hv.t.t) hr
theorem s_irem {mi : MI} {X : Nat × (Int → Int)} {pc : Nat} {L S : List AV} {h : HP} {Q : Int → HP → Prop} (n : Nat) {a b : Int} (hn : pc + 1 = n) (hd : decode mi.2.1 pc = .ok (.irem, 1)) (h0 : ¬ b = 0) (H : Wd mi X n L ((0, a.tmod b) :: S) h Q) : Wd mi X pc L ((0, b) :: (0, a) :: S) h Q := by
  subst hn
  intro p l e R s m args below meth c HH locs cells slots D E ad A ls Qm hC hS hL hv hr
  have hx := hC.1
  have hb := hC.2.1
  have va := hv.t.h.i
  have vb := hv.h.i
  refine lv_irem hx hb hd (fun q => h0 ((oI_eq vb inI_0).mp q)) ?_
  rw [oI_rem va vb h0]
  exact H p l e R s m args below meth c HH locs cells slots D E ad A ls Qm hC hS hL (VS.c (vvI (inI_tmod va vb h0)) hv.t.t) hr
theorem s_ladd {mi : MI} {X : Nat × (Int → Int)} {pc : Nat} {L S : List AV} {h : HP} {Q : Int → HP → Prop} (n : Nat) {a b : Int} (hn : pc + 1 = n) (hd : decode mi.2.1 pc = .ok (.ladd, 1)) (hi : inJ (a + b)) (H : Wd mi X n L ((1, a + b) :: S) h Q) : Wd mi X pc L ((1, b) :: (1, a) :: S) h Q := by
  subst hn
  intro p l e R s m args below meth c HH locs cells slots D E ad A ls Qm hC hS hL hv hr
  have hx := hC.1
  have hb := hC.2.1
  refine lv_ladd hx hb hd ?_
  rw [← Int64.ofInt_add]
  exact H p l e R s m args below meth c HH locs cells slots D E ad A ls Qm hC hS hL (VS.c (vvJ hi) hv.t.t) hr
theorem s_lsub {mi : MI} {X : Nat × (Int → Int)} {pc : Nat} {L S : List AV} {h : HP} {Q : Int → HP → Prop} (n : Nat) {a b : Int} (hn : pc + 1 = n) (hd : decode mi.2.1 pc = .ok (.lsub, 1)) (hi : inJ (a - b)) (H : Wd mi X n L ((1, a - b) :: S) h Q) : Wd mi X pc L ((1, b) :: (1, a) :: S) h Q := by
  subst hn
  intro p l e R s m args below meth c HH locs cells slots D E ad A ls Qm hC hS hL hv hr
  have hx := hC.1
  have hb := hC.2.1
  refine lv_lsub hx hb hd ?_
  rw [← Int64.ofInt_sub]
  exact H p l e R s m args below meth c HH locs cells slots D E ad A ls Qm hC hS hL (VS.c (vvJ hi) hv.t.t) hr
theorem s_lmul {mi : MI} {X : Nat × (Int → Int)} {pc : Nat} {L S : List AV} {h : HP} {Q : Int → HP → Prop} (n : Nat) {a b : Int} (hn : pc + 1 = n) (hd : decode mi.2.1 pc = .ok (.lmul, 1)) (hi : inJ (a * b)) (H : Wd mi X n L ((1, a * b) :: S) h Q) : Wd mi X pc L ((1, b) :: (1, a) :: S) h Q := by
  subst hn
  intro p l e R s m args below meth c HH locs cells slots D E ad A ls Qm hC hS hL hv hr
  have hx := hC.1
  have hb := hC.2.1
  refine lv_lmul hx hb hd ?_
  rw [← Int64.ofInt_mul]
  exact H p l e R s m args below meth c HH locs cells slots D E ad A ls Qm hC hS hL (VS.c (vvJ hi) hv.t.t) hr
theorem s_lneg {mi : MI} {X : Nat × (Int → Int)} {pc : Nat} {L S : List AV} {h : HP} {Q : Int → HP → Prop} (n : Nat) {a : Int} (hn : pc + 1 = n) (hd : decode mi.2.1 pc = .ok (.lneg, 1)) (hi : inJ (-a)) (H : Wd mi X n L ((1, -a) :: S) h Q) : Wd mi X pc L ((1, a) :: S) h Q := by
  subst hn
  intro p l e R s m args below meth c HH locs cells slots D E ad A ls Qm hC hS hL hv hr
  have hx := hC.1
  have hb := hC.2.1
  refine lv_lneg hx hb hd ?_
  rw [← Int64.ofInt_neg]
  exact H p l e R s m args below meth c HH locs cells slots D E ad A ls Qm hC hS hL (VS.c (vvJ hi) hv.t) hr
theorem s_ldiv {mi : MI} {X : Nat × (Int → Int)} {pc : Nat} {L S : List AV} {h : HP} {Q : Int → HP → Prop} (n : Nat) {a b : Int} (hn : pc + 1 = n) (hd : decode mi.2.1 pc = .ok (.ldiv, 1)) (h0 : ¬ b = 0) (hi : inJ (a.tdiv b)) (H : Wd mi X n L ((1, a.tdiv b) :: S) h Q) : Wd mi X pc L ((1, b) :: (1, a) :: S) h Q := by
  subst hn
  intro p l e R s m args below meth c HH locs cells slots D E ad A ls Qm hC hS hL hv hr
  have hx := hC.1
  have hb := hC.2.1
  have va := hv.t.h.j
  have vb := hv.h.j
  refine lv_ldiv hx hb hd (fun q => h0 ((oJ_eq vb inJ_0).mp q)) ?_
  rw [← oJ_div va vb h0]
  exact H p l e R s m args below meth c HH locs cells slots D E ad A ls Qm hC hS hL (VS.c (vvJ hi) hv.t.t) hr
theorem s_lrem {mi : MI} {X : Nat × (Int → Int)} {pc : Nat} {L S : List AV} {h : HP} {Q : Int → HP → Prop} (n : Nat) {a b : Int} (hn : pc + 1 = n) (hd : decode mi.2.1 pc = .ok (.lrem, 1)) (h0 : ¬ b = 0) (H : Wd mi X n L ((1, a.tmod b) :: S) h Q) : Wd mi X pc L ((1, b) :: (1, a) :: S) h Q := by
  subst hn
  intro p l e R s m args below meth c HH locs cells slots D E ad A ls Qm hC hS hL hv hr
  have hx := hC.1
  have hb := hC.2.1
  have va := hv.t.h.j
  have vb := hv.h.j
  refine lv_lrem hx hb hd (fun q => h0 ((oJ_eq vb inJ_0).mp q)) ?_
  rw [oJ_rem va vb h0]
  exact H p l e R s m args below meth c HH locs cells slots D E ad A ls Qm hC hS hL (VS.c (vvJ (inJ_tmod va vb h0)) hv.t.t) hr
theorem s_i2l {mi : MI} {X : Nat × (Int → Int)} {pc : Nat} {L S : List AV} {h : HP} {Q : Int → HP → Prop} (n : Nat) {a : Int} (hn : pc + 1 = n) (hd : decode mi.2.1 pc = .ok (.i2l, 1)) (H : Wd mi X n L ((1, a) :: S) h Q) : Wd mi X pc L ((0, a) :: S) h Q := by
  subst hn
  intro p l e R s m args below meth c HH locs cells slots D E ad A ls Qm hC hS hL hv hr
  have hx := hC.1
  have hb := hC.2.1
  exact lv_i2l hx hb hd (o_i2l hv.h.i) (H p l e R s m args below meth c HH locs cells slots D E ad A ls Qm hC hS hL (VS.c (vvJ (inI_J hv.h.i)) hv.t) hr)
theorem s_l2i {mi : MI} {X : Nat × (Int → Int)} {pc : Nat} {L S : List AV} {h : HP} {Q : Int → HP → Prop} (n : Nat) {a : Int} (hn : pc + 1 = n) (hd : decode mi.2.1 pc = .ok (.l2i, 1)) (hi : inI a) (H : Wd mi X n L ((0, a) :: S) h Q) : Wd mi X pc L ((1, a) :: S) h Q := by
  subst hn
  intro p l e R s m args below meth c HH locs cells slots D E ad A ls Qm hC hS hL hv hr
  have hx := hC.1
  have hb := hC.2.1
  exact lv_l2i hx hb hd Int64.toInt32_ofInt (H p l e R s m args below meth c HH locs cells slots D E ad A ls Qm hC hS hL (VS.c (vvI hi) hv.t) hr)
theorem s_l2iw {mi : MI} {X : Nat × (Int → Int)} {pc : Nat} {L S : List AV} {h : HP} {Q : Int → HP → Prop} (n : Nat) {a : Int} (hn : pc + 1 = n) (hd : decode mi.2.1 pc = .ok (.l2i, 1)) (H : Wd mi X n L ((0, a.bmod 4294967296) :: S) h Q) : Wd mi X pc L ((1, a) :: S) h Q := by
  subst hn
  intro p l e R s m args below meth c HH locs cells slots D E ad A ls Qm hC hS hL hv hr
  have hx := hC.1
  have hb := hC.2.1
  exact lv_l2i hx hb hd (o_l2iw a) (H p l e R s m args below meth c HH locs cells slots D E ad A ls Qm hC hS hL (VS.c (vvI (inI_bmod a)) hv.t) hr)
theorem s_i2s {mi : MI} {X : Nat × (Int → Int)} {pc : Nat} {L S : List AV} {h : HP} {Q : Int → HP → Prop} (n : Nat) {a : Int} (hn : pc + 1 = n) (hd : decode mi.2.1 pc = .ok (.i2s, 1)) (H : Wd mi X n L ((0, a.bmod 65536) :: S) h Q) : Wd mi X pc L ((0, a) :: S) h Q := by
  subst hn
  intro p l e R s m args below meth c HH locs cells slots D E ad A ls Qm hC hS hL hv hr
  have hx := hC.1
  have hb := hC.2.1
  exact lv_i2s hx hb hd (o_i2s a) (H p l e R s m args below meth c HH locs cells slots D E ad A ls Qm hC hS hL (VS.c (vvI (inI_bmods a)) hv.t) hr)
theorem s_iand {mi : MI} {X : Nat × (Int → Int)} {pc : Nat} {L S : List AV} {h : HP} {Q : Int → HP → Prop} (n : Nat) {a b : Int} (hn : pc + 1 = n) (hd : decode mi.2.1 pc = .ok (.iand, 1)) (H : Wd mi X n L ((0, (Int32.ofInt a &&& Int32.ofInt b).toInt) :: S) h Q) : Wd mi X pc L ((0, b) :: (0, a) :: S) h Q := by
  subst hn
  intro p l e R s m args below meth c HH locs cells slots D E ad A ls Qm hC hS hL hv hr
  have hx := hC.1
  have hb := hC.2.1
  refine lv_iand hx hb hd ?_
  rw [← Int32.ofInt_toInt (Int32.ofInt a &&& Int32.ofInt b)]
  exact H p l e R s m args below meth c HH locs cells slots D E ad A ls Qm hC hS hL (VS.c (vvI (inI_toInt _)) hv.t.t) hr
theorem s_land {mi : MI} {X : Nat × (Int → Int)} {pc : Nat} {L S : List AV} {h : HP} {Q : Int → HP → Prop} (n : Nat) {a b : Int} (hn : pc + 1 = n) (hd : decode mi.2.1 pc = .ok (.land, 1)) (H : Wd mi X n L ((1, (Int64.ofInt a &&& Int64.ofInt b).toInt) :: S) h Q) : Wd mi X pc L ((1, b) :: (1, a) :: S) h Q := by
  subst hn
  intro p l e R s m args below meth c HH locs cells slots D E ad A ls Qm hC hS hL hv hr
  have hx := hC.1
  have hb := hC.2.1
  refine lv_land hx hb hd ?_
  rw [← Int64.ofInt_toInt (Int64.ofInt a &&& Int64.ofInt b)]
  exact H p l e R s m args below meth c HH locs cells slots D E ad A ls Qm hC hS hL (VS.c (vvJ (inJ_toInt _)) hv.t.t) hr
theorem s_ior {mi : MI} {X : Nat × (Int → Int)} {pc : Nat} {L S : List AV} {h : HP} {Q : Int → HP → Prop} (n : Nat) {a b : Int} (hn : pc + 1 = n) (hd : decode mi.2.1 pc = .ok (.ior, 1)) (H : Wd mi X n L ((0, (Int32.ofInt a ||| Int32.ofInt b).toInt) :: S) h Q) : Wd mi X pc L ((0, b) :: (0, a) :: S) h Q := by
  subst hn
  intro p l e R s m args below meth c HH locs cells slots D E ad A ls Qm hC hS hL hv hr
  have hx := hC.1
  have hb := hC.2.1
  refine lv_ior hx hb hd ?_
  rw [← Int32.ofInt_toInt (Int32.ofInt a ||| Int32.ofInt b)]
  exact H p l e R s m args below meth c HH locs cells slots D E ad A ls Qm hC hS hL (VS.c (vvI (inI_toInt _)) hv.t.t) hr
theorem s_lor {mi : MI} {X : Nat × (Int → Int)} {pc : Nat} {L S : List AV} {h : HP} {Q : Int → HP → Prop} (n : Nat) {a b : Int} (hn : pc + 1 = n) (hd : decode mi.2.1 pc = .ok (.lor, 1)) (H : Wd mi X n L ((1, (Int64.ofInt a ||| Int64.ofInt b).toInt) :: S) h Q) : Wd mi X pc L ((1, b) :: (1, a) :: S) h Q := by
  subst hn
  intro p l e R s m args below meth c HH locs cells slots D E ad A ls Qm hC hS hL hv hr
  have hx := hC.1
  have hb := hC.2.1
  refine lv_lor hx hb hd ?_
  rw [← Int64.ofInt_toInt (Int64.ofInt a ||| Int64.ofInt b)]
  exact H p l e R s m args below meth c HH locs cells slots D E ad A ls Qm hC hS hL (VS.c (vvJ (inJ_toInt _)) hv.t.t) hr
theorem s_ixor {mi : MI} {X : Nat × (Int → Int)} {pc : Nat} {L S : List AV} {h : HP} {Q : Int → HP → Prop} (n : Nat) {a b : Int} (hn : pc + 1 = n) (hd : decode mi.2.1 pc = .ok (.ixor, 1)) (H : Wd mi X n L ((0, (Int32.ofInt a ^^^ Int32.ofInt b).toInt) :: S) h Q) : Wd mi X pc L ((0, b) :: (0, a) :: S) h Q := by
  subst hn
  intro p l e R s m args below meth c HH locs cells slots D E ad A ls Qm hC hS hL hv hr
  have hx := hC.1
  have hb := hC.2.1
  refine lv_ixor hx hb hd ?_
  rw [← Int32.ofInt_toInt (Int32.ofInt a ^^^ Int32.ofInt b)]
  exact H p l e R s m args below meth c HH locs cells slots D E ad A ls Qm hC hS hL (VS.c (vvI (inI_toInt _)) hv.t.t) hr
theorem s_lxor {mi : MI} {X : Nat × (Int → Int)} {pc : Nat} {L S : List AV} {h : HP} {Q : Int → HP → Prop} (n : Nat) {a b : Int} (hn : pc + 1 = n) (hd : decode mi.2.1 pc = .ok (.lxor, 1)) (H : Wd mi X n L ((1, (Int64.ofInt a ^^^ Int64.ofInt b).toInt) :: S) h Q) : Wd mi X pc L ((1, b) :: (1, a) :: S) h Q := by
  subst hn
  intro p l e R s m args below meth c HH locs cells slots D E ad A ls Qm hC hS hL hv hr
  have hx := hC.1
  have hb := hC.2.1
  refine lv_lxor hx hb hd ?_
  rw [← Int64.ofInt_toInt (Int64.ofInt a ^^^ Int64.ofInt b)]
  exact H p l e R s m args below meth c HH locs cells slots D E ad A ls Qm hC hS hL (VS.c (vvJ (inJ_toInt _)) hv.t.t) hr
theorem s_lshr {mi : MI} {X : Nat × (Int → Int)} {pc : Nat} {L S : List AV} {h : HP} {Q : Int → HP → Prop} (n : Nat) {a b : Int} (hn : pc + 1 = n) (hd : decode mi.2.1 pc = .ok (.lshr, 1)) (H : Wd mi X n L ((1, (Int64.ofInt a >>> ((Int32.ofInt b).toInt64 &&& 63)).toInt) :: S) h Q) : Wd mi X pc L ((0, b) :: (1, a) :: S) h Q := by
  subst hn
  intro p l e R s m args below meth c HH locs cells slots D E ad A ls Qm hC hS hL hv hr
  have hx := hC.1
  have hb := hC.2.1
  exact lv_lshr hx hb hd (Int64.ofInt_toInt _).symm (H p l e R s m args below meth c HH locs cells slots D E ad A ls Qm hC hS hL (VS.c (vvJ (inJ_toInt _)) hv.t.t) hr)
theorem s_lshl {mi : MI} {X : Nat × (Int → Int)} {pc : Nat} {L S : List AV} {h : HP} {Q : Int → HP → Prop} (n : Nat) {a b : Int} (hn : pc + 1 = n) (hd : decode mi.2.1 pc = .ok (.lshl, 1)) (H : Wd mi X n L ((1, (Int64.ofInt a <<< ((Int32.ofInt b).toInt64 &&& 63)).toInt) :: S) h Q) : Wd mi X pc L ((0, b) :: (1, a) :: S) h Q := by
  subst hn
  intro p l e R s m args below meth c HH locs cells slots D E ad A ls Qm hC hS hL hv hr
  have hx := hC.1
  have hb := hC.2.1
  exact lv_lshl hx hb hd (Int64.ofInt_toInt _).symm (H p l e R s m args below meth c HH locs cells slots D E ad A ls Qm hC hS hL (VS.c (vvJ (inJ_toInt _)) hv.t.t) hr)
theorem s_dup {mi : MI} {X : Nat × (Int → Int)} {pc : Nat} {L S : List AV} {h : HP} {Q : Int → HP → Prop} (n : Nat) {v : AV} (hn : pc + 1 = n) (hd : decode mi.2.1 pc = .ok (.dup, 1)) (hc : ¬ v.1 = 1) (H : Wd mi X n L (v :: v :: S) h Q) : Wd mi X pc L (v :: S) h Q := by
  subst hn
  intro p l e R s m args below meth c HH locs cells slots D E ad A ls Qm hC hS hL hv hr
  have hx := hC.1
  have hb := hC.2.1
  exact lv_dup hx hb hd (xg_cat1 hc) (H p l e R s m args below meth c HH locs cells slots D E ad A ls Qm hC hS hL (VS.c hv.h hv) hr)
theorem s_dup2 {mi : MI} {X : Nat × (Int → Int)} {pc : Nat} {L S : List AV} {h : HP} {Q : Int → HP → Prop} (n : Nat) {v w : AV} (hn : pc + 1 = n) (hd : decode mi.2.1 pc = .ok (.dup2, 1)) (hc : ¬ v.1 = 1) (hw : ¬ w.1 = 1) (H : Wd mi X n L (v :: w :: v :: w :: S) h Q) : Wd mi X pc L (v :: w :: S) h Q := by
  subst hn
  intro p l e R s m args below meth c HH locs cells slots D E ad A ls Qm hC hS hL hv hr
  have hx := hC.1
  have hb := hC.2.1
  exact lv_dup2_11 hx hb hd (xg_cat1 hc) (xg_cat1 hw) (H p l e R s m args below meth c HH locs cells slots D E ad A ls Qm hC hS hL (VS.c hv.h (VS.c hv.t.h hv)) hr)
theorem s_icmp_eq {mi : MI} {X : Nat × (Int → Int)} {pc : Nat} {L S : List AV} {h : HP} {Q : Int → HP → Prop} (n t : Nat) {a b : Int} {off : Int} (hn : pc + 3 = n) (hd : decode mi.2.1 pc = .ok (.if_icmp .eq off, 3)) (ht : (pc : Int) + off = (t : Int)) (Ht : a = b → Wd mi X t L S h Q) (Hf : ¬ (a = b) → Wd mi X n L S h Q) : Wd mi X pc L ((0, b) :: (0, a) :: S) h Q := by
  subst hn
  intro p l e R s m args below meth c HH locs cells slots D E ad A ls Qm hC hS hL hv hr
  have hx := hC.1
  have hb := hC.2.1
  have va := hv.t.h.i
  have vb := hv.h.i
  have q9 := oI_eq va vb
  have q := oI_eq va vb
  exact lv_icmp_eq hx hb hd ht (fun z => Ht (q.mp z) p l e R s m args below meth c HH locs cells slots D E ad A ls Qm hC hS hL hv.t.t hr) (fun z => Hf (fun y => z (q.mpr y)) p l e R s m args below meth c HH locs cells slots D E ad A ls Qm hC hS hL hv.t.t hr)
theorem s_if_eq {mi : MI} {X : Nat × (Int → Int)} {pc : Nat} {L S : List AV} {h : HP} {Q : Int → HP → Prop} (n t : Nat) {a : Int} {off : Int} (hn : pc + 3 = n) (hd : decode mi.2.1 pc = .ok (.ifCond .eq off, 3)) (ht : (pc : Int) + off = (t : Int)) (Ht : a = 0 → Wd mi X t L S h Q) (Hf : ¬ (a = 0) → Wd mi X n L S h Q) : Wd mi X pc L ((0, a) :: S) h Q := by
  subst hn
  intro p l e R s m args below meth c HH locs cells slots D E ad A ls Qm hC hS hL hv hr
  have hx := hC.1
  have hb := hC.2.1
  have va := hv.h.i
  have q9 := oI_eq va inI_0
  have q := oI_eq va inI_0
  exact lv_if_eq hx hb hd ht (fun z => Ht (q.mp z) p l e R s m args below meth c HH locs cells slots D E ad A ls Qm hC hS hL hv.t hr) (fun z => Hf (fun y => z (q.mpr y)) p l e R s m args below meth c HH locs cells slots D E ad A ls Qm hC hS hL hv.t hr)
theorem s_icmp_ne {mi : MI} {X : Nat × (Int → Int)} {pc : Nat} {L S : List AV} {h : HP} {Q : Int → HP → Prop} (n t : Nat) {a b : Int} {off : Int} (hn : pc + 3 = n) (hd : decode mi.2.1 pc = .ok (.if_icmp .ne off, 3)) (ht : (pc : Int) + off = (t : Int)) (Ht : ¬ a = b → Wd mi X t L S h Q) (Hf : a = b → Wd mi X n L S h Q) : Wd mi X pc L ((0, b) :: (0, a) :: S) h Q := by
  subst hn
  intro p l e R s m args below meth c HH locs cells slots D E ad A ls Qm hC hS hL hv hr
  have hx := hC.1
  have hb := hC.2.1
  have va := hv.t.h.i
  have vb := hv.h.i
  have q9 := oI_eq va vb
  have q := not_congr (oI_eq va vb)
  exact lv_icmp_ne hx hb hd ht (fun z => Ht (q.mp z) p l e R s m args below meth c HH locs cells slots D E ad A ls Qm hC hS hL hv.t.t hr) (fun z => Hf (q9.mp z) p l e R s m args below meth c HH locs cells slots D E ad A ls Qm hC hS hL hv.t.t hr)
theorem s_if_ne {mi : MI} {X : Nat × (Int → Int)} {pc : Nat} {L S : List AV} {h : HP} {Q : Int → HP → Prop} (n t : Nat) {a : Int} {off : Int} (hn : pc + 3 = n) (hd : decode mi.2.1 pc = .ok (.ifCond .ne off, 3)) (ht : (pc : Int) + off = (t : Int)) (Ht : ¬ a = 0 → Wd mi X t L S h Q) (Hf : a = 0 → Wd mi X n L S h Q) : Wd mi X pc L ((0, a) :: S) h Q := by
  subst hn
  intro p l e R s m args below meth c HH locs cells slots D E ad A ls Qm hC hS hL hv hr
  have hx := hC.1
  have hb := hC.2.1
  have va := hv.h.i
  have q9 := oI_eq va inI_0
  have q := not_congr (oI_eq va inI_0)
  exact lv_if_ne hx hb hd ht (fun z => Ht (q.mp z) p l e R s m args below meth c HH locs cells slots D E ad A ls Qm hC hS hL hv.t hr) (fun z => Hf (q9.mp z) p l e R s m args below meth c HH locs cells slots D E ad A ls Qm hC hS hL hv.t hr)
theorem s_icmp_lt {mi : MI} {X : Nat × (Int → Int)} {pc : Nat} {L S : List AV} {h : HP} {Q : Int → HP → Prop} (n t : Nat) {a b : Int} {off : Int} (hn : pc + 3 = n) (hd : decode mi.2.1 pc = .ok (.if_icmp .lt off, 3)) (ht : (pc : Int) + off = (t : Int)) (Ht : a < b → Wd mi X t L S h Q) (Hf : ¬ (a < b) → Wd mi X n L S h Q) : Wd mi X pc L ((0, b) :: (0, a) :: S) h Q := by
  subst hn
  intro p l e R s m args below meth c HH locs cells slots D E ad A ls Qm hC hS hL hv hr
  have hx := hC.1
  have hb := hC.2.1
  have va := hv.t.h.i
  have vb := hv.h.i
  have q9 := oI_eq va vb
  have q := oI_lt va vb
  exact lv_icmp_lt hx hb hd ht (fun z => Ht (q.mp z) p l e R s m args below meth c HH locs cells slots D E ad A ls Qm hC hS hL hv.t.t hr) (fun z => Hf (fun y => z (q.mpr y)) p l e R s m args below meth c HH locs cells slots D E ad A ls Qm hC hS hL hv.t.t hr)
theorem s_if_lt {mi : MI} {X : Nat × (Int → Int)} {pc : Nat} {L S : List AV} {h : HP} {Q : Int → HP → Prop} (n t : Nat) {a : Int} {off : Int} (hn : pc + 3 = n) (hd : decode mi.2.1 pc = .ok (.ifCond .lt off, 3)) (ht : (pc : Int) + off = (t : Int)) (Ht : a < 0 → Wd mi X t L S h Q) (Hf : ¬ (a < 0) → Wd mi X n L S h Q) : Wd mi X pc L ((0, a) :: S) h Q := by
  subst hn
  intro p l e R s m args below meth c HH locs cells slots D E ad A ls Qm hC hS hL hv hr
  have hx := hC.1
  have hb := hC.2.1
  have va := hv.h.i
  have q9 := oI_eq va inI_0
  have q := oI_lt va inI_0
  exact lv_if_lt hx hb hd ht (fun z => Ht (q.mp z) p l e R s m args below meth c HH locs cells slots D E ad A ls Qm hC hS hL hv.t hr) (fun z => Hf (fun y => z (q.mpr y)) p l e R s m args below meth c HH locs cells slots D E ad A ls Qm hC hS hL hv.t hr)
theorem s_icmp_ge {mi : MI} {X : Nat × (Int → Int)} {pc : Nat} {L S : List AV} {h : HP} {Q : Int → HP → Prop} (n t : Nat) {a b : Int} {off : Int} (hn : pc + 3 = n) (hd : decode mi.2.1 pc = .ok (.if_icmp .ge off, 3)) (ht : (pc : Int) + off = (t : Int)) (Ht : b ≤ a → Wd mi X t L S h Q) (Hf : ¬ (b ≤ a) → Wd mi X n L S h Q) : Wd mi X pc L ((0, b) :: (0, a) :: S) h Q := by
  subst hn
  intro p l e R s m args below meth c HH locs cells slots D E ad A ls Qm hC hS hL hv hr
  have hx := hC.1
  have hb := hC.2.1
  have va := hv.t.h.i
  have vb := hv.h.i
  have q9 := oI_eq va vb
  have q := oI_le vb va
  exact lv_icmp_ge hx hb hd ht (fun z => Ht (q.mp z) p l e R s m args below meth c HH locs cells slots D E ad A ls Qm hC hS hL hv.t.t hr) (fun z => Hf (fun y => z (q.mpr y)) p l e R s m args below meth c HH locs cells slots D E ad A ls Qm hC hS hL hv.t.t hr)
theorem s_if_ge {mi : MI} {X : Nat × (Int → Int)} {pc : Nat} {L S : List AV} {h : HP} {Q : Int → HP → Prop} (n t : Nat) {a : Int} {off : Int} (hn : pc + 3 = n) (hd : decode mi.2.1 pc = .ok (.ifCond .ge off, 3)) (ht : (pc : Int) + off = (t : Int)) (Ht : 0 ≤ a → Wd mi X t L S h Q) (Hf : ¬ (0 ≤ a) → Wd mi X n L S h Q) : Wd mi X pc L ((0, a) :: S) h Q := by
  subst hn
  intro p l e R s m args below meth c HH locs cells slots D E ad A ls Qm hC hS hL hv hr
  have hx := hC.1
  have hb := hC.2.1
  have va := hv.h.i
  have q9 := oI_eq va inI_0
  have q := oI_le inI_0 va
  exact lv_if_ge hx hb hd ht (fun z => Ht (q.mp z) p l e R s m args below meth c HH locs cells slots D E ad A ls Qm hC hS hL hv.t hr) (fun z => Hf (fun y => z (q.mpr y)) p l e R s m args below meth c HH locs cells slots D E ad A ls Qm hC hS hL hv.t hr)
theorem s_icmp_gt {mi : MI} {X : Nat × (Int → Int)} {pc : Nat} {L S : List AV} {h : HP} {Q : Int → HP → Prop} (n t : Nat) {a b : Int} {off : Int} (hn : pc + 3 = n) (hd : decode mi.2.1 pc = .ok (.if_icmp .gt off, 3)) (ht : (pc : Int) + off = (t : Int)) (Ht : b < a → Wd mi X t L S h Q) (Hf : ¬ (b < a) → Wd mi X n L S h Q) : Wd mi X pc L ((0, b) :: (0, a) :: S) h Q := by
  subst hn
  intro p l e R s m args below meth c HH locs cells slots D E ad A ls Qm hC hS hL hv hr
  have hx := hC.1
  have hb := hC.2.1
  have va := hv.t.h.i
  have vb := hv.h.i
  have q9 := oI_eq va vb
  have q := oI_lt vb va
  exact lv_icmp_gt hx hb hd ht (fun z => Ht (q.mp z) p l e R s m args below meth c HH locs cells slots D E ad A ls Qm hC hS hL hv.t.t hr) (fun z => Hf (fun y => z (q.mpr y)) p l e R s m args below meth c HH locs cells slots D E ad A ls Qm hC hS hL hv.t.t hr)
theorem s_if_gt {mi : MI} {X : Nat × (Int → Int)} {pc : Nat} {L S : List AV} {h : HP} {Q : Int → HP → Prop} (n t : Nat) {a : Int} {off : Int} (hn : pc + 3 = n) (hd : decode mi.2.1 pc = .ok (.ifCond .gt off, 3)) (ht : (pc : Int) + off = (t : Int)) (Ht : 0 < a → Wd mi X t L S h Q) (Hf : ¬ (0 < a) → Wd mi X n L S h Q) : Wd mi X pc L ((0, a) :: S) h Q := by
  subst hn
  intro p l e R s m args below meth c HH locs cells slots D E ad A ls Qm hC hS hL hv hr
  have hx := hC.1
  have hb := hC.2.1
  have va := hv.h.i
  have q9 := oI_eq va inI_0
  have q := oI_lt inI_0 va
  exact lv_if_gt hx hb hd ht (fun z => Ht (q.mp z) p l e R s m args below meth c HH locs cells slots D E ad A ls Qm hC hS hL hv.t hr) (fun z => Hf (fun y => z (q.mpr y)) p l e R s m args below meth c HH locs cells slots D E ad A ls Qm hC hS hL hv.t hr)
theorem s_icmp_le {mi : MI} {X : Nat × (Int → Int)} {pc : Nat} {L S : List AV} {h : HP} {Q : Int → HP → Prop} (n t : Nat) {a b : Int} {off : Int} (hn : pc + 3 = n) (hd : decode mi.2.1 pc = .ok (.if_icmp .le off, 3)) (ht : (pc : Int) + off = (t : Int)) (Ht : a ≤ b → Wd mi X t L S h Q) (Hf : ¬ (a ≤ b) → Wd mi X n L S h Q) : Wd mi X pc L ((0, b) :: (0, a) :: S) h Q := by
  subst hn
  intro p l e R s m args below meth c HH locs cells slots D E ad A ls Qm hC hS hL hv hr
  have hx := hC.1
  have hb := hC.2.1
  have va := hv.t.h.i
  have vb := hv.h.i
  have q9 := oI_eq va vb
  have q := oI_le va vb
  exact lv_icmp_le hx hb hd ht (fun z => Ht (q.mp z) p l e R s m args below meth c HH locs cells slots D E ad A ls Qm hC hS hL hv.t.t hr) (fun z => Hf (fun y => z (q.mpr y)) p l e R s m args below meth c HH locs cells slots D E ad A ls Qm hC hS hL hv.t.t hr)
theorem s_if_le {mi : MI} {X : Nat × (Int → Int)} {pc : Nat} {L S : List AV} {h : HP} {Q : Int → HP → Prop} (n t : Nat) {a : Int} {off : Int} (hn : pc + 3 = n) (hd : decode mi.2.1 pc = .ok (.ifCond .le off, 3)) (ht : (pc : Int) + off = (t : Int)) (Ht : a ≤ 0 → Wd mi X t L S h Q) (Hf : ¬ (a ≤ 0) → Wd mi X n L S h Q) : Wd mi X pc L ((0, a) :: S) h Q := by
  subst hn
  intro p l e R s m args below meth c HH locs cells slots D E ad A ls Qm hC hS hL hv hr
  have hx := hC.1
  have hb := hC.2.1
  have va := hv.h.i
  have q9 := oI_eq va inI_0
  have q := oI_le va inI_0
  exact lv_if_le hx hb hd ht (fun z => Ht (q.mp z) p l e R s m args below meth c HH locs cells slots D E ad A ls Qm hC hS hL hv.t hr) (fun z => Hf (fun y => z (q.mpr y)) p l e R s m args below meth c HH locs cells slots D E ad A ls Qm hC hS hL hv.t hr)
theorem s_goto {mi : MI} {X : Nat × (Int → Int)} {pc : Nat} {L S : List AV} {h : HP} {Q : Int → HP → Prop} (t : Nat) {off : Int} (hd : decode mi.2.1 pc = .ok (.goto off, 3)) (ht : (pc : Int) + off = (t : Int)) (H : Wd mi X t L S h Q) : Wd mi X pc L S h Q := by
  intro p l e R s m args below meth c HH locs cells slots D E ad A ls Qm hC hS hL hv hr
  have hx := hC.1
  have hb := hC.2.1
  exact lv_goto hx hb hd ht (H p l e R s m args below meth c HH locs cells slots D E ad A ls Qm hC hS hL hv hr)
theorem s_lcmp {mi : MI} {X : Nat × (Int → Int)} {pc : Nat} {L S : List AV} {h : HP} {Q : Int → HP → Prop} (n : Nat) {a b : Int} (hn : pc + 1 = n) (hd : decode mi.2.1 pc = .ok (.lcmp, 1)) (H : Wd mi X n L ((0, lcz a b) :: S) h Q) : Wd mi X pc L ((1, b) :: (1, a) :: S) h Q := by
  subst hn
  intro p l e R s m args below meth c HH locs cells slots D E ad A ls Qm hC hS hL hv hr
  have hx := hC.1
  have hb := hC.2.1
  refine W.lcmp hx hb hd ?_
  rw [o_lcmp hv.t.h.j hv.h.j]
  exact H p l e R s m args below meth c HH locs cells slots D E ad A ls Qm hC hS hL (VS.c (vvI (inI_lcz a b)) hv.t.t) hr
theorem s_tsw {mi : MI} {X : Nat × (Int → Int)} {pc : Nat} {L S : List AV} {h : HP} {Q : Int → HP → Prop} {a lo hi dflt : Int} {offs : Array Int} {len : Nat} (t : Nat) {off : Int} (hd : decode mi.2.1 pc = .ok (.tableswitch dflt lo hi offs, len)) (h1 : ¬ a < lo) (h2 : ¬ hi < a) (ho : offs[(a - lo).toNat]? = some off) (ht : (pc : Int) + off = (t : Int)) (H : Wd mi X t L S h Q) : Wd mi X pc L ((0, a) :: S) h Q := by
  intro p l e R s m args below meth c HH locs cells slots D E ad A ls Qm hC hS hL hv hr
  have hx := hC.1
  have hb := hC.2.1
  have va := hv.h.i
  exact lv_tableIn hx hb hd (by rw [oI va]; exact h1) (by rw [oI va]; exact h2) (by rw [oI va]; exact ho) ht (H p l e R s m args below meth c HH locs cells slots D E ad A ls Qm hC hS hL hv.t hr)
theorem s_tsd {mi : MI} {X : Nat × (Int → Int)} {pc : Nat} {L S : List AV} {h : HP} {Q : Int → HP → Prop} {a lo hi dflt : Int} {offs : Array Int} {len : Nat} (t : Nat) (hd : decode mi.2.1 pc = .ok (.tableswitch dflt lo hi offs, len)) (h1 : a < lo ∨ hi < a) (ht : (pc : Int) + dflt = (t : Int)) (H : Wd mi X t L S h Q) : Wd mi X pc L ((0, a) :: S) h Q := by
  intro p l e R s m args below meth c HH locs cells slots D E ad A ls Qm hC hS hL hv hr
  have hx := hC.1
  have hb := hC.2.1
  have va := hv.h.i
  exact lv_tableOut hx hb hd (by rw [oI va]; exact h1) ht (H p l e R s m args below meth c HH locs cells slots D E ad A ls Qm hC hS hL hv.t hr)
theorem s_lsw {mi : MI} {X : Nat × (Int → Int)} {pc : Nat} {L S : List AV} {h : HP} {Q : Int → HP → Prop} {a dflt : Int} {ps : Array (Int × Int)} {len : Nat} (t : Nat) {off : Int} (hd : decode mi.2.1 pc = .ok (.lookupswitch dflt ps, len)) (hp : (ps.toList.zip (ps.toList.drop 1)).all (fun (a, next) => a.1 < next.1) = true) (ho : Op.lookupswitch.offset ps.toList dflt a = off) (ht : (pc : Int) + off = (t : Int)) (H : Wd mi X t L S h Q) : Wd mi X pc L ((0, a) :: S) h Q := by
  intro p l e R s m args below meth c HH locs cells slots D E ad A ls Qm hC hS hL hv hr
  have hx := hC.1
  have hb := hC.2.1
  have va := hv.h.i
  exact lv_lookup hx hb hd hp (by rw [oI va]; exact ho) ht (H p l e R s m args below meth c HH locs cells slots D E ad A ls Qm hC hS hL hv.t hr)
theorem s_iret {mi : MI} {X : Nat × (Int → Int)} {pc : Nat} {L S : List AV} {h : HP} {Q : Int → HP → Prop} {z : Int} (hd : decode mi.2.1 pc = .ok (.ireturn, 1)) (ht : mi.2.2.2.1 = some .int) (H : Q z h) : Wd mi X pc L [(0, z)] h Q := by
  intro p l e R s m args below meth c HH locs cells slots D E ad A ls Qm hC hS hL hv hr
  have hx := hC.1
  have hb := hC.2.1
  have k := hr pc ls HH locs z h (Or.inl ⟨hd, Or.inl ht⟩) (by rw [ht]; exact hv.h) H hS
  rw [ht] at k
  exact k
theorem s_zret {mi : MI} {X : Nat × (Int → Int)} {pc : Nat} {L S : List AV} {h : HP} {Q : Int → HP → Prop} {z : Int} (hd : decode mi.2.1 pc = .ok (.ireturn, 1)) (ht : mi.2.2.2.1 = some .boolean) (h01 : z = 0 ∨ z = 1) (H : Q z h) : Wd mi X pc L [(0, z)] h Q := by
  intro p l e R s m args below meth c HH locs cells slots D E ad A ls Qm hC hS hL hv hr
  have hx := hC.1
  have hb := hC.2.1
  have k := hr pc ls HH locs z h (Or.inl ⟨hd, Or.inr ⟨ht, h01⟩⟩) (by rw [ht]; exact hv.h) H hS
  rw [ht] at k
  exact k
theorem s_lret {mi : MI} {X : Nat × (Int → Int)} {pc : Nat} {L S : List AV} {h : HP} {Q : Int → HP → Prop} {z : Int} (hd : decode mi.2.1 pc = .ok (.lreturn, 1)) (ht : mi.2.2.2.1 = some .long) (H : Q z h) : Wd mi X pc L [(1, z)] h Q := by
  intro p l e R s m args below meth c HH locs cells slots D E ad A ls Qm hC hS hL hv hr
  have hx := hC.1
  have hb := hC.2.1
  have k := hr pc ls HH locs z h (Or.inr (Or.inl ⟨hd, ht⟩)) (by rw [ht]; exact hv.h) H hS
  rw [ht] at k
  exact k
theorem s_vret {mi : MI} {X : Nat × (Int → Int)} {pc : Nat} {L S : List AV} {h : HP} {Q : Int → HP → Prop} (hd : decode mi.2.1 pc = .ok (.return_, 1)) (ht : mi.2.2.2.1 = none) (H : Q 0 h) : Wd mi X pc L [] h Q := by
  intro p l e R s m args below meth c HH locs cells slots D E ad A ls Qm hC hS hL hv hr
  have hx := hC.1
  have hb := hC.2.1
  have k := hr pc ls HH locs 0 h (Or.inr (Or.inr ⟨hd, ht⟩)) (by rw [ht]; exact ⟨fun e => absurd e (by decide : ¬ (7 : Nat) = 0), fun e => absurd e (by decide : ¬ (7 : Nat) = 1)⟩) H hS
  rw [ht] at k
  exact k

/-! THE ENGINE: a small abstract machine (numbers as Int, cells by place) whose judgement Wd implies the machine's W -/
abbrev AV : Type := Nat × Int
abbrev HP : Type := Int → Int → Int
abbrev MI : Type := MethodName × ByteArray × Nat × Option FieldType × Nat × Nat
def gtbl : List Cond := lw_tbl.filter goodWord
theorem gm {w : Cond} (i : Nat) (h : lw_tbl[i]? = some w) (g : goodWord w = true) : w ∈ gtbl := List.mem_filter.mpr ⟨List.mem_of_getElem? h, g⟩
abbrev inI (z : Int) : Prop := -2147483648 ≤ z ∧ z ≤ 2147483647
abbrev inJ (z : Int) : Prop := -9223372036854775808 ≤ z ∧ z ≤ 9223372036854775807
def vv (v : AV) : Prop := (v.1 = 0 → inI v.2) ∧ (v.1 = 1 → inJ v.2)
def VS (S : List AV) : Prop := ∀ v ∈ S, vv v
theorem VS.h {x : AV} {S : List AV} (h : VS (x :: S)) : vv x := h x List.mem_cons_self
theorem VS.t {x : AV} {S : List AV} (h : VS (x :: S)) : VS S := fun v hv => h v (List.mem_cons_of_mem _ hv)
theorem VS.c {x : AV} {S : List AV} (h : vv x) (hS : VS S) : VS (x :: S) := fun v hv => (List.mem_cons.mp hv).elim (fun e => e ▸ h) (hS v)
theorem vvI {z : Int} (h : inI z) : vv (0, z) := ⟨fun _ => h, fun e => absurd e (by decide : ¬ (0 : Nat) = 1)⟩
theorem vvJ {z : Int} (h : inJ z) : vv (1, z) := ⟨fun e => absurd e (by decide : ¬ (1 : Nat) = 0), fun _ => h⟩
theorem vvR {z : Int} : vv (2, z) := ⟨fun e => absurd e (by decide : ¬ (2 : Nat) = 0), fun e => absurd e (by decide : ¬ (2 : Nat) = 1)⟩
theorem vv.i {z : Int} (h : vv (0, z)) : inI z := h.1 rfl
theorem vv.j {z : Int} (h : vv (1, z)) : inJ z := h.2 rfl
def xg (ad : Int → Nat) (v : AV) : Value := match v.1 with
  | 0 => .int (Int32.ofInt v.2)
  | 1 => .long (Int64.ofInt v.2)
  | _ => .ref (ad v.2)
theorem oI {z : Int} (h : inI z) : (Int32.ofInt z).toInt = z := Int32.toInt_ofInt_of_le (by have := h.1; omega) (by have := h.2; omega)
theorem oJ {z : Int} (h : inJ z) : (Int64.ofInt z).toInt = z := Int64.toInt_ofInt_of_le (by have := h.1; omega) (by have := h.2; omega)
theorem oI_eq {a b : Int} (ha : inI a) (hb : inI b) : Int32.ofInt a = Int32.ofInt b ↔ a = b := ⟨fun h => by rw [← oI ha, ← oI hb, h], fun h => by rw [h]⟩
theorem oI_le {a b : Int} (ha : inI a) (hb : inI b) : Int32.ofInt a ≤ Int32.ofInt b ↔ a ≤ b := by rw [Int32.le_iff_toInt_le, oI ha, oI hb]
theorem oI_lt {a b : Int} (ha : inI a) (hb : inI b) : Int32.ofInt a < Int32.ofInt b ↔ a < b := by rw [Int32.lt_iff_toInt_lt, oI ha, oI hb]
theorem oI_0 : Int32.ofInt 0 = 0 := rfl
theorem inI_0 : inI 0 := ⟨by decide, by decide⟩
theorem oI_toNat {z : Int} (h : inI z) : (Int32.ofInt z).toNatClampNeg = z.toNat := by
  show (Int32.ofInt z).toInt.toNat = z.toNat
  rw [oI h]
theorem oI_in {z : Int} {n : Nat} (h : inI z) (h0 : 0 ≤ z) (h1 : z < n) : vp_in (Int32.ofInt z) n := vp_in_iff.mpr (by rw [oI h]; exact ⟨h0, h1⟩)
-- ===== the world
def kd (k : Nat) : Nat × Nat := kdL.getD k (9, 0)
def fcs (k : Nat) : List (Nat × Int) := ftL.getD (kd k).2 []
def isJ (k j : Nat) : Bool := (kd k).1 == 1 || ((kd k).1 == 4 && (((fcs k).getD j (9, 0)).1 == 1))
def vh (h : HP) : Prop := ∀ k j : Nat, if isJ k j = true then inJ (h k j) else inI (h k j)
def fv (ad : Int → Nat) (h : HP) (k j : Nat) (q : Nat × Int) : Value := match q.1 with
  | 3 => .ref (ad q.2)
  | 4 => .ref (ad (h k j))
  | 1 => .long (Int64.ofInt (h k j))
  | _ => .int (Int32.ofInt (h k j))
def fvs (ad : Int → Nat) (h : HP) (k : Nat) : List Value := (fcs k).mapIdx (fun j q => fv ad h k j q)
abbrev xE : Type := ClassId × ClassId × ClassId × ClassId
abbrev tyE (E : xE) : List (ClassId × FieldType) := [(E.1, .int), (E.2.1, .long), (E.2.2.1, .boolean), (E.2.2.2, .array .int)]
def cE (E : xE) (ad : Int → Nat) (h : HP) (k : Nat) : va_E := match (kd k).1 with
  | 0 => .inl (E.1, (kd k).2, .inl (fun j => Int32.ofInt (h k j)))
  | 1 => .inl (E.2.1, (kd k).2, .inr (.inl (fun j => Int64.ofInt (h k j))))
  | 2 => .inl (E.2.2.1, (kd k).2, .inl (fun j => Int32.ofInt (h k j)))
  | 3 => .inl (E.2.2.2, (kd k).2, .inr (.inr (.inr (.inr (fun j => some (ad (15 + (j : Int))))))))
  | _ => .inr ((kd k).2, fvs ad h k)
abbrev NC : Nat := 65
def wl (E : xE) (ad : Int → Nat) (h : HP) : va_W := (List.range NC).map (fun k : Nat => (ad (k : Int), cE E ad h k))
theorem wl_get {E : xE} {ad : Int → Nat} {h : HP} {k : Nat} (hk : k < NC) : (wl E ad h)[k]? = some (ad (k : Int), cE E ad h k) := by
  unfold wl
  rw [List.getElem?_map, List.getElem?_range hk]
  rfl
theorem cE_congr {E : xE} {ad : Int → Nat} {h h' : HP} {k : Nat} (hh : ∀ j : Nat, h' k j = h k j) : cE E ad h' k = cE E ad h k := by
  have e1 : (fun j : Nat => Int32.ofInt (h' k j)) = (fun j : Nat => Int32.ofInt (h k j)) := funext fun j => by rw [hh j]
  have e2 : (fun j : Nat => Int64.ofInt (h' k j)) = (fun j : Nat => Int64.ofInt (h k j)) := funext fun j => by rw [hh j]
  have e3 : fvs ad h' k = fvs ad h k := by
    unfold fvs fv
    congr 1
    funext j q
    rw [hh j]
  unfold cE
  rw [e1, e2, e3]
theorem wl_set {E : xE} {ad : Int → Nat} {h h' : HP} {k : Nat} (hk : k < NC) (hh : ∀ k' : Nat, k' ≠ k → ∀ j : Nat, h' k' j = h k' j) {x : va_E} (hx : x = cE E ad h' k) : (wl E ad h).set k (ad (k : Int), x) = wl E ad h' := by
  subst hx
  apply List.ext_getElem?
  intro i
  by_cases hi : i < NC
  · by_cases e : k = i
    · subst e
      rw [List.getElem?_set_self (by simp [wl]; exact hi), wl_get hi]
    · rw [List.getElem?_set_ne e, wl_get hi, wl_get hi, cE_congr (hh i (fun q => e q.symm))]
  · have h1 : ((wl E ad h).set k (ad (k : Int), cE E ad h' k))[i]? = none := by simp [wl]; omega
    have h2 : (wl E ad h')[i]? = none := by simp [wl]; omega
    rw [h1, h2]
/-- a place of a cell gets a number -/
def xu (h : HP) (k i v : Int) : HP := fun a b => if a = k then (if b = i then v else h a b) else h a b
theorem xu_s (h : HP) (k i v : Int) : xu h k i v k i = v := by simp [xu]
theorem xu_k {h : HP} {k i v a b : Int} (e : ¬ a = k) : xu h k i v a b = h a b := by simp [xu, e]
theorem xu_i {h : HP} {k i v a b : Int} (e : ¬ b = i) : xu h k i v a b = h a b := by simp [xu, e]
theorem xu_off {h : HP} {k : Nat} {i v : Int} (k' : Nat) (e : k' ≠ k) (j : Nat) : xu h k i v k' j = h k' j := xu_k (fun q => e (Int.ofNat.inj q))
theorem vh_xu {h : HP} {k : Nat} {i v : Int} (hv : vh h) (hi : ∀ j : Nat, (j : Int) = i → if isJ k j = true then inJ v else inI v) : vh (xu h k i v) := by
  intro a b
  by_cases e : (a : Int) = k
  · have ea : a = k := Int.ofNat.inj e
    subst ea
    by_cases eb : (b : Int) = i
    · have := hi b eb
      simp only [xu, eb, if_true]
      exact this
    · rw [xu_i eb]; exact hv a b
  · rw [xu_k e]; exact hv a b
theorem vh.i {h : HP} (hv : vh h) {k j : Nat} (e : isJ k j = false) : inI (h k j) := by
  have := hv k j
  rw [e] at this
  exact this
theorem vh.j {h : HP} (hv : vh h) {k j : Nat} (e : isJ k j = true) : inJ (h k j) := by
  have := hv k j
  rw [e] at this
  exact this
-- ===== what never changes: static arrays, the script, the links of nest mates
def sxL : List (List Int) := [[0, 0, 10, 1], [20, 500, 50, 9], [1, 0, 0, 1, 1], [5, 9999, 0, 30, 9]]
def sx (i : Nat) (j : Int) : Int := (sxL.getD i []).getD j.toNat 0
def SX (X : Nat × (Int → Int)) (ad : Int → Nat) (A : Nat → Prop) (U : State) (H : Heap) : Prop :=
  (va_Z "BuoyReader$Settings" "LOWEST" "[I" (.ref (ad 1000)) A U H ∧ va_Z "BuoyReader$Settings" "GREATEST" "[I" (.ref (ad 1001)) A U H ∧ va_Z "BuoyReader$LensRow" "LEAST_N" "[I" (.ref (ad 1002)) A U H ∧ va_Z "BuoyReader$LensRow" "GREATEST_N" "[I" (.ref (ad 1003)) A U H) ∧
  (va_T .int (ad 1000) 4 (fun j => .int (Int32.ofInt (sx 0 j))) A U H ∧ va_T .int (ad 1001) 4 (fun j => .int (Int32.ofInt (sx 1 j))) A U H ∧ va_T .int (ad 1002) 5 (fun j => .int (Int32.ofInt (sx 2 j))) A U H ∧ va_T .int (ad 1003) 5 (fun j => .int (Int32.ofInt (sx 3 j))) A U H) ∧
  (va_T .int (ad 1004) X.1 (fun j => .int (Int32.ofInt (X.2 j))) A U H ∧ X.1 ≤ 1536 ∧ ∀ j : Nat, j < X.1 → inI (X.2 j)) ∧
  va_Nw (.methodLinkNest RX1 44 yX8_meanDown "BuoyReader") U ∧ va_Nw (.methodLinkNest RX6 55 yX8_meanDown "BuoyReader") U
theorem SX.moved {X : Nat × (Int → Int)} {ad : Int → Nat} {A : Nat → Prop} {u U : State} {H : Heap} (hW : u.WarmedH U.vm) (h : SX X ad A u H) : SX X ad A U H := by
  obtain ⟨⟨a1, a2, a3, a4⟩, ⟨b1, b2, b3, b4⟩, ⟨c1, c2⟩, d1, d2⟩ := h
  have hvm := hW.alike
  exact ⟨⟨va_Z.moved hvm a1, va_Z.moved hvm a2, va_Z.moved hvm a3, va_Z.moved hvm a4⟩, ⟨va_T.moved hvm b1, va_T.moved hvm b2, va_T.moved hvm b3, va_T.moved hvm b4⟩, ⟨va_T.moved hvm c1, c2⟩, va_Nw.warmM hW d1, va_Nw.warmM hW d2⟩
theorem SX.kept {X : Nat × (Int → Int)} {ad : Int → Nat} {A : Nat → Prop} {U : State} {H H1 : Heap} (hq : ∀ a : Nat, a < H.size → ¬ A a → H1[a]? = H[a]?) (h : SX X ad A U H) : SX X ad A U H1 := by
  obtain ⟨⟨a1, a2, a3, a4⟩, ⟨b1, b2, b3, b4⟩, ⟨c1, c2⟩, d1, d2⟩ := h
  exact ⟨⟨a1.kept hq, a2.kept hq, a3.kept hq, a4.kept hq⟩, ⟨b1.kept hq, b2.kept hq, b3.kept hq, b4.kept hq⟩, ⟨c1.kept hq, c2⟩, d1, d2⟩
theorem SX.same {X : Nat × (Int → Int)} {ad : Int → Nat} {A : Nat → Prop} {u U : State} {H : Heap} (hvm : u.vm = U.vm) (h : SX X ad A u H) : SX X ad A U H := by
  obtain ⟨⟨a1, a2, a3, a4⟩, ⟨b1, b2, b3, b4⟩, ⟨c1, c2⟩, d1, d2⟩ := h
  have hal : u.vm.Alike U.vm := by rw [hvm]; exact Vm.Alike.refl _
  exact ⟨⟨va_Z.moved hal a1, va_Z.moved hal a2, va_Z.moved hal a3, va_Z.moved hal a4⟩, ⟨va_T.moved hal b1, va_T.moved hal b2, va_T.moved hal b3, va_T.moved hal b4⟩, ⟨va_T.moved hal c1, c2⟩, va_Nw.same rfl hvm d1, va_Nw.same rfl hvm d2⟩
-- ===== the judgement
def Cx (mi : MI) (X : Nat × (Int → Int)) (p : Program) (R : Room) (s : State) (m : MethodId) (args : Array Value) (c : Code) (D : va_G) (E : xE) (ad : Int → Nat) (A : Nat → Prop) (cells slots : Nat) : Prop :=
  p.tables.exec = Jvm.exec ∧ c.code = mi.2.1 ∧ c.maxLocals = mi.2.2.1 ∧ s.vm.findClass mi.1.cls = some m.cls ∧ (∀ w ∈ gtbl, w.before args s = true) ∧ va_K D vwCl (tyE E) s ∧ (∀ q : Nat, s.heap.size ≤ q → A q) ∧ (mi.2.2.2.2.1 ≤ R.frames ∧ mi.2.2.2.2.2 ≤ R.locals ∧ cells ≤ R.cells ∧ slots ≤ R.slots) ∧ SX X ad A s s.heap
def Sx (D : va_G) (E : xE) (ad : Int → Nat) (A : Nat → Prop) (s : State) (H : Heap) (locs : List Loc) (h : HP) : Prop := va_P D vwCl (wl E ad h) H ∧ va_D A (wl E ad h) ∧ va_S A s.heap H locs ∧ vh h
def HL (ad : Int → Nat) (nL : Nat) (ls : Array Slot) (L : List AV) : Prop := ls.size = nL ∧ lv_wf ls ∧ ∀ (i : Nat) (v : AV), L[i]? = some v → v.1 ≠ 9 → ls[i]? = some (.val (xg ad v)) ∧ vv v
def rtag (o : Option FieldType) : Nat := match o with
  | none => 7
  | some .long => 1
  | some _ => 0
def rt (mi : MI) (pc : Nat) (z : Int) : Prop :=
  (decode mi.2.1 pc = .ok (.ireturn, 1) ∧ (mi.2.2.2.1 = some .int ∨ (mi.2.2.2.1 = some .boolean ∧ (z = 0 ∨ z = 1)))) ∨ (decode mi.2.1 pc = .ok (.lreturn, 1) ∧ mi.2.2.2.1 = some .long) ∨ (decode mi.2.1 pc = .ok (.return_, 1) ∧ mi.2.2.2.1 = none)
/-- what a method of an answer of that type leaves on the stack -/
def rpush (o : Option FieldType) (z : Int) (S : List AV) : List AV := match o with
  | none => S
  | some .long => (1, z) :: S
  | some _ => (0, z) :: S
def rsv (ad : Int → Nat) (o : Option FieldType) (z : Int) : Option Value := match o with
  | none => none
  | some .long => some (.long (Int64.ofInt z))
  | some _ => some (.int (Int32.ofInt z))
theorem rpush_map (ad : Int → Nat) (o : Option FieldType) (z : Int) (S : List AV) : (rpush o z S).map (xg ad) = (rsv ad o z).toList ++ S.map (xg ad) := by
  cases o with
  | none => rfl
  | some t => cases t <;> rfl
theorem rpush_vs {o : Option FieldType} {z : Int} {S : List AV} (h : vv (rtag o, z)) (hS : VS S) : VS (rpush o z S) := by
  cases o with
  | none => exact hS
  | some t => cases t <;> exact VS.c h hS
def Wd (mi : MI) (X : Nat × (Int → Int)) (pc : Nat) (L S : List AV) (h : HP) (Q : Int → HP → Prop) : Prop :=
  ∀ (p : Program) (l : Launch) (e : Env) (R : Room) (s : State) (m : MethodId) (args : Array Value) (below : List Frame) (meth : Method) (c : Code) (H : Heap) (locs : List Loc) (cells slots : Nat) (D : va_G) (E : xE) (ad : Int → Nat) (A : Nat → Prop) (ls : Array Slot) (Qm : State → Prop),
    Cx mi X p R s m args c D E ad A cells slots → Sx D E ad A s H locs h → HL ad mi.2.2.1 ls L → VS S →
    (∀ (pcr : Nat) (ls' : Array Slot) (H' : Heap) (locs' : List Loc) (z : Int) (h' : HP), rt mi pcr z → vv (rtag mi.2.2.2.1, z) → Q z h' → Sx D E ad A s H' locs' h' → W p l e R s m args below meth c H' locs' cells slots Qm (F0 m pcr ls' (rsv ad mi.2.2.2.1 z).toList)) →
    W p l e R s m args below meth c H locs cells slots Qm (F0 m pc ls (S.map (xg ad)))
theorem Wd.imp {mi : MI} {X : Nat × (Int → Int)} {pc : Nat} {L S : List AV} {h : HP} {Q Q' : Int → HP → Prop} (H : Wd mi X pc L S h Q) (hq : ∀ z h', Q z h' → Q' z h') : Wd mi X pc L S h Q' := by
  intro p l e R s m args below meth c HH locs cells slots D E ad A ls Qm hC hS hL hv hr
  exact H p l e R s m args below meth c HH locs cells slots D E ad A ls Qm hC hS hL hv (fun pcr ls' H' locs' z h' a b q d => hr pcr ls' H' locs' z h' a b (hq z h' q) d)
/-- fewer locals are known -/
theorem Wd.less {mi : MI} {X : Nat × (Int → Int)} {pc : Nat} {L L' S : List AV} {h : HP} {Q : Int → HP → Prop} (H : Wd mi X pc L' S h Q) (hl : ∀ (i : Nat) (v : AV), L'[i]? = some v → v.1 ≠ 9 → L[i]? = some v) : Wd mi X pc L S h Q := by
  intro p l e R s m args below meth c HH locs cells slots D E ad A ls Qm hC hS hL hv hr
  exact H p l e R s m args below meth c HH locs cells slots D E ad A ls Qm hC hS ⟨hL.1, hL.2.1, fun i v h1 h2 => hL.2.2 i v (hl i v h1 h2) h2⟩ hv hr

/-! rows of rows: the word for them, what the machine does at new T[n][m], and the row for it -/
def AOA9 (t : FieldType) (U : State) : Prop := (Cond.arrayOver (.array t)).before #[] U = true
theorem AOA9.use {t : FieldType} {A : Array Value} {U : State} (h : AOA9 t U) : (Cond.arrayOver (.array t)).before A U = true := h
theorem AOA9.moved {t : FieldType} {u U : State} (hvm : u.vm.Alike U.vm) (h : AOA9 t u) : AOA9 t U := by
  obtain ⟨comp, c, k, h1, h2, h3, h4, h5⟩ := arrayOverA_spec h
  obtain ⟨k', hk', he⟩ := hvm.2.2 _ _ h3
  have e1 : U.vm.findClass (FieldType.array t).toString = some comp := by rw [hvm.findClass]; exact h1
  have e2 : U.vm.findClass ("[" ++ (FieldType.array t).toString) = some c := by rw [hvm.findClass]; exact h5
  have e3 := va_idx_bare U.vm comp
  rw [hvm.bare_eq] at e3
  have e5 : (U.vm.classes.findIdx? fun (x : Class) => match x.kind with | .array component _ => component == comp | _ => false) = some c := e3.symm.trans ((va_idx_bare u.vm comp).trans h2)
  have e4 : k'.kind = .array comp (.array t) := by rw [he]; exact h4
  unfold AOA9 Cond.before Cond.holds
  simp only [Cond.value]
  rw [e1, Option.bind_some]
  refine (congrArg (fun o : Option Nat => (o.bind (fun c => (U.vm.classes[c]?).map fun (k : Class) => match k.kind with | .array _ ty => decide (ty = FieldType.array t) && decide (U.vm.findClass ("[" ++ (FieldType.array t).toString) = some c) | _ => false) == some true)) e5).trans ?_
  simp [hk', e4, e2]
/-! ===== ours: the state behind new T[n][m], and how the machine comes there ===== -/
/-- the outer row when i of its places have been filled; the inner rows lie behind it -/
def ou9 (cA : ClassId) (N h0 i : Nat) : Cell := arrV cA N (fun j => va_rf (if j < i then some (h0 + 1 + j) else none))
/-- an inner row as it is made -/
def in9 (cy : ClassId) (K : Nat) (v : Value) : Cell := { cls := cy, slots := Array.replicate K v, vm := .none }
theorem ou9_new (cA : ClassId) (N h0 : Nat) : ({ cls := cA, slots := Array.replicate N .null, vm := .none } : Cell) = ou9 cA N h0 0 := by
  rw [arrV_new]
  refine congrArg (arrV cA N) (funext fun j => ?_)
  rw [if_neg (Nat.not_lt_zero j)]
  rfl
theorem ou9_next (cA : ClassId) (N h0 i : Nat) : (ou9 cA N h0 i).setSlot i (.ref (h0 + 1 + i)) = ou9 cA N h0 (i + 1) := by
  unfold ou9
  rw [arrV_store]
  refine congrArg (arrV cA N) (funext fun j => ?_)
  show (if j = i then _ else _) = _
  by_cases e : j = i
  · rw [if_pos e, e, if_pos (Nat.lt_succ_self i)]
    rfl
  · rw [if_neg e]
    show va_rf (if j < i then some (h0 + 1 + j) else none) = _
    by_cases h : j < i
    · rw [if_pos h, if_pos (Nat.lt_succ_of_lt h)]
    · rw [if_neg h, if_neg (by omega)]
/-- the state when i inner rows have been made and hung into the outer one -/
def fi9 (U : State) (cA cy : ClassId) (N K : Nat) (v : Value) : Nat → State
  | 0 => U.pushCell (ou9 cA N U.heap.size 0)
  | i + 1 => ((fi9 U cA cy N K v i).pushCell (in9 cy K v)).setCell U.heap.size (ou9 cA N U.heap.size (i + 1))
section FI9
variable (U : State) (cA cy : ClassId) (N K : Nat) (v : Value)
theorem fi9_vm : ∀ i : Nat, (fi9 U cA cy N K v i).vm = U.vm
  | 0 => rfl
  | i + 1 => fi9_vm i
theorem fi9_java : ∀ i : Nat, (fi9 U cA cy N K v i).topJava? = U.topJava?
  | 0 => rfl
  | i + 1 => fi9_java i
theorem fi9_top (g : JFrame) : ∀ i : Nat, fi9 (U.setTop g) cA cy N K v i = (fi9 U cA cy N K v i).setTop g
  | 0 => rfl
  | i + 1 => by
    show ((fi9 (U.setTop g) cA cy N K v i).pushCell (in9 cy K v)).setCell U.heap.size (ou9 cA N U.heap.size (i + 1)) = _
    rw [fi9_top g i]
    rfl
theorem fi9_size : ∀ i : Nat, (fi9 U cA cy N K v i).heap.size = U.heap.size + 1 + i
  | 0 => by
    show (U.heap.push _).size = _
    rw [Array.size_push]
  | i + 1 => by
    show (((fi9 U cA cy N K v i).heap.push (in9 cy K v)).setIfInBounds U.heap.size (ou9 cA N U.heap.size (i + 1))).size = _
    rw [Array.size_setIfInBounds, Array.size_push, fi9_size i]
    omega
theorem fi9_used : ∀ i : Nat, (fi9 U cA cy N K v i).slotsUsed = U.slotsUsed + N + i * K
  | 0 => by
    show U.slotsUsed + (ou9 cA N U.heap.size 0).slots.size = _
    unfold ou9
    rw [arrV_size]
    omega
  | i + 1 => by
    show (fi9 U cA cy N K v i).slotsUsed + (Array.replicate K v).size = _
    rw [Array.size_replicate, fi9_used i, Nat.succ_mul]
    omega
theorem fi9_outer : ∀ i : Nat, (fi9 U cA cy N K v i).heap[U.heap.size]? = some (ou9 cA N U.heap.size i)
  | 0 => by
    show (U.heap.push _)[U.heap.size]? = _
    rw [Array.getElem?_push, if_pos rfl]
  | i + 1 => by
    show (((fi9 U cA cy N K v i).heap.push (in9 cy K v)).setIfInBounds U.heap.size (ou9 cA N U.heap.size (i + 1)))[U.heap.size]? = _
    have h := fi9_size U cA cy N K v i
    rw [Array.getElem?_setIfInBounds, if_pos rfl, if_pos (by rw [Array.size_push, h]; omega)]
/-- what a round does elsewhere than at the outer row -/
theorem fi9_step (i a : Nat) (ha : a ≠ U.heap.size) : (fi9 U cA cy N K v (i + 1)).heap[a]? = ((fi9 U cA cy N K v i).heap.push (in9 cy K v))[a]? := by
  show (((fi9 U cA cy N K v i).heap.push (in9 cy K v)).setIfInBounds U.heap.size (ou9 cA N U.heap.size (i + 1)))[a]? = _
  rw [Array.getElem?_setIfInBounds, if_neg (fun h => ha h.symm)]
theorem fi9_old (a : Nat) (ha : a < U.heap.size) : ∀ i : Nat, (fi9 U cA cy N K v i).heap[a]? = U.heap[a]?
  | 0 => by
    show (U.heap.push _)[a]? = _
    rw [Array.getElem?_push, if_neg (by omega)]
  | i + 1 => by
    have h := fi9_size U cA cy N K v i
    rw [fi9_step U cA cy N K v i a (by omega), Array.getElem?_push, if_neg (by omega)]
    exact fi9_old a ha i
theorem fi9_inner (j : Nat) : ∀ i : Nat, j < i → (fi9 U cA cy N K v i).heap[U.heap.size + 1 + j]? = some (in9 cy K v)
  | 0, h => absurd h (Nat.not_lt_zero j)
  | i + 1, h => by
    have hs := fi9_size U cA cy N K v i
    rw [fi9_step U cA cy N K v i _ (by omega), Array.getElem?_push]
    by_cases e : j = i
    · rw [if_pos (by omega)]
    · rw [if_neg (by omega)]
      exact fi9_inner j i (by omega)
end FI9
section WP9
variable {E : CtlPost} {e : Env} {d : Bool} {acts : List Action}
/-- one array, all of its places the type's own beginning -/
theorem wn9 {Q : Addr → Pre} {s : State} {c comp : ClassId} {n : Nat} {v : Value} {k : Class} {ty : FieldType}
    (hk : s.vm.classes[c]? = some k) (hkind : k.kind = .array comp ty) (hfit : fits ty v = true) (hdef : v.isDefault = true)
    (hlim : ¬ n > e.platform.arrayLengthLimit) (hheap : ¬ n * componentBytes ty > e.platform.maxHeapBytes)
    (h1 : s.heap.size < e.platform.maxCells) (h2 : s.slotsUsed + n ≤ e.platform.maxSlots)
    (hq : Q s.heap.size d acts (s.pushCell { cls := c, slots := Array.replicate n v, vm := .none })) :
    wp (Jvm.newArray c n v) Q E e d acts s := by
  have hall : ((Array.replicate n v).all (·.isDefault)) = true := by
    rw [Array.all_replicate]
    split <;> simp [hdef]
  have hacts : allocActs (Array.replicate n v) s.heap.size acts = acts := by
    unfold allocActs
    rw [if_pos hall]
  have hm : ¬ n > e.platform.maxSlots := by omega
  simp only [Jvm.newArray, Jvm.arrayFits, wp_bind', Jvm.W.ask, Jvm.W.ite, hlim, if_false, wp_pure', Jvm.W.theClass, hk, hkind, hheap, hm, Jvm.W.alloc, hacts, Option.some.injEq, exists_eq_left']
  refine ⟨h1, by rw [Array.size_replicate]; exact h2, fun i x hx => ?_, hq⟩
  rw [Array.getElem?_replicate] at hx
  split at hx
  · cases hx
    simp [State.fitsSlot, State.slotType?, hk, hkind, hfit]
  · cases hx
/-- the innermost count -/
theorem wm9 {Q : Addr → Pre} {s : State} {cy comp : ClassId} {k : Int32} {ky : Class} {ty : FieldType} (hn : ¬ k < 0)
    (hk : s.vm.classes[cy]? = some ky) (hkind : ky.kind = .array comp ty)
    (hlim : ¬ k.toNatClampNeg > e.platform.arrayLengthLimit) (hheap : ¬ k.toNatClampNeg * componentBytes ty > e.platform.maxHeapBytes)
    (h1 : s.heap.size < e.platform.maxCells) (h2 : s.slotsUsed + k.toNatClampNeg ≤ e.platform.maxSlots)
    (hq : Q s.heap.size d acts (s.pushCell (in9 cy k.toNatClampNeg (defaultValue ty)))) :
    wp (Jvm.Op.multianewarray.make cy [k]) Q E e d acts s := by
  simp only [Jvm.Op.multianewarray.make, wp_bind', Jvm.W.ite, hn, if_false, wp_pure', Jvm.W.theClass, hk, Option.some.injEq, exists_eq_left', hkind]
  exact wn9 hk hkind (fits_default ty) (isDefault_default ty) hlim hheap h1 h2 hq
end WP9
section WL9
variable {E : CtlPost} {e : Env} {d : Bool} {acts : List Action} {U : State} {cA cy comp : ClassId} {N : Nat} {k : Int32} {kA ky : Class} {ty : FieldType}
/-- the rounds that hang the inner rows in -/
theorem wl9 (f : Nat → PUnit → Sem (ForInStep PUnit)) (hkA : U.vm.classes[cA]? = some kA) (hkindA : kA.kind = .array cy (.array ty)) (hky : U.vm.classes[cy]? = some ky) (hkindy : ky.kind = .array comp ty) (hn : ¬ k < 0)
    (hlim : ¬ k.toNatClampNeg > e.platform.arrayLengthLimit) (hheap : ¬ k.toNatClampNeg * componentBytes ty > e.platform.maxHeapBytes)
    (h1 : U.heap.size + (1 + N) ≤ e.platform.maxCells) (h2 : U.slotsUsed + (N + N * k.toNatClampNeg) ≤ e.platform.maxSlots)
    (hf : ∀ (x : Nat) (Q' : ForInStep PUnit → Pre) (d' : Bool) (acts' : List Action) (s' : State), wp (Jvm.Op.multianewarray.make cy [k]) (fun a => wp (Jvm.writeLoc U.heap.size x (.ref a)) (fun _ => Q' (ForInStep.yield PUnit.unit)) E e) E e d' acts' s' → wp (f x PUnit.unit) Q' E e d' acts' s')
    {Q : PUnit → Pre} (hq : ∀ d' acts', Q PUnit.unit d' acts' (fi9 U cA cy N k.toNatClampNeg (defaultValue ty) N)) :
    wp (forIn (List.range' 0 N 1) PUnit.unit f) Q E e d acts (fi9 U cA cy N k.toNatClampNeg (defaultValue ty) 0) := by
  refine wp_forIn_inv (fun rest s' => ∃ i : Nat, i + rest.length = N ∧ rest = List.range' i rest.length 1 ∧ s' = fi9 U cA cy N k.toNatClampNeg (defaultValue ty) i) f _ ⟨0, by rw [List.length_range']; omega, by rw [List.length_range'], rfl⟩ ?_ ?_
  · rintro x rest s' d' acts' Q' ⟨i, hi, hr, rfl⟩ hQ
    rw [List.length_cons] at hi hr
    rw [List.range'_succ] at hr
    obtain ⟨hx, hr⟩ := List.cons.inj hr
    subst hx
    have hN : x < N := by omega
    have hsz := fi9_size U cA cy N k.toNatClampNeg (defaultValue ty) x
    have hus := fi9_used U cA cy N k.toNatClampNeg (defaultValue ty) x
    have hvm := fi9_vm U cA cy N k.toNatClampNeg (defaultValue ty) x
    have hou := fi9_outer U cA cy N k.toNatClampNeg (defaultValue ty) x
    have hmul : x * k.toNatClampNeg + k.toNatClampNeg ≤ N * k.toNatClampNeg := by
      rw [← Nat.succ_mul]
      exact Nat.mul_le_mul_right _ hN
    refine hf x Q' d' acts' _ (wm9 hn (by rw [hvm]; exact hky) hkindy hlim hheap (by rw [hsz]; omega) (by rw [hus]; omega) ?_)
    rw [Jvm.W.writeLoc]
    refine ⟨ou9 cA N U.heap.size x, ?_, (by intro h; cases h), ?_, ?_, ?_⟩
    · show ((fi9 U cA cy N k.toNatClampNeg (defaultValue ty) x).heap.push _)[U.heap.size]? = _
      rw [Array.getElem?_push, if_neg (by omega)]
      exact hou
    · unfold ou9
      rw [arrV_size]
      exact hN
    · have hk9 : (fi9 U cA cy N k.toNatClampNeg (defaultValue ty) x).vm.classes[cA]? = some kA := by rw [hvm]; exact hkA
      show State.fitsSlot ((fi9 U cA cy N k.toNatClampNeg (defaultValue ty) x).pushCell _) cA .none x _ = true
      simp [State.fitsSlot, State.slotType?, hk9, hkindA, fits]
    · rw [hsz, ou9_next]
      exact hQ _ _ _ ⟨x + 1, by omega, hr, rfl⟩
  · rintro s' d' acts' ⟨i, hi, -, rfl⟩
    rw [List.length_nil, Nat.add_zero] at hi
    rw [hi]
    exact hq d' acts'
/-- both counts -/
theorem wo9 {Q : Addr → Pre} {n : Int32} (hkA : U.vm.classes[cA]? = some kA) (hkindA : kA.kind = .array cy (.array ty)) (hky : U.vm.classes[cy]? = some ky) (hkindy : ky.kind = .array comp ty) (hn : ¬ n < 0) (hk : ¬ k < 0)
    (hlimA : ¬ n.toNatClampNeg > e.platform.arrayLengthLimit) (hheapA : ¬ n.toNatClampNeg * componentBytes (.array ty) > e.platform.maxHeapBytes)
    (hlim : ¬ k.toNatClampNeg > e.platform.arrayLengthLimit) (hheap : ¬ k.toNatClampNeg * componentBytes ty > e.platform.maxHeapBytes)
    (h1 : U.heap.size + (1 + n.toNatClampNeg) ≤ e.platform.maxCells) (h2 : U.slotsUsed + (n.toNatClampNeg + n.toNatClampNeg * k.toNatClampNeg) ≤ e.platform.maxSlots)
    (hq : ∀ d' acts', Q U.heap.size d' acts' (fi9 U cA cy n.toNatClampNeg k.toNatClampNeg (defaultValue ty) n.toNatClampNeg)) :
    wp (Jvm.Op.multianewarray.make cA [n, k]) Q E e d acts U := by
  have hfind : ([k].find? (· < 0)) = none := by
    rw [List.find?_cons_of_neg (by simpa using hk), List.find?_nil]
  have hlen : ([:n.toNatClampNeg] : Std.Legacy.Range).size = n.toNatClampNeg := by
    simp [Std.Legacy.Range.size]
  rw [Jvm.Op.multianewarray.make]
  simp only [wp_bind', Jvm.W.ite, hn, if_false, wp_pure', Jvm.W.theClass, hkA, Option.some.injEq, exists_eq_left', hkindA, Std.Legacy.Range.forIn_eq_forIn_range', hfind, ite_self, hlen]
  refine wn9 hkA hkindA rfl rfl hlimA hheapA (by omega) (by omega) ?_
  rw [ou9_new cA n.toNatClampNeg U.heap.size]
  have h0 := fun d9 acts9 => wl9 (E := E) (d := d9) (acts := acts9) (N := n.toNatClampNeg) (f := fun i _ => do
      let a ← Jvm.Op.multianewarray.make cy [k]
      Jvm.writeLoc U.heap.size i (.ref a)
      Pure.pure (ForInStep.yield PUnit.unit)) hkA hkindA hky hkindy hk hlim hheap h1 h2 (fun x Q' d' acts' s' h => by rw [wp_bind']; exact h) (Q := fun _ => Q U.heap.size) hq
  try simp only [wp_bind', wp_pure', ite_self]
  exact h0 _ _
/-- the instruction, its class resolved -/
theorem ws9 {Q : Unit → Pre} {g : JFrame} {index : Nat} {n : Int32} {rest : List Value} (hs : U.topJava?.isSome) (hr : U.vm.classReady g.method.cls index cA) (hstack : g.stack = .int k :: .int n :: rest)
    (hkA : U.vm.classes[cA]? = some kA) (hkindA : kA.kind = .array cy (.array ty)) (hky : U.vm.classes[cy]? = some ky) (hkindy : ky.kind = .array comp ty) (hn : ¬ n < 0) (hk : ¬ k < 0)
    (hlimA : ¬ n.toNatClampNeg > e.platform.arrayLengthLimit) (hheapA : ¬ n.toNatClampNeg * componentBytes (.array ty) > e.platform.maxHeapBytes)
    (hlim : ¬ k.toNatClampNeg > e.platform.arrayLengthLimit) (hheap : ¬ k.toNatClampNeg * componentBytes ty > e.platform.maxHeapBytes)
    (h1 : U.heap.size + (1 + n.toNatClampNeg) ≤ e.platform.maxCells) (h2 : U.slotsUsed + (n.toNatClampNeg + n.toNatClampNeg * k.toNatClampNeg) ≤ e.platform.maxSlots)
    (hq : ∀ acts', Q () true acts' ((fi9 U cA cy n.toNatClampNeg k.toNatClampNeg (defaultValue ty) n.toNatClampNeg).setTop { g with stack := .ref U.heap.size :: rest })) :
    wp (Jvm.Op.multianewarray.sem index 2) Q E e d acts (U.setTop g) := by
  simp only [Jvm.Op.multianewarray.sem, wp_bind', Jvm.W.resolveClassAt_ready (State.method?_setTop g hs) hr]
  refine (Jvm.Op.popN_top (args := [.int n, .int k]) (rest := rest) hs hstack).mpr ?_
  simp only [List.mapM_cons, List.mapM_nil, wp_bind', wp_pure']
  refine wo9 (U := U.setTop { g with stack := rest }) hkA hkindA hky hkindy hn hk hlimA hheapA hlim hheap h1 h2 (fun d' acts' => ?_)
  rw [fi9_top]
  show wp (Jvm.mark "op.multianewarray" >>= fun _ => Jvm.pushRef U.heap.size) Q E e d' acts' _
  rw [wp_bind', Jvm.W.mark, Jvm.W.pushRef]
  have ht : (fi9 U cA cy n.toNatClampNeg k.toNatClampNeg (defaultValue ty) n.toNatClampNeg).topJava?.isSome := by
    rw [fi9_java]
    exact hs
  refine ⟨{ g with stack := rest }, State.topJava?_setTop' _ ht, ?_⟩
  rw [State.setTop_setTop]
  exact hq acts'
end WL9
section ST9
variable {p : Program} {l : Launch} {e : Env} {R : Room} {s : State} {m : MethodId} {args : Array Value} {below : List Frame} {meth : Method} {c : Code} {T : State} {locs : List Loc} {cells slots : Nat}
/-- a walk that stood still stands behind i rounds; what was written lies in the new outer row -/
theorem fi9_stand (X : Stand p l e R s m args below meth c T locs cells slots) (cA cy : ClassId) (N K : Nat) (v : Value) : ∀ i : Nat, ∃ extra : List Loc, (∀ y ∈ extra, s.heap.size ≤ y.base) ∧ Stand p l e R s m args below meth c (fi9 T cA cy N K v i) (locs ++ extra) (cells + 1 + i) (slots + N + i * K)
  | 0 => ⟨[], fun y hy => (List.not_mem_nil hy).elim, by
    have h := X.pushed (ou9 cA N T.heap.size 0)
    rw [show (ou9 cA N T.heap.size 0).slots.size = N from arrV_size _ _ _] at h
    rw [List.append_nil, Nat.zero_mul]
    exact h⟩
  | i + 1 => by
    obtain ⟨extra, h1, h2⟩ := fi9_stand X cA cy N K v i
    have hsz := fi9_size T cA cy N K v i
    have h3 := h2.pushed (in9 cy K v)
    rw [show (in9 cy K v).slots.size = K from Array.size_replicate] at h3
    have hc : ((fi9 T cA cy N K v i).pushCell (in9 cy K v)).heap[T.heap.size]? = some (ou9 cA N T.heap.size i) := by
      show ((fi9 T cA cy N K v i).heap.push _)[T.heap.size]? = _
      rw [Array.getElem?_push, if_neg (by omega)]
      exact fi9_outer T cA cy N K v i
    have h4 := h3.stored hc i (.ref (T.heap.size + 1 + i))
    rw [ou9_next, List.append_assoc] at h4
    have hle : s.heap.size ≤ T.heap.size := X.same.2.1
    refine ⟨extra ++ [⟨T.heap.size, i⟩], fun y hy => ?_, ?_⟩
    · rcases List.mem_append.mp hy with q | q
      · exact h1 y q
      · rw [List.mem_singleton.mp q]
        exact hle
    · rw [Nat.succ_mul, ← Nat.add_assoc (slots + N), ← Nat.add_assoc (cells + 1)]
      exact h4
/-- new T[n][m], in the shape of a walk: the entry's class is the array class over the arrays of ty -/
theorem mna9 (X : Stand p l e R s m args below meth c T locs cells slots) (hexec : p.tables.exec = Jvm.exec) {own : String} {index : Nat} {ty : FieldType} (hown : s.vm.findClass own = some m.cls) (hclink : (Cond.classLink own index ("[" ++ (FieldType.array ty).toString)).before args s = true)
    (hover : (Cond.arrayOver (.array ty)).before args s = true) (harr : (Cond.arrayClass ty).before args s = true) {g : JFrame} (hg : g.method = m) (hdg : decode c.code g.pc = .ok (.multianewarray index 2, 4)) {n k : Int32} {rest : List Value} (hstack : g.stack = .int k :: .int n :: rest) (hn : ¬ n < 0) (hk : ¬ k < 0)
    (hb1 : n.toNatClampNeg * 4 ≤ 536870912) (hb2 : k.toNatClampNeg * componentBytes ty ≤ 536870912) (hb3 : k.toNatClampNeg ≤ 536870912) (hcells : cells + (1 + n.toNatClampNeg) ≤ R.cells) (hslots : slots + (n.toNatClampNeg + n.toNatClampNeg * k.toNatClampNeg) ≤ R.slots) :
    ∃ (vm₁ : Vm) (cA comp : ClassId), s.vm.findClass ("[" ++ (FieldType.array ty).toString) = some cA ∧ s.vm.findClass (FieldType.array ty).toString = some comp ∧ ArrOfT s cA (.array ty) ∧
      Stand p l e R s m args below meth c (fi9 (T.setVm vm₁) cA comp n.toNatClampNeg k.toNatClampNeg (defaultValue ty) n.toNatClampNeg) locs (cells + 1 + n.toNatClampNeg) (slots + n.toNatClampNeg + n.toNatClampNeg * k.toNatClampNeg) ∧
      ∀ target, Steps p.tables e below ((fi9 (T.setVm vm₁) cA comp n.toNatClampNeg k.toNatClampNeg (defaultValue ty) n.toNatClampNeg).setTop { g with pc := g.pc + 4, stack := .ref T.heap.size :: rest }) target → Steps p.tables e below (T.setTop g) target := by
  subst hg
  have hpl : e.platform.magicAccessors = ({} : Platform).magicAccessors := by rw [X.admits.platform]
  obtain ⟨comp, cA, kA, hcomp, -, hkA, hkindA, hnameA⟩ := arrayOverA_spec hover
  obtain ⟨cy, ky, cm, hnamey, hky, hkindy⟩ := Cond.arrayClass_spec harr
  cases hcomp.symm.trans hnamey
  obtain ⟨cc, hfcc, hcl⟩ := Cond.classLink_spec hown hclink e.platform hpl
  cases hnameA.symm.trans hfcc
  obtain ⟨hg1, hwarm, hready⟩ := State.classEntry (e := e) X.warmed hcl
  generalize T.vm.noted g.method.cls index (.cls cA) = vm₁ at hg1 hwarm hready
  have hal : s.vm.Alike vm₁ := hwarm.alike
  obtain ⟨kA1, hkA1, heA⟩ := hal.2.2 _ _ hkA
  obtain ⟨ky1, hky1, hey⟩ := hal.2.2 _ _ hky
  have hkindA1 : kA1.kind = .array comp (.array ty) := by rw [heA]; exact hkindA
  have hkindy1 : ky1.kind = .array cm ty := by rw [hey]; exact hkindy
  have hlimA : ¬ n.toNatClampNeg > e.platform.arrayLengthLimit := by rw [Launch.admits_arrayLengthLimit X.admits]; omega
  have hlim : ¬ k.toNatClampNeg > e.platform.arrayLengthLimit := by rw [Launch.admits_arrayLengthLimit X.admits]; omega
  have hheapA : ¬ n.toNatClampNeg * componentBytes (.array ty) > e.platform.maxHeapBytes := by
    rw [Launch.admits_maxHeapBytes X.admits]
    show ¬ n.toNatClampNeg * 4 > 536870912
    omega
  have hheap : ¬ k.toNatClampNeg * componentBytes ty > e.platform.maxHeapBytes := by
    rw [Launch.admits_maxHeapBytes X.admits]
    show ¬ k.toNatClampNeg * componentBytes ty > 536870912
    omega
  obtain ⟨hr1, hr2⟩ := X.roomAbove hcells hslots
  obtain ⟨extra, hx1, hx2⟩ := fi9_stand (X.noted hwarm) cA comp n.toNatClampNeg k.toNatClampNeg (defaultValue ty) n.toNatClampNeg
  refine ⟨vm₁, cA, comp, hnameA, hcomp, fun N9 z9 => ⟨(fun q hq => by cases hq), kA, hkA, comp, hkindA⟩, Stand.forget hx2 hx1, fun target hrest => ?_⟩
  refine Steps.instr (c := c) (by simpa using X.here) ?_
  rw [hdg]
  show wpRun (p.tables.exec (.multianewarray index 2)) _ _ e (T.setTop g)
  rw [hexec]
  show wp (Jvm.Op.multianewarray.sem index 2) _ _ e false [] (T.setTop g)
  simp only [Jvm.Op.multianewarray.sem, wp_bind']
  refine (Jvm.W.resolveClassAt_transfer (s := T.setTop g) (State.method?_setTop g X.here.top) hg1 hready (Vm.Alike.size_le (X.warmed.alike.symm.trans hal))).mpr ?_
  have h9 := ws9 (U := T.setVm vm₁) (E := fun x acts9 s' => ∀ (acts : List Action), Steps p.tables e below (afterInstr e 4 (Res.ctl x s' acts)).fst target) (d := false) (acts := []) (e := e) (Q := fun a d9 acts9 s' => ∀ (acts : List Action), Steps p.tables e below (afterInstr e 4 (Res.ok () s' acts)).fst target) (g := g) (index := index) X.here.top hready hstack hkA1 hkindA1 hky1 hkindy1 hn hk hlimA hheapA hlim hheap hr1 hr2 (fun acts' acts => by
    rw [afterInstr_ok]
    exact hrest)
  simp only [Jvm.Op.multianewarray.sem, wp_bind'] at h9
  exact h9
end ST9
/-! ===== the printed text for new T[n][m] (starting text); where it stood on the library it stands on the rows above ===== -/
/-- f, but v at every address of l -/
def vr_up {α : Type} (f : Nat → α) (l : List Nat) (v : α) : Nat → α := fun a => if a ∈ l then v else f a
theorem vr_up_in {α : Type} {f : Nat → α} {l : List Nat} {v : α} {a : Nat} (h : a ∈ l) : vr_up f l v a = v := if_pos h
theorem vr_up_ne {α : Type} {f : Nat → α} {l : List Nat} {v : α} {a : Nat} (h : a ∉ l) : vr_up f l v a = f a := if_neg h
theorem vr_rows {L l : List Nat} {f : Nat → va_E} {e : va_E} (h : ∀ a, a ∈ l → a ∉ L) : va_pl L f ++ l.map (fun a => (a, e)) = va_pl (L ++ l) (vr_up f l e) := by
  unfold va_pl
  rw [List.map_append]
  congr 1
  · apply List.map_congr_left
    intro a ha
    rw [vr_up_ne (fun q => h a q ha)]
  · apply List.map_congr_left
    intro a ha
    rw [vr_up_in ha]
theorem vr_lay {X rows : va_W} {x : Nat × va_E} {pl : va_W} {D : va_G} {cl : List vw_C} {H : Heap} (hP : va_P D cl (((X ++ pl) ++ [x]) ++ rows) H) : va_P D cl ((X ++ [x]) ++ (pl ++ rows)) H := by
  rw [List.append_assoc (X ++ pl)] at hP
  have h := va_P.swap hP
  rw [← List.append_assoc X] at h
  have h2 := va_P.swap h
  rw [List.append_assoc (X ++ [x])] at h2
  exact h2
theorem vr_layD {X rows : va_W} {x : Nat × va_E} {pl : va_W} {A : Nat → Prop} (hD : va_D A (((X ++ pl) ++ [x]) ++ rows)) : va_D A ((X ++ [x]) ++ (pl ++ rows)) := by
  rw [List.append_assoc (X ++ pl)] at hD
  have h := va_D.swap hD
  rw [← List.append_assoc X] at h
  have h2 := va_D.swap h
  rw [List.append_assoc (X ++ [x])] at h2
  exact h2
section VGM
variable {p : Program} {l : Launch} {e : Env} {R : Room} {s : State} {m : MethodId} {args : Array Value} {below : List Frame} {meth : Method} {c : Code} {H : Heap} {locs : List Loc} {cells slots : Nat} {Q : State → Prop}
variable {cc : ByteArray} {pc : Nat} {ls : Array Slot} {rest : List Value} {D : va_G} {cl : List vw_C} {A : Nat → Prop} {a : Nat} {tys : List (ClassId × FieldType)} {ws : va_W} {H0 : Heap}
theorem va_mna {X : va_W} {L : List Nat} {f : Nat → va_E} {cc : ByteArray} (hexec : p.tables.exec = Jvm.exec) (hb : c.code = cc) {own : String} {index : Nat} {ty : FieldType} {cy : ClassId} (hown : s.vm.findClass own = some m.cls) (hclink : (Cond.classLink own index ("[" ++ (FieldType.array ty).toString)).before args s = true) (hover : AOA9 ty s) (harr : (Cond.arrayClass ty).before args s = true) (hcy : s.vm.findClass (FieldType.array ty).toString = some cy)
    (hK : va_K D cl tys s) (hP : va_P D cl (X ++ va_pl L f) H) (hD : va_D A (X ++ va_pl L f)) (hS : va_S A H0 H locs) (hA : ∀ q, H0.size ≤ q → A q) {n k : Int32} {N' K' : Nat} {z : vp_A} (hn : ¬ n < 0) (hk : ¬ k < 0) (hN : n.toNatClampNeg = N') (hM : k.toNatClampNeg = K')
    (hb1 : N' * 4 ≤ 536870912) (hb2 : K' * componentBytes ty ≤ 536870912) (hb3 : K' ≤ 536870912) (hdf : fits ty (defaultValue ty) = true) (hdd : (defaultValue ty).isDefault = true) (hcells : cells + (1 + N') ≤ R.cells) (hslots : slots + (N' + N' * K') ≤ R.slots) (hz : ∀ c : ClassId, in9 c K' (defaultValue ty) = vp_cell c z) (hdg : decode cc pc = .ok (.multianewarray index 2, 4))
    (kk : ∀ (q : Nat) (r : Nat → Nat) (cA : ClassId) (H1 : Heap), (∀ i j : Nat, i < N' → j < N' → r i = r j → i = j) → (∀ i : Nat, i < N' → r i ∉ L) → va_K D cl (tys ++ [(cA, .array ty)]) s →
      va_P D cl ((X ++ [(q, .inl (cA, N', .inr (.inr (.inr (.inr (fun i => if i < N' then some (r i) else none))))))]) ++ va_pl (L ++ (List.range N').map r) (vr_up f ((List.range N').map r) (.inl (cy, z)))) H1 → va_D A ((X ++ [(q, .inl (cA, N', .inr (.inr (.inr (.inr (fun i => if i < N' then some (r i) else none))))))]) ++ va_pl (L ++ (List.range N').map r) (vr_up f ((List.range N').map r) (.inl (cy, z)))) → va_S A H0 H1 locs →
      W p l e R s m args below meth c H1 locs (cells + 1 + N') (slots + N' + N' * K') Q (F0 m (pc + 4) ls (.ref q :: rest))) : W p l e R s m args below meth c H locs cells slots Q (F0 m pc ls (.int k :: .int n :: rest)) := by
  subst hN
  subst hM
  intro T hT Xs
  obtain ⟨vm₁, cA, comp, fA, fC, hAr, X', step⟩ := mna9 Xs hexec hown hclink (AOA9.use hover) harr (g := F0 m pc ls (.int k :: .int n :: rest)) rfl (by rw [hb]; exact hdg) rfl hn hk hb1 hb2 hb3 hcells hslots
  have ec : some cy = some comp := hcy.symm.trans fC
  cases ec
  generalize hF : fi9 (T.setVm vm₁) cA cy n.toNatClampNeg k.toNatClampNeg (defaultValue ty) n.toNatClampNeg = F at X' step
  have hTh : (T.setVm vm₁).heap = H := hT
  have f1 := fi9_size (T.setVm vm₁) cA cy n.toNatClampNeg k.toNatClampNeg (defaultValue ty) n.toNatClampNeg
  have f2 := fi9_outer (T.setVm vm₁) cA cy n.toNatClampNeg k.toNatClampNeg (defaultValue ty) n.toNatClampNeg
  rw [hF, hTh] at f1 f2
  have hold : ∀ x : Nat, x < H.size → F.heap[x]? = H[x]? := fun x hx => by
    have h9 := fi9_old (T.setVm vm₁) cA cy n.toNatClampNeg k.toNatClampNeg (defaultValue ty) x (by rw [hTh]; exact hx) n.toNatClampNeg
    rw [hF, hTh] at h9
    exact h9
  have hrow : ∀ j : Nat, j < n.toNatClampNeg → F.heap[H.size + 1 + j]? = some (vp_cell cy z) := fun j hj => by
    have h9 := fi9_inner (T.setVm vm₁) cA cy n.toNatClampNeg k.toNatClampNeg (defaultValue ty) j n.toNatClampNeg hj
    rw [hF, hTh, hz] at h9
    exact h9
  have hout : ou9 cA n.toNatClampNeg H.size n.toNatClampNeg = vp_cell cA (n.toNatClampNeg, .inr (.inr (.inr (.inr (fun i => if i < n.toNatClampNeg then some (H.size + 1 + i) else none))))) := (vp_cell_q _ _ _).symm
  rw [hout] at f2
  have hlt : ∀ a, a ∈ L → a < H.size := fun a ha => by
    obtain ⟨k9, hk9⟩ := va_pl_get (X := X) (f := f) ha
    exact (hP k9 _ hk9).lt
  have hnl : ∀ i : Nat, i < n.toNatClampNeg → H.size + 1 + i ∉ L := fun i _ h => by
    have := hlt _ h
    omega
  have hnm : ∀ a, a ∈ (List.range n.toNatClampNeg).map (fun i => H.size + 1 + i) → a ∉ L := fun a ha h => by
    obtain ⟨i, -, rfl⟩ := List.mem_map.mp ha
    have := hlt _ h
    omega
  have hP0 : va_P D cl (X ++ va_pl L f) F.heap := hP.kept (fun k9 x hx => hold x.1 ((hP k9 x hx).lt))
  have hP1 : va_P D cl ((X ++ va_pl L f) ++ [(H.size, .inl (cA, n.toNatClampNeg, .inr (.inr (.inr (.inr (fun i => if i < n.toNatClampNeg then some (H.size + 1 + i) else none))))))]) F.heap := hP0.app (fun k9 x hx => by
    have h0 : k9 < 1 := (List.getElem?_eq_some_iff.mp hx).1
    rw [show k9 = 0 by omega] at hx
    cases hx
    exact f2)
  have hP2 : va_P D cl (((X ++ va_pl L f) ++ [(H.size, .inl (cA, n.toNatClampNeg, .inr (.inr (.inr (.inr (fun i => if i < n.toNatClampNeg then some (H.size + 1 + i) else none))))))]) ++ ((List.range n.toNatClampNeg).map (fun i => H.size + 1 + i)).map (fun a => (a, .inl (cy, z)))) F.heap := hP1.app (fun k9 x hx => by
    obtain ⟨a, ha, rfl⟩ := List.mem_map.mp (List.mem_of_getElem? hx)
    obtain ⟨i, hi, rfl⟩ := List.mem_map.mp ha
    exact hrow i (List.mem_range.mp hi))
  have hD2 : va_D A (((X ++ va_pl L f) ++ [(H.size, .inl (cA, n.toNatClampNeg, .inr (.inr (.inr (.inr (fun i => if i < n.toNatClampNeg then some (H.size + 1 + i) else none))))))]) ++ ((List.range n.toNatClampNeg).map (fun i => H.size + 1 + i)).map (fun a => (a, .inl (cy, z)))) := by
    have hD1 := hD.push (e := .inl (cA, n.toNatClampNeg, .inr (.inr (.inr (.inr (fun i => if i < n.toNatClampNeg then some (H.size + 1 + i) else none)))))) hP rfl (hA _ hS.1)
    generalize hW1 : (X ++ va_pl L f) ++ [(H.size, .inl (cA, n.toNatClampNeg, .inr (.inr (.inr (.inr (fun i => if i < n.toNatClampNeg then some (H.size + 1 + i) else none))))))] = W1 at hD1 hP1 ⊢
    have hle : ∀ (k9 : Nat) (x : Nat × va_E), W1[k9]? = some x → x.1 ≤ H.size := fun k9 x hx => by
      rw [← hW1] at hx
      by_cases hl : k9 < (X ++ va_pl L f).length
      · rw [List.getElem?_append_left hl] at hx
        exact Nat.le_of_lt ((hP k9 x hx).lt)
      · rw [List.getElem?_append_right (by omega)] at hx
        have h0 : k9 - (X ++ va_pl L f).length < 1 := (List.getElem?_eq_some_iff.mp hx).1
        rw [show k9 - (X ++ va_pl L f).length = 0 by omega] at hx
        cases hx
        exact Nat.le_refl _
    have hr : ∀ (k9 : Nat) (x : Nat × va_E), (((List.range n.toNatClampNeg).map (fun i => H.size + 1 + i)).map (fun a => ((a, .inl (cy, z)) : Nat × va_E)))[k9]? = some x → x.1 = H.size + 1 + k9 := fun k9 x hx => by
      rw [List.getElem?_map, List.getElem?_map] at hx
      by_cases h9 : k9 < n.toNatClampNeg
      · rw [List.getElem?_range h9] at hx
        cases hx
        rfl
      · have hn0 : (List.range n.toNatClampNeg)[k9]? = none := List.getElem?_eq_none (by rw [List.length_range]; omega)
        rw [hn0] at hx
        cases hx
    refine ⟨fun i j x y hi hj hxy => ?_, fun k9 x hx => ?_⟩
    · by_cases h1 : i < W1.length <;> by_cases h2 : j < W1.length
      · rw [List.getElem?_append_left h1] at hi
        rw [List.getElem?_append_left h2] at hj
        exact hD1.1 i j x y hi hj hxy
      · rw [List.getElem?_append_left h1] at hi
        rw [List.getElem?_append_right (by omega)] at hj
        have := hle _ _ hi
        have := hr _ _ hj
        omega
      · rw [List.getElem?_append_right (by omega)] at hi
        rw [List.getElem?_append_left h2] at hj
        have := hle _ _ hj
        have := hr _ _ hi
        omega
      · rw [List.getElem?_append_right (by omega)] at hi hj
        have := hr _ _ hi
        have := hr _ _ hj
        omega
    · by_cases h1 : k9 < W1.length
      · rw [List.getElem?_append_left h1] at hx
        exact hD1.2 k9 x hx
      · rw [List.getElem?_append_right (by omega)] at hx
        have := hr _ _ hx
        exact hA _ (by have := hS.1; omega)
  have hK2 : va_K D cl (tys ++ [(cA, .array ty)]) s := ⟨hK.1, fun k9 x hx => by
    by_cases hl : k9 < tys.length
    · rw [List.getElem?_append_left hl] at hx
      exact hK.2 k9 x hx
    · rw [List.getElem?_append_right (by omega)] at hx
      have h0 : k9 - tys.length < 1 := (List.getElem?_eq_some_iff.mp hx).1
      rw [show k9 - tys.length = 0 by omega] at hx
      cases hx
      exact ⟨hAr, fA⟩⟩
  obtain ⟨t, a1, b1⟩ := kk H.size (fun i => H.size + 1 + i) cA F.heap (fun i j _ _ h => by have h9 : H.size + 1 + i = H.size + 1 + j := h; omega) hnl hK2 (by rw [← vr_rows hnm]; exact vr_lay hP2) (by rw [← vr_rows hnm]; exact vr_layD hD2) ⟨by rw [f1]; have := hS.1; omega, fun x h1 h2 => (hold x (Nat.lt_of_lt_of_le h1 hS.1)).trans (hS.2.1 x h1 h2), hS.2.2⟩ F rfl X'
  refine ⟨t, step t ?_, b1⟩
  have e : T.heap.size = H.size := by rw [hT]
  rw [e]
  exact a1
end VGM
/-! ===== END ===== -/

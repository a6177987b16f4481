/-! the record and how it is read: heave, four, forget, set, level, mark, lens, off -/
def NMc (n : Int) (nm : Int → Int) (h : HP) : Prop := ∀ i, 0 ≤ i → i < n → h 13 i = nm i
def NMm (n : Int) (nm : Int → Int) (h : HP) : Prop := ∀ i, 0 ≤ i → i < n → (nm i = 0 → h 46 i = -1) ∧ (¬ nm i = 0 → h 46 i = nm i)
def NOK (n : Int) (nm : Int → Int) : Prop := (∀ i, 0 ≤ i → i < n → 0 ≤ nm i ∧ nm i ≤ 999) ∧ C (fun i => ¬ nm i = 0) 0 n ≤ 20
theorem NM.c {n : Int} {nm : Int → Int} {h : HP} (H : NM n nm h) : NMc n nm h := fun i q1 q2 => (H.1 i q1 q2).1
theorem NM.m {n : Int} {nm : Int → Int} {h : HP} (H : NM n nm h) : NMm n nm h := fun i q1 q2 => ⟨(H.1 i q1 q2).2.1, (H.1 i q1 q2).2.2.1⟩
theorem NM.o {n : Int} {nm : Int → Int} {h : HP} (H : NM n nm h) : NOK n nm := ⟨fun i q1 q2 => (H.1 i q1 q2).2.2.2, H.2⟩
theorem NM_mk {n : Int} {nm : Int → Int} {h : HP} (h1 : NMc n nm h) (h2 : NMm n nm h) (h3 : NOK n nm) : NM n nm h := ⟨fun i q1 q2 => ⟨h1 i q1 q2, (h2 i q1 q2).1, (h2 i q1 q2).2, h3.1 i q1 q2⟩, h3.2⟩
def addI (I : IN) (v : Int) : IN := (iN I + 1, fun k => if k = iN I then v else iR I k, iS I, iL I, iK I, iB I)
def addN (n : Int) (nm : Int → Int) : Int → Int := fun i => if i = n then 0 else nm i
theorem addI_ok {I : IN} (hI : OKI I) {v : Int} (hv : hv9 v) (hn : iN I < 600) : OKI (addI I v) := by
  obtain ⟨a1, a2, a3⟩ := hI
  refine ⟨⟨by show 0 ≤ iN I + 1; omega, by show iN I + 1 ≤ 600; omega⟩, fun k q1 q2 => ?_, a3⟩
  have q2 : k < iN I + 1 := q2
  show hv9 (if k = iN I then v else iR I k)
  by_cases e : k = iN I
  · rw [if_pos e]; exact hv
  · rw [if_neg e]; exact a2 k q1 (by omega)
theorem addN_ok {n : Int} {nm : Int → Int} (h0 : 0 ≤ n) (H : NOK n nm) : NOK (n + 1) (addN n nm) := by
  refine ⟨fun i q1 q2 => ?_, ?_⟩
  · unfold addN
    by_cases e : i = n
    · rw [if_pos e]; omega
    · rw [if_neg e]; exact H.1 i q1 (by omega)
  · rw [C_skip h0 (by unfold addN; rw [if_pos rfl]; exact fun z => z rfl), C_congr (q := fun i => ¬ nm i = 0) (fun i q1 q2 => by unfold addN; rw [if_neg (by omega)])]
    exact H.2
theorem p_add3 {X : Nat × (Int → Int)} {h : HP} {Q : Int → HP → Prop} {I : IN} {nm : Int → Int} {v : Int} (hI : OKI I) (hn : iN I < 600) (hC : CIn I h) (hN : NMc (iN I) nm h)
    (H : ∀ h' : HP, (∀ k i, ¬ (k = 12 ∨ k = 13 ∨ (k = 3 ∧ i = 2)) → h' k i = h k i) → CIn (addI I v) h' → NMc (iN I + 1) (addN (iN I) nm) h' → Q 0 h') : Wd mX3_add X 0 [(2, 3), (0, v)] [] h Q := by
  have h0 := hI.1
  obtain ⟨c1, c2, c3, c4, c5, c6⟩ := hC
  refine vX3_add_0 ⟨fun c => ⟨by omega, by omega, by omega, ?_⟩, fun c => by omega⟩
  rw [c1]
  refine H _ (fun k i q => by rw [xu_ne (by omega), xu_ne (by omega), xu_ne (by omega)]) ⟨xu_eq rfl rfl, fun i q1 q2 => ?_, fun j q1 q2 => by rw [xu_ne (by omega), xu_ne (by omega), xu_ne (by omega)]; exact c3 j q1 q2, ?_, by rw [xu_ne (by omega), xu_ne (by omega), xu_ne (by omega)]; exact c5, fun l q1 q2 => ?_⟩ (fun i q1 q2 => ?_)
  · have q2 : i < iN I + 1 := q2
    show _ = (if i = iN I then v else iR I i)
    by_cases e : i = iN I
    · rw [if_pos e, xu_ne (by omega), xu_ne (by omega), xu_eq rfl e]
    · rw [if_neg e, xu_ne (by omega), xu_ne (by omega), xu_ne (by omega)]; exact c2 i q1 (by omega)
  · rw [xu_ne (by omega), xu_ne (by omega), xu_ne (by omega), xu_ne (by omega), xu_ne (by omega), xu_ne (by omega), xu_ne (by omega), xu_ne (by omega), xu_ne (by omega), xu_ne (by omega), xu_ne (by omega), xu_ne (by omega)]; exact c4
  · rw [xu_ne (by omega), xu_ne (by omega), xu_ne (by omega), xu_ne (by omega), xu_ne (by omega), xu_ne (by omega)]; exact c6 l q1 q2
  · unfold addN
    by_cases e : i = iN I
    · rw [if_pos e, xu_ne (by omega), xu_eq rfl e]
    · rw [if_neg e, xu_ne (by omega), xu_ne (by omega), xu_ne (by omega)]; exact hN i q1 (by omega)
theorem p_heave9 {X : Nat × (Int → Int)} {h : HP} {Q : Int → HP → Prop} {I : IN} {nm : Int → Int} {v : Int} (hI : OKI I) (hM : MIn I h) (hN : NMm (iN I) nm h)
    (H1 : hv9 v → iN I < 600 → ∀ h' : HP, (∀ k i, ¬ (k = 42 ∨ k = 46 ∨ (k = 41 ∧ i = 5)) → h' k i = h k i) → MIn (addI I v) h' → NMm (iN I + 1) (addN (iN I) nm) h' → Q (iN I + 1) h') (H0 : ¬ (hv9 v ∧ iN I < 600) → Q (-1) h) : Wd mX9_heave X 0 [(2, 41), (0, v)] [] h Q := by
  have h0 := hI.1
  obtain ⟨c1, c2, c3, c4, c5⟩ := hM
  refine vX9_heave_0 (p_isHeave (fun hv => ⟨fun z => by omega, fun _ => ⟨fun c => ⟨by omega, by omega, by omega, ?_⟩, fun c => H0 (fun z => by omega)⟩⟩) (fun hv => ⟨fun _ => H0 (fun z => hv z.1), fun z => absurd rfl z⟩))
  rw [c1]
  refine H1 hv (by omega) _ (fun k i q => by rw [xu_ne (by omega), xu_ne (by omega), xu_ne (by omega)]) ⟨xu_eq rfl rfl, fun i q1 q2 => ?_, fun j q1 q2 => by rw [xu_ne (by omega), xu_ne (by omega), xu_ne (by omega)]; exact c3 j q1 q2, by rw [xu_ne (by omega), xu_ne (by omega), xu_ne (by omega)]; exact c4, fun l q1 q2 => ?_⟩ (fun i q1 q2 => ?_)
  · have q2 : i < iN I + 1 := q2
    show _ = (if i = iN I then v else iR I i)
    by_cases e : i = iN I
    · rw [if_pos e, xu_ne (by omega), xu_ne (by omega), xu_eq rfl e]
    · rw [if_neg e, xu_ne (by omega), xu_ne (by omega), xu_ne (by omega)]; exact c2 i q1 (by omega)
  · rw [xu_ne (by omega), xu_ne (by omega), xu_ne (by omega), xu_ne (by omega), xu_ne (by omega), xu_ne (by omega)]; exact c5 l q1 q2
  · unfold addN
    by_cases e : i = iN I
    · rw [if_pos e, xu_ne (by omega), xu_eq rfl e]; exact ⟨fun _ => rfl, fun z => absurd rfl z⟩
    · rw [if_neg e, xu_ne (by omega), xu_ne (by omega), xu_ne (by omega)]; exact hN i q1 (by omega)
theorem o_heave {X : Nat × (Int → Int)} {h : HP} {v : Int} (H : RL9 h) : Wd mX8_heave X 0 [(2, 0), (0, v)] [] h (fun r h1 => Wd mX9_heave X 0 [(2, 41), (0, v)] [] h1 (fun r2 h2 => r = r2 ∧ RL9 h2)) := by
  have HR := H
  obtain ⟨I, nm, hI, hC, hM, hN, hso, hst⟩ := H
  have h0 := hI.1
  have no : ¬ (hv9 v ∧ iN I < 600) → Wd mX9_heave X 0 [(2, 41), (0, v)] [] h (fun r2 h2 => -1 = r2 ∧ RL9 h2) := fun z => p_heave9 hI hM hN.m (fun y1 y2 => absurd ⟨y1, y2⟩ z) (fun _ => ⟨rfl, HR⟩)
  refine vX8_heave_0 (p_canCome (fun hv => ⟨fun z => by omega, fun _ => vX3_room_0 ?_⟩) (fun hv => ⟨fun _ => no (fun z => hv z.1), fun z => absurd rfl z⟩))
  rw [hC.1]
  refine ⟨by omega, fun c => ?_, fun c => no (fun z => by omega)⟩
  refine p_add3 hI (by omega) hC hN.c (fun h1 f1 c1 n1 => ?_)
  have f2 : ∀ k i, ¬ (k = 0 ∧ i = 8) → xu h1 0 8 1 k i = h1 k i := fun k i q => xu_ne q
  have z2 : xu h1 0 8 1 0 8 = 1 := xu_eq rfl rfl
  rw [show h1 3 2 = iN I + 1 from c1.1]
  generalize xu h1 0 8 1 = h2 at f2 z2
  refine p_heave9 hI (hM.keep (fun k i q => by rw [f2 k i (by omega), f1 k i (by omega)])) (nm := nm) (fun i q1 q2 => by rw [f2 46 i (by omega), f1 46 i (by omega)]; exact hN.m i q1 q2) (fun y1 y2 h3 f3 m3 n3 => ⟨rfl, ?_⟩) (fun z => absurd ⟨hv, by omega⟩ z)
  refine ⟨addI I v, addN (iN I) nm, addI_ok hI hv y2, c1.keep (fun k i q => by rw [f3 k i (by omega), f2 k i (by omega)]), m3, NM_mk (fun i q1 q2 => by rw [f3 13 i (by omega), f2 13 i (by omega)]; exact n1 i q1 q2) n3 (addN_ok h0.1 hN.o), hso.keep (by rw [f3 8 0 (by omega), f2 8 0 (by omega), f1 8 0 (by omega)]) (by rw [f3 8 1 (by omega), f2 8 1 (by omega), f1 8 1 (by omega)]), fun z => ?_⟩
  rw [f3 0 8 (by omega), z2] at z
  omega
/-! four -/
theorem bm_q (z : Int) (n : Nat) (hn : 0 < n) : ∃ q : Int, Int.bmod z n = z - n * q ∧ -(n : Int) ≤ 2 * Int.bmod z n ∧ 2 * Int.bmod z n < n := by
  refine ⟨Int.bdiv z n, Int.bmod_eq_self_sub_mul_bdiv z n, ?_, ?_⟩
  · have := Int.le_bmod (x := z) (m := n) hn; omega
  · have := Int.bmod_lt (x := z) (m := n) hn; omega
theorem sh_r {x : Int} (hx : inJ x) (s : Nat) (e : Int64) (he : (e.toBitVec.smod 64).toNat = s) : (Int64.ofInt x >>> e).toInt = x / ((2 ^ s : Nat) : Int) := by
  have e1 : (Int64.ofInt x >>> e).toInt = ((Int64.ofInt x).toBitVec.sshiftRight (e.toBitVec.smod 64).toNat).toInt := rfl
  rw [e1, he, BitVec.toInt_sshiftRight, Int.shiftRight_eq_div_pow]
  rw [show (Int64.ofInt x).toBitVec.toInt = (Int64.ofInt x).toInt from rfl, oJ hx]
theorem sh_l {x : Int} (hx : inJ x) (s : Nat) (e : Int64) (he : (e.toBitVec.smod 64).toNat = s) (ht : (BitVec.twoPow 64 s).toInt = ((2 ^ s : Nat) : Int)) : (Int64.ofInt x <<< e).toInt = Int.bmod (x * ((2 ^ s : Nat) : Int)) 18446744073709551616 := by
  have e1 : (Int64.ofInt x <<< e).toInt = ((Int64.ofInt x).toBitVec <<< (e.toBitVec.smod 64).toNat).toInt := rfl
  rw [e1, he, BitVec.shiftLeft_eq_mul_twoPow, BitVec.toInt_mul, ht]
  rw [show (Int64.ofInt x).toBitVec.toInt = (Int64.ofInt x).toInt from rfl, oJ hx]
theorem part_eq {x : Int} (hx : inJ x) (k : Nat) (e1 e2 e3 : Int64) (h1 : (e1.toBitVec.smod 64).toNat = 48 - 16 * k) (h2 : (e2.toBitVec.smod 64).toNat = 16 * k) (h3 : (e3.toBitVec.smod 64).toNat = 48) (hk : k < 4) :
    Int.bmod ((Int64.ofInt ((Int64.ofInt x <<< e2).toInt) >>> e3).toInt) 4294967296 = Int.bmod (Int.bmod ((Int64.ofInt x >>> e1).toInt) 4294967296) 65536 := by
  rw [Int.bmod_bmod_of_dvd (by decide : (65536 : Nat) ∣ 4294967296)]
  have ht : (BitVec.twoPow 64 (16 * k)).toInt = ((2 ^ (16 * k) : Nat) : Int) := by
    rcases (by omega : k = 0 ∨ k = 1 ∨ k = 2 ∨ k = 3) with rfl | rfl | rfl | rfl <;> decide
  rw [sh_r hx (48 - 16 * k) e1 h1, sh_l hx (16 * k) e2 h2 ht]
  obtain ⟨q, q1, q2, q3⟩ := bm_q (x * ((2 ^ (16 * k) : Nat) : Int)) 18446744073709551616 (by decide)
  rw [sh_r (by omega) 48 e3 h3]
  generalize Int.bmod (x * ((2 ^ (16 * k) : Nat) : Int)) 18446744073709551616 = y at q1 q2 q3
  obtain ⟨r, r1, r2, r3⟩ := bm_q (y / ((2 ^ 48 : Nat) : Int)) 4294967296 (by decide)
  obtain ⟨p, p1, p2, p3⟩ := bm_q (x / ((2 ^ (48 - 16 * k) : Nat) : Int)) 65536 (by decide)
  rcases (by omega : k = 0 ∨ k = 1 ∨ k = 2 ∨ k = 3) with rfl | rfl | rfl | rfl <;> (simp only [Nat.reduceMul, Nat.reduceSub, Nat.reducePow] at *; omega)

/-! MATH: division rounded down, signs, sums and counts over [a, b) -/
theorem td_facts (a : Int) {b : Int} (hb : 0 < b) : (0 ≤ a.tmod b ∧ a.tdiv b = a / b ∧ (0 ≤ a ∨ a.tmod b = 0) ∧ a.tdiv b * b + a.tmod b = a) ∨ (a.tmod b < 0 ∧ a.tdiv b = a / b + 1 ∧ a < 0 ∧ a.tdiv b * b + a.tmod b = a ∧ ¬ a.tdiv b * b = a) := by
  have h1 := Int.tdiv_eq_ediv (a := a) (b := b)
  have h2 := Int.tmod_eq_emod (a := a) (b := b)
  have h3 := Int.emod_nonneg a (by omega : b ≠ 0)
  have h4 := Int.emod_lt_of_pos a hb
  have h5 : a.tdiv b * b + a.tmod b = a := by rw [Int.mul_comm]; exact Int.mul_tdiv_add_tmod a b
  have hs : b.sign = 1 := Int.sign_eq_one_of_pos hb
  rw [hs] at h1
  by_cases hc : 0 ≤ a ∨ b ∣ a
  · rw [if_pos hc] at h1 h2
    refine Or.inl ⟨by omega, by omega, ?_, h5⟩
    rcases hc with hc | hc
    · exact Or.inl hc
    · right
      have : a % b = 0 := Int.emod_eq_zero_of_dvd hc
      omega
  · rw [if_neg hc] at h1 h2
    have ha : a < 0 := by
      rcases Int.lt_or_le a 0 with q | q
      · exact q
      · exact absurd (Or.inl q) hc
    refine Or.inr ⟨by omega, by omega, ha, h5, fun q => ?_⟩
    omega
theorem xor_sgnI {a b : Int} (ha : inI a) (hb : inI b) : 0 ≤ (Int32.ofInt a ^^^ Int32.ofInt b).toInt ↔ (0 ≤ a ↔ 0 ≤ b) := by
  have e : ∀ x : Int32, decide (x.toInt < 0) = x.toBitVec.msb := fun x => (BitVec.msb_eq_toInt (x := x.toBitVec)).symm
  have k := e (Int32.ofInt a ^^^ Int32.ofInt b)
  have ka := e (Int32.ofInt a)
  have kb := e (Int32.ofInt b)
  rw [oI ha] at ka
  rw [oI hb] at kb
  rw [Int32.toBitVec_xor, BitVec.msb_xor, ← ka, ← kb] at k
  by_cases h1 : a < 0 <;> by_cases h2 : b < 0 <;> simp [h1, h2] at k <;> omega
theorem xor_sgnJ {a b : Int} (ha : inJ a) (hb : inJ b) : 0 ≤ (Int64.ofInt a ^^^ Int64.ofInt b).toInt ↔ (0 ≤ a ↔ 0 ≤ b) := by
  have e : ∀ x : Int64, decide (x.toInt < 0) = x.toBitVec.msb := fun x => (BitVec.msb_eq_toInt (x := x.toBitVec)).symm
  have k := e (Int64.ofInt a ^^^ Int64.ofInt b)
  have ka := e (Int64.ofInt a)
  have kb := e (Int64.ofInt b)
  rw [oJ ha] at ka
  rw [oJ hb] at kb
  rw [Int64.toBitVec_xor, BitVec.msb_xor, ← ka, ← kb] at k
  by_cases h1 : a < 0 <;> by_cases h2 : b < 0 <;> simp [h1, h2] at k <;> omega
theorem dv_in {a b N : Int} (hb : 0 < b) (hN : 0 ≤ N) (h1 : -N ≤ a) (h2 : a ≤ N) : -N ≤ a / b ∧ a / b ≤ N := by
  constructor
  · exact (Int.le_ediv_iff_mul_le hb).mpr (by
      have : -N * b ≤ -N * 1 := Int.mul_le_mul_of_nonpos_left (by omega) (by omega)
      omega)
  · have h3 : a / b ≤ N / b := Int.ediv_le_ediv hb h2
    have h4 : N / b ≤ N := Int.ediv_le_self b hN
    omega
/-- sums -/
def sm (f : Int → Int) (a : Int) : Nat → Int
  | 0 => 0
  | n + 1 => sm f a n + f (a + n)
def S (f : Int → Int) (a b : Int) : Int := sm f a (b - a).toNat
theorem S_nil {f : Int → Int} {a b : Int} (h : b ≤ a) : S f a b = 0 := by
  unfold S
  rw [show (b - a).toNat = 0 by omega]
  rfl
theorem S_succ {f : Int → Int} {a b : Int} (h : a ≤ b) : S f a (b + 1) = S f a b + f b := by
  unfold S
  rw [show (b + 1 - a).toNat = (b - a).toNat + 1 by omega]
  show sm f a (b - a).toNat + f (a + ((b - a).toNat : Int)) = _
  rw [show a + ((b - a).toNat : Int) = b by omega]
theorem sm_congr {f g : Int → Int} {a : Int} : ∀ n : Nat, (∀ i, a ≤ i → i < a + n → f i = g i) → sm f a n = sm g a n
  | 0, _ => rfl
  | n + 1, h => by
    show sm f a n + f (a + n) = sm g a n + g (a + n)
    rw [sm_congr n (fun i h1 h2 => h i h1 (by omega)), h (a + n) (by omega) (by omega)]
theorem S_congr {f g : Int → Int} {a b : Int} (h : ∀ i, a ≤ i → i < b → f i = g i) : S f a b = S g a b := by
  by_cases hab : b ≤ a
  · rw [S_nil hab, S_nil hab]
  · exact sm_congr _ (fun i h1 h2 => h i h1 (by omega))
theorem sm_bound {f : Int → Int} {a lo hi : Int} : ∀ n : Nat, (∀ i, a ≤ i → i < a + n → lo ≤ f i ∧ f i ≤ hi) → lo * n ≤ sm f a n ∧ sm f a n ≤ hi * n
  | 0, _ => by simp [sm]
  | n + 1, h => by
    have h1 := sm_bound (f := f) (a := a) (lo := lo) (hi := hi) n (fun i h1 h2 => h i h1 (by omega))
    have h2 := h (a + n) (by omega) (by omega)
    show lo * ((n + 1 : Nat) : Int) ≤ sm f a n + f (a + n) ∧ sm f a n + f (a + n) ≤ hi * ((n + 1 : Nat) : Int)
    have e1 : lo * ((n + 1 : Nat) : Int) = lo * n + lo := by rw [Int.natCast_succ, Int.mul_add, Int.mul_one]
    have e2 : hi * ((n + 1 : Nat) : Int) = hi * n + hi := by rw [Int.natCast_succ, Int.mul_add, Int.mul_one]
    omega
theorem S_bound {f : Int → Int} {a b lo hi : Int} (hab : a ≤ b) (h : ∀ i, a ≤ i → i < b → lo ≤ f i ∧ f i ≤ hi) : lo * (b - a) ≤ S f a b ∧ S f a b ≤ hi * (b - a) := by
  have k := sm_bound (f := f) (a := a) (lo := lo) (hi := hi) (b - a).toNat (fun i h1 h2 => h i h1 (by omega))
  rw [show (((b - a).toNat : Nat) : Int) = b - a by omega] at k
  exact k
theorem S_app {f : Int → Int} {a b c : Int} (h1 : a ≤ b) (h2 : b ≤ c) : S f a c = S f a b + S f b c := by
  obtain ⟨n, rfl⟩ : ∃ n : Nat, c = b + n := ⟨(c - b).toNat, by omega⟩
  induction n with
  | zero => rw [show b + ((0 : Nat) : Int) = b by omega, S_nil (f := f) (Int.le_refl b)]; omega
  | succ n ih =>
    rw [show b + ((n + 1 : Nat) : Int) = b + n + 1 by omega, S_succ (by omega), S_succ (by omega), ih (by omega)]
    omega
theorem S_head {f : Int → Int} {a b : Int} (h : a < b) : S f a b = f a + S f (a + 1) b := by
  rw [S_app (b := a + 1) (by omega) (by omega), S_succ (Int.le_refl a), S_nil (Int.le_refl a)]
  omega
theorem S_le {f g : Int → Int} {a b : Int} (h : ∀ i, a ≤ i → i < b → f i ≤ g i) : S f a b ≤ S g a b := by
  by_cases hab : b ≤ a
  · rw [S_nil hab, S_nil hab]; exact Int.le_refl 0
  · obtain ⟨n, rfl⟩ : ∃ n : Nat, b = a + n := ⟨(b - a).toNat, by omega⟩
    clear hab
    induction n with
    | zero => rw [S_nil (by omega), S_nil (by omega)]; exact Int.le_refl 0
    | succ n ih =>
      rw [show a + ((n + 1 : Nat) : Int) = a + n + 1 by omega, S_succ (by omega), S_succ (by omega)]
      have := ih (fun i h1 h2 => h i h1 (by omega))
      have := h (a + n) (by omega) (by omega)
      omega
/-- counts -/
noncomputable def C (p : Int → Prop) (a b : Int) : Int := S (fun i => @ite Int (p i) (Classical.propDecidable _) 1 0) a b
theorem C_nil {p : Int → Prop} {a b : Int} (h : b ≤ a) : C p a b = 0 := S_nil h
theorem C_succ {p : Int → Prop} {a b : Int} (h : a ≤ b) (hp : p b) : C p a (b + 1) = C p a b + 1 := by
  unfold C
  rw [S_succ h]
  simp [hp]
theorem C_skip {p : Int → Prop} {a b : Int} (h : a ≤ b) (hp : ¬ p b) : C p a (b + 1) = C p a b := by
  unfold C
  rw [S_succ h]
  simp [hp]
theorem C_bound {p : Int → Prop} {a b : Int} (h : a ≤ b) : 0 ≤ C p a b ∧ C p a b ≤ b - a := by
  have k := S_bound (f := fun i => @ite Int (p i) (Classical.propDecidable _) 1 0) (lo := 0) (hi := 1) h (fun i _ _ => by
    by_cases hp : p i
    · simp [hp]
    · simp [hp])
  unfold C
  omega
theorem C_congr {p q : Int → Prop} {a b : Int} (h : ∀ i, a ≤ i → i < b → (p i ↔ q i)) : C p a b = C q a b := by
  unfold C
  apply S_congr
  intro i h1 h2
  by_cases hp : p i
  · simp [hp, (h i h1 h2).mp hp]
  · have hq : ¬ q i := fun z => hp ((h i h1 h2).mpr z)
    simp [hp, hq]
theorem C_le {p q : Int → Prop} {a b : Int} (h : ∀ i, a ≤ i → i < b → p i → q i) : C p a b ≤ C q a b := by
  unfold C
  apply S_le
  intro i h1 h2
  by_cases hp : p i
  · simp [hp, h i h1 h2 hp]
  · by_cases hq : q i
    · simp [hp, hq]
    · simp [hp, hq]
theorem C_app {p : Int → Prop} {a b c : Int} (h1 : a ≤ b) (h2 : b ≤ c) : C p a c = C p a b + C p b c := S_app h1 h2
theorem C_pos {p : Int → Prop} {a b : Int} {i : Int} (h1 : a ≤ i) (h2 : i < b) (hp : p i) : 1 ≤ C p a b := by
  rw [C_app (b := i) h1 (by omega), C_app (a := i) (b := i + 1) (by omega) (by omega), C_succ (Int.le_refl i) hp]
  have := (C_bound (p := p) h1).1
  have := (C_bound (p := p) (Int.le_refl i)).1
  have := (C_bound (p := p) (show i + 1 ≤ b by omega)).1
  omega
theorem C_zero {p : Int → Prop} {a b : Int} (h : ∀ i, a ≤ i → i < b → ¬ p i) : C p a b = 0 := by
  by_cases hab : b ≤ a
  · exact C_nil hab
  · have k := C_le (p := p) (q := fun _ => False) (a := a) (b := b) (fun i h1 h2 hp => h i h1 h2 hp)
    have k2 : C (fun _ => False) a b = S (fun _ => 0) a b := by unfold C; apply S_congr; intro i _ _; simp
    have k3 := S_bound (f := fun _ => 0) (lo := 0) (hi := 0) (show a ≤ b by omega) (fun i _ _ => by omega)
    have := (C_bound (p := p) (show a ≤ b by omega)).1
    omega
theorem C_all {p : Int → Prop} {a b : Int} (hab : a ≤ b) (h : ∀ i, a ≤ i → i < b → p i) : C p a b = b - a := by
  have k : C p a b = S (fun _ => 1) a b := by
    unfold C; apply S_congr; intro i h1 h2; simp [h i h1 h2]
  have k3 := S_bound (f := fun _ => 1) (lo := 1) (hi := 1) hab (fun i _ _ => by omega)
  omega

/-! bits: test, set, clear -/
theorem gb_one : ∀ i, i < 32 → bt 1 i = decide (i = 0) := by decide +kernel
theorem gb_and1 (y : Int32) : (y &&& 1) = 0 ↔ bt y 0 = false := by
  constructor
  · intro h
    have e : bt (y &&& 1) 0 = bt y 0 := by rw [b_and, gb_one 0 (by decide)]; simp
    rw [← e, h, b_0]
  · intro h
    apply b_ext
    intro i hi
    rw [b_and, b_0, gb_one i hi]
    by_cases hz : i = 0
    · subst hz; simp [h]
    · simp [hz]
theorem gb_tst (x : Int32) {s : Nat} (hs : s < 32) : (x >>> (nI s &&& 31)) &&& 1 = 0 ↔ bt x s = false := by
  rw [gb_and1, b_sshr s hs x (by decide : (0 : Nat) < 32), if_pos (by omega), Nat.add_zero]
theorem gb_val (x : Int32) {s : Nat} (hs : s < 32) : (x >>> (nI s &&& 31)) &&& 1 = if bt x s = true then 1 else 0 := by
  cases h : bt x s with
  | false => simpa using (gb_tst x hs).mpr h
  | true =>
    rw [if_pos rfl]
    apply b_ext
    intro i hi
    rw [b_and, gb_one i hi]
    by_cases hz : i = 0
    · subst hz
      rw [b_sshr s hs x (by decide : (0 : Nat) < 32), if_pos (by omega), Nat.add_zero, h]
      rfl
    · simp [hz]
theorem gb_sh {k i : Nat} (hk : k < 32) (hi : i < 32) : bt ((1 : Int32) <<< (nI k &&& 31)) i = decide (i = k) := by
  rw [b_shl k hk 1 hi, gb_one (i - k) (by omega)]
  by_cases h : k ≤ i
  · by_cases h2 : i = k
    · simp [h2]
    · have : ¬ i - k = 0 := by omega
      simp [h2, this]
  · have : ¬ i = k := by omega
    simp [h, this]
theorem gb_not (x : Int32) {i : Nat} (hi : i < 32) : bt (x ^^^ (-1)) i = !bt x i := by
  rw [b_xor, b_m1 i hi]
  cases bt x i <;> rfl
theorem gb_z {x : Int32} : x = 0 ↔ ∀ i, i < 32 → bt x i = false :=
  ⟨fun h i _ => by rw [h, b_0], fun h => b_ext fun i hi => by rw [h i hi, b_0]⟩
theorem gb_nz {x : Int32} : ¬ x = 0 ↔ ∃ i, i < 32 ∧ bt x i = true := by
  rw [gb_z]
  constructor
  · intro h
    apply Classical.byContradiction
    intro hn
    exact h fun i hi => ts_nt fun z => hn ⟨i, hi, z⟩
  · intro ⟨i, hi, h⟩ hn
    rw [hn i hi] at h
    exact absurd h (by decide)
theorem gb_sg {k : Nat} (hk : k < 32) (i : Nat) : bt ((1 : Int32) <<< (nI k &&& 31)) i = true ↔ i = k := by
  rcases Nat.lt_or_ge i 32 with h | h
  · rw [gb_sh hk h]; simp
  · rw [b_big h]
    exact ⟨fun z => absurd z (by decide), fun z => by omega⟩
theorem gb_add (x : Int32) {k : Nat} (hk : k < 32) (i : Nat) : bt (x ||| ((1 : Int32) <<< (nI k &&& 31))) i = true ↔ bt x i = true ∨ i = k := by
  rw [b_or, Bool.or_eq_true, gb_sg hk]
theorem gb_31 : ∀ i, i < 32 → bt 31 i = decide (i < 5) := by decide +kernel
theorem gb_224 : ∀ i, i < 32 → bt 224 i = decide (5 ≤ i ∧ i < 8) := by decide +kernel
theorem gb_or (x y : Int32) {i : Nat} : bt (x ||| y) i = true ↔ bt x i = true ∨ bt y i = true := by rw [b_or]; simp
theorem gb_and (x y : Int32) {i : Nat} : bt (x &&& y) i = true ↔ bt x i = true ∧ bt y i = true := by rw [b_and]; simp
theorem gb_new (x y : Int32) : ¬ (x &&& (y ^^^ (-1))) = 0 ↔ ∃ i, i < 32 ∧ bt x i = true ∧ bt y i = false := by
  rw [gb_nz]
  constructor
  · intro ⟨i, hi, h⟩
    rw [gb_and, gb_not y hi] at h
    exact ⟨i, hi, h.1, by simpa using h.2⟩
  · intro ⟨i, hi, h1, h2⟩
    exact ⟨i, hi, by rw [gb_and, gb_not y hi, h2]; exact ⟨h1, rfl⟩⟩
theorem gb_lt {x : Int32} {i : Nat} (h : bt x i = true) : i < 32 := by
  rcases Nat.lt_or_ge i 32 with z | z
  · exact z
  · rw [b_big z] at h; exact absurd h (by decide)
/-! values of small naturals in an Int32 array -/
def gb_n (a : Nat → Int32) (i : Nat) : Nat := (a i).toNatClampNeg
theorem gb_u (f : Nat → Int32) (k : Nat) (x : Int32) (j : Nat) : upd f k x j = if j = k then x else f j := rfl
theorem gb_us {f : Nat → Int32} {k : Nat} {x : Int32} {j : Nat} (h : j = k) : upd f k x j = x := if_pos h

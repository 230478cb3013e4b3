section
/-! pasted from kit/rows: PURE-ROWS, BITS (bt family); counts turned from examples/large-2 -/
theorem pk_us {f : Nat → Int32} {k : Nat} {x : Int32} : upd f k x k = x := if_pos rfl
theorem pk_un {f : Nat → Int32} {k j : Nat} {x : Int32} (h : j ≠ k) : upd f k x j = f j := if_neg h
theorem pk_sub {a b : Nat} (h : b ≤ a) : nI a - nI b = nI (a - b) := by
  obtain ⟨c, rfl⟩ : ∃ c, a = c + b := ⟨a - b, by omega⟩
  rw [← nI_add, Int32.add_sub_cancel, Nat.add_sub_cancel]
theorem pk_m1 (n : Nat) : nI (n + 1) + (-1) = nI n := by
  rw [← nI_1, Int32.add_assoc, show (1 : Int32) + (-1) = 0 from rfl, Int32.add_zero]
theorem pk_mul (a b : Nat) : nI a * nI b = nI (a * b) := (Int32.ofNat_mul a b).symm
theorem pk_div {a d : Nat} (ha : a < 2 ^ 31) (h0 : 0 < d) (hd : d < 2 ^ 31) : nI a / nI d = nI (a / d) := by
  apply Int32.toInt_inj.mp
  rw [lg_idiv_nonneg (by rw [nI_toInt ha]; omega) (by rw [nI_toInt hd]; omega), nI_toInt ha, nI_toInt hd, nI_toInt (Nat.lt_of_le_of_lt (Nat.div_le_self a d) ha)]
  first | rfl | exact (Int.natCast_ediv _ _).symm
theorem pk_rem {a d : Nat} (ha : a < 2 ^ 31) (h0 : 0 < d) (hd : d < 2 ^ 31) : nI a - nI a / nI d * nI d = nI (a % d) := by
  rw [pk_div ha h0 hd, pk_mul, pk_sub (Nat.div_mul_le_self a d)]
  exact congrArg nI (by have := Nat.div_add_mod' a d; omega)
theorem pk_sub_toInt {a b : Nat} (ha : a < 2 ^ 30) (hb : b < 2 ^ 30) : (nI a - nI b).toInt = (a : Int) - b := by
  rw [Int32.toInt_sub, nI_toInt (by omega), nI_toInt (by omega)]
  exact Int.bmod_eq_of_le (by omega) (by omega)
theorem pk_sneg {a b : Nat} (hb : b < 2 ^ 30) (h : a < b) : nI a - nI b < 0 := by
  rw [Int32.lt_iff_toInt_lt, pk_sub_toInt (by omega) hb, show (0 : Int32).toInt = 0 from by decide]
  omega
theorem pk_ix (x : Int32) {n : Nat} (hn : n < 2 ^ 31) : x < 0 ∨ nI n ≤ x ∨ ∃ j : Nat, j < n ∧ x = nI j := by
  by_cases h : x < 0
  · exact Or.inl h
  · obtain ⟨j, hj, rfl⟩ := nI_of h
    by_cases h2 : j < n
    · exact Or.inr (Or.inr ⟨j, h2, rfl⟩)
    · exact Or.inr (Or.inl (nI_le (by omega) hj))
theorem pk_le {x y : Int32} {A B : Prop} (a b : Nat) (f : a ≤ b → A) (g : b < a → B) (hx : x = nI a := by rfl) (hy : y = nI b := by rfl) (ha : a < 2 ^ 31 := by omega) (hb : b < 2 ^ 31 := by omega) : (x ≤ y → A) ∧ (¬ x ≤ y → B) := by
  subst hx hy
  rw [nI_leI ha hb]
  exact ⟨f, fun z => g (by omega)⟩
theorem pk_lt {x y : Int32} {A B : Prop} (a b : Nat) (f : a < b → A) (g : b ≤ a → B) (hx : x = nI a := by rfl) (hy : y = nI b := by rfl) (ha : a < 2 ^ 31 := by omega) (hb : b < 2 ^ 31 := by omega) : (x < y → A) ∧ (¬ x < y → B) := by
  subst hx hy
  rw [nI_ltI ha hb]
  exact ⟨f, fun z => g (by omega)⟩
theorem pk_eq {x y : Int32} {A B : Prop} (a b : Nat) (f : a = b → A) (g : a ≠ b → B) (hx : x = nI a := by rfl) (hy : y = nI b := by rfl) (ha : a < 2 ^ 31 := by omega) (hb : b < 2 ^ 31 := by omega) : (x = y → A) ∧ (¬ x = y → B) := by
  subst hx hy
  rw [nI_eq ha hb]
  exact ⟨f, g⟩
theorem pk_in {x : Int32} (n N : Nat) (h : n < N) (hx : x = nI n := by rfl) (hN : N < 2 ^ 31 := by omega) : vp_in x N := by
  subst hx
  exact vp_in_nI h hN
theorem pk_cl {x : Int32} (n : Nat) (hx : x = nI n := by rfl) (h : n < 2 ^ 31 := by omega) : x.toNatClampNeg = n := by
  subst hx
  exact nI_clamp h
theorem pk_tn {n : Nat} (h : n < 2 ^ 32) : (nI n).toBitVec.toNat = n := Nat.mod_eq_of_lt h
theorem pk_and (x : Int32) {m : Int32} (k : Nat) (hm : m.toBitVec.toNat = 2 ^ k - 1) : x &&& m = nI (x.toBitVec.toNat % 2 ^ k) := by
  apply Int32.toBitVec_inj.mp
  apply BitVec.eq_of_toNat_eq
  rw [Int32.toBitVec_and, BitVec.toNat_and, hm, Nat.and_two_pow_sub_one_eq_mod]
  show _ = (BitVec.ofNat 32 _).toNat
  rw [BitVec.toNat_ofNat]
  exact (Nat.mod_eq_of_lt (Nat.lt_of_le_of_lt (Nat.mod_le _ _) x.toBitVec.isLt)).symm
theorem pk_andN {n : Nat} (h : n < 2 ^ 32) {m : Int32} (k : Nat) (hm : m.toBitVec.toNat = 2 ^ k - 1) : nI n &&& m = nI (n % 2 ^ k) := by
  rw [pk_and _ k hm, pk_tn h]
theorem pk_andE (x : Int32) {m : Int32} (k : Nat) (hm : m.toBitVec.toNat = 2 ^ k - 1) : ∃ j : Nat, j < 2 ^ k ∧ x &&& m = nI j := ⟨_, Nat.mod_lt _ (Nat.two_pow_pos k), pk_and x k hm⟩
theorem pk_andIn (x : Int32) {m : Int32} (k : Nat) (hm : m.toBitVec.toNat = 2 ^ k - 1) (hk : k ≤ 30) : vp_in (x &&& m) (2 ^ k) := by
  obtain ⟨j, hj, e⟩ := pk_andE x k hm
  rw [e]
  exact vp_in_nI hj (Nat.lt_of_le_of_lt (Nat.pow_le_pow_right (by decide) hk) (by decide))
theorem pk_shl (a s : Int32) (k : Nat) (hs : (s.toBitVec.smod 32).toNat = k) : (a <<< s).toBitVec.toNat = a.toBitVec.toNat * 2 ^ k % 2 ^ 32 := by
  show (a.toBitVec <<< (s.toBitVec.smod 32).toNat).toNat = _
  rw [hs, BitVec.toNat_shiftLeft, Nat.shiftLeft_eq]
theorem pk_shlN {n : Nat} (s : Int32) (k : Nat) (hs : (s.toBitVec.smod 32).toNat = k) (h : n * 2 ^ k < 2 ^ 32) : nI n <<< s = nI (n * 2 ^ k) := by
  apply Int32.toBitVec_inj.mp
  apply BitVec.eq_of_toNat_eq
  have hn : n < 2 ^ 32 := Nat.lt_of_le_of_lt (Nat.le_mul_of_pos_right n (Nat.two_pow_pos k)) h
  rw [pk_shl _ _ k hs, pk_tn hn, pk_tn h, Nat.mod_eq_of_lt h]
theorem pk_shr (a s : Int32) (k : Nat) (hs : (s.toBitVec.smod 32).toNat = k) : (a >>> s).toInt = a.toInt >>> k := by
  show (a.toBitVec.sshiftRight (s.toBitVec.smod 32).toNat).toInt = _
  rw [hs, BitVec.toInt_sshiftRight]
  rfl
theorem pk_shrN {n : Nat} (h : n < 2 ^ 31) (s : Int32) (k : Nat) (hs : (s.toBitVec.smod 32).toNat = k) : nI n >>> s = nI (n / 2 ^ k) := by
  apply Int32.toInt_inj.mp
  have h2 : n / 2 ^ k ≤ n := Nat.div_le_self _ _
  rw [pk_shr _ _ k hs, nI_toInt h, nI_toInt (by omega), Int.shiftRight_eq_div_pow]
  rfl
theorem pk_loop {σ : Type} (W : Nat → Nat → σ → Prop) (I : Nat → σ → Prop) (e i0 : Nat) (s : σ) (hi : i0 ≤ e) (h0 : I i0 s) (hx : ∀ n s, I e s → W (n + 1) e s)
    (hs : ∀ n i s, i < e → I i s → (∀ s', I (i + 1) s' → W n (i + 1) s') → W (n + 1) i s) : ∃ n, W n i0 s :=
  ⟨e + 1, loop_i W I e hx hs (e + 1) i0 s hi (by omega) h0⟩
theorem pk_least (P : Nat → Prop) (h : ∃ k, P k) : ∃ k, P k ∧ ∀ j, j < k → ¬ P j := by
  obtain ⟨k, hk⟩ := h
  induction k using Nat.strongRecOn with
  | ind k ih =>
    by_cases e : ∃ j, j < k ∧ P j
    · obtain ⟨j, hj, pj⟩ := e
      exact ih j hj pj
    · exact ⟨k, hk, fun j hj pj => e ⟨j, hj, pj⟩⟩
def bt (x : Int32) (i : Nat) : Bool := x.toBitVec.getLsbD i
theorem b_ext {x y : Int32} (h : ∀ i, i < 32 → bt x i = bt y i) : x = y := Int32.toBitVec_inj.mp (BitVec.eq_of_getLsbD_eq (fun i hi => h i hi))
theorem b_or (x y : Int32) (i : Nat) : bt (x ||| y) i = (bt x i || bt y i) := by unfold bt; rw [Int32.toBitVec_or, BitVec.getLsbD_or]
theorem b_and (x y : Int32) (i : Nat) : bt (x &&& y) i = (bt x i && bt y i) := by unfold bt; rw [Int32.toBitVec_and, BitVec.getLsbD_and]
theorem b_xor (x y : Int32) (i : Nat) : bt (x ^^^ y) i = (bt x i ^^ bt y i) := by unfold bt; rw [Int32.toBitVec_xor, BitVec.getLsbD_xor]
theorem b_big {x : Int32} {i : Nat} (h : 32 ≤ i) : bt x i = false := BitVec.getLsbD_of_ge _ _ h
theorem b_m1 : ∀ i, i < 32 → bt (-1) i = true := by decide +kernel
theorem b_0 (i : Nat) : bt 0 i = false := BitVec.getLsbD_zero
theorem s_l : ∀ n, n < 32 → ((nI n &&& 31).toBitVec.smod 32).toNat = n := by decide +kernel
theorem b_shl (n : Nat) (hn : n < 32) (x : Int32) {i : Nat} (hi : i < 32) : bt (x <<< (nI n &&& 31)) i = (decide (n ≤ i) && bt x (i - n)) := by
  unfold bt
  rw [Int32.toBitVec_shiftLeft]
  show (x.toBitVec <<< ((nI n &&& 31).toBitVec.smod 32).toNat).getLsbD i = _
  rw [s_l n hn, BitVec.getLsbD_shiftLeft]
  rcases Nat.lt_or_ge i n with h | h
  · simp [h, Nat.not_le.mpr h]
  · simp [hi, h, Nat.not_lt.mpr h]
theorem b_sshr (n : Nat) (hn : n < 32) (x : Int32) {i : Nat} (hi : i < 32) : bt (x >>> (nI n &&& 31)) i = if n + i < 32 then bt x (n + i) else bt x 31 := by
  unfold bt
  rw [Int32.toBitVec_shiftRight]
  show (x.toBitVec.sshiftRight ((nI n &&& 31).toBitVec.smod 32).toNat).getLsbD i = _
  rw [s_l n hn, BitVec.getLsbD_sshiftRight, BitVec.msb_eq_getLsbD_last]
  simp [hi]
theorem ts_nf {x : Bool} (h : ¬ x = false) : x = true := by cases x <;> first | rfl | exact absurd rfl h
theorem ts_nt {x : Bool} (h : ¬ x = true) : x = false := by cases x <;> first | rfl | exact absurd rfl h
noncomputable def gc_b (P : Prop) : Nat := @ite Nat P (Classical.propDecidable P) 1 0
theorem gc_b_t {P : Prop} (h : P) : gc_b P = 1 := by unfold gc_b; rw [if_pos h]
theorem gc_b_f {P : Prop} (h : ¬ P) : gc_b P = 0 := by unfold gc_b; rw [if_neg h]
theorem gc_b_le (P : Prop) : gc_b P ≤ 1 := by
  rcases Classical.em P with h | h
  · rw [gc_b_t h]; omega
  · rw [gc_b_f h]; omega
theorem gc_b_mono {P Q : Prop} (h : P → Q) : gc_b P ≤ gc_b Q := by
  rcases Classical.em P with hp | hp
  · rw [gc_b_t hp, gc_b_t (h hp)]; omega
  · rw [gc_b_f hp]; omega
noncomputable def gc_n (P : Nat → Prop) : Nat → Nat
  | 0 => 0
  | k + 1 => gc_n P k + gc_b (P k)
theorem gc_nmono {P Q : Nat → Prop} : ∀ {N : Nat}, (∀ k, k < N → P k → Q k) → gc_n P N ≤ gc_n Q N
  | 0, _ => Nat.le_refl _
  | N + 1, h => by
    have a := gc_nmono (P := P) (Q := Q) (N := N) (fun k hk => h k (by omega))
    have b := gc_b_mono (h N (by omega))
    simp only [gc_n]; omega
theorem gc_nlt {P Q : Nat → Prop} {a : Nat} (hp : ¬ P a) (hq : Q a) : ∀ {N : Nat}, (∀ k, k < N → P k → Q k) → a < N → gc_n P N < gc_n Q N
  | 0, _, h => by omega
  | N + 1, h, ha => by
    simp only [gc_n]
    rcases Nat.lt_or_ge a N with z | z
    · have x := gc_nlt hp hq (N := N) (fun k hk => h k (by omega)) z
      have b := gc_b_mono (h N (by omega))
      omega
    · have e : a = N := by omega
      subst e
      have x := gc_nmono (P := P) (Q := Q) (N := a) (fun k hk => h k (by omega))
      rw [gc_b_t hq, gc_b_f hp]; omega
theorem gc_nle (P : Nat → Prop) : ∀ N, gc_n P N ≤ N
  | 0 => Nat.le_refl _
  | N + 1 => by have := gc_nle P N; have := gc_b_le (P N); simp only [gc_n]; omega
theorem gc_neq {P Q : Nat → Prop} {N : Nat} (h : ∀ k, k < N → (P k ↔ Q k)) : gc_n P N = gc_n Q N :=
  Nat.le_antisymm (gc_nmono fun k hk => (h k hk).mp) (gc_nmono fun k hk => (h k hk).mpr)
theorem gc_nadd {P : Nat → Prop} {a : Nat} (hp : ¬ P a) : ∀ {N : Nat}, a < N → gc_n (fun k => P k ∨ k = a) N = gc_n P N + 1
  | 0, h => by omega
  | N + 1, h => by
    simp only [gc_n]
    rcases Nat.lt_or_ge a N with z | z
    · rw [gc_nadd hp z]
      have : gc_b (P N ∨ N = a) = gc_b (P N) := Nat.le_antisymm (gc_b_mono fun q => q.elim id (fun e => by omega)) (gc_b_mono Or.inl)
      omega
    · have e : a = N := by omega
      subst e
      rw [gc_neq (P := fun k => P k ∨ k = a) (Q := P) (fun k hk => ⟨fun q => q.elim id (fun e => by omega), Or.inl⟩), gc_b_t (Or.inr rfl), gc_b_f hp]
end
section
/-! bits: test, set, clear -/
theorem gb_one : ∀ i, i < 32 → bt 1 i = decide (i = 0) := by decide +kernel
theorem gb_and1 (y : Int32) : (y &&& 1) = 0 ↔ bt y 0 = false := by
  constructor
  · intro h
    have e : bt (y &&& 1) 0 = bt y 0 := by rw [b_and, gb_one 0 (by decide)]; simp
    rw [← e, h, b_0]
  · intro h
    apply b_ext
    intro i hi
    rw [b_and, b_0, gb_one i hi]
    by_cases hz : i = 0
    · subst hz; simp [h]
    · simp [hz]
theorem gb_tst (x : Int32) {s : Nat} (hs : s < 32) : (x >>> (nI s &&& 31)) &&& 1 = 0 ↔ bt x s = false := by
  rw [gb_and1, b_sshr s hs x (by decide : (0 : Nat) < 32), if_pos (by omega), Nat.add_zero]
theorem gb_val (x : Int32) {s : Nat} (hs : s < 32) : (x >>> (nI s &&& 31)) &&& 1 = if bt x s = true then 1 else 0 := by
  cases h : bt x s with
  | false => simpa using (gb_tst x hs).mpr h
  | true =>
    rw [if_pos rfl]
    apply b_ext
    intro i hi
    rw [b_and, gb_one i hi]
    by_cases hz : i = 0
    · subst hz
      rw [b_sshr s hs x (by decide : (0 : Nat) < 32), if_pos (by omega), Nat.add_zero, h]
      rfl
    · simp [hz]
theorem gb_sh {k i : Nat} (hk : k < 32) (hi : i < 32) : bt ((1 : Int32) <<< (nI k &&& 31)) i = decide (i = k) := by
  rw [b_shl k hk 1 hi, gb_one (i - k) (by omega)]
  by_cases h : k ≤ i
  · by_cases h2 : i = k
    · simp [h2]
    · have : ¬ i - k = 0 := by omega
      simp [h2, this]
  · have : ¬ i = k := by omega
    simp [h, this]
theorem gb_not (x : Int32) {i : Nat} (hi : i < 32) : bt (x ^^^ (-1)) i = !bt x i := by
  rw [b_xor, b_m1 i hi]
  cases bt x i <;> rfl
theorem gb_z {x : Int32} : x = 0 ↔ ∀ i, i < 32 → bt x i = false :=
  ⟨fun h i _ => by rw [h, b_0], fun h => b_ext fun i hi => by rw [h i hi, b_0]⟩
theorem gb_nz {x : Int32} : ¬ x = 0 ↔ ∃ i, i < 32 ∧ bt x i = true := by
  rw [gb_z]
  constructor
  · intro h
    apply Classical.byContradiction
    intro hn
    exact h fun i hi => ts_nt fun z => hn ⟨i, hi, z⟩
  · intro ⟨i, hi, h⟩ hn
    rw [hn i hi] at h
    exact absurd h (by decide)
theorem gb_sg {k : Nat} (hk : k < 32) (i : Nat) : bt ((1 : Int32) <<< (nI k &&& 31)) i = true ↔ i = k := by
  rcases Nat.lt_or_ge i 32 with h | h
  · rw [gb_sh hk h]; simp
  · rw [b_big h]
    exact ⟨fun z => absurd z (by decide), fun z => by omega⟩
theorem gb_add (x : Int32) {k : Nat} (hk : k < 32) (i : Nat) : bt (x ||| ((1 : Int32) <<< (nI k &&& 31))) i = true ↔ bt x i = true ∨ i = k := by
  rw [b_or, Bool.or_eq_true, gb_sg hk]
theorem gb_31 : ∀ i, i < 32 → bt 31 i = decide (i < 5) := by decide +kernel
theorem gb_224 : ∀ i, i < 32 → bt 224 i = decide (5 ≤ i ∧ i < 8) := by decide +kernel
theorem gb_or (x y : Int32) {i : Nat} : bt (x ||| y) i = true ↔ bt x i = true ∨ bt y i = true := by rw [b_or]; simp
theorem gb_and (x y : Int32) {i : Nat} : bt (x &&& y) i = true ↔ bt x i = true ∧ bt y i = true := by rw [b_and]; simp
theorem gb_new (x y : Int32) : ¬ (x &&& (y ^^^ (-1))) = 0 ↔ ∃ i, i < 32 ∧ bt x i = true ∧ bt y i = false := by
  rw [gb_nz]
  constructor
  · intro ⟨i, hi, h⟩
    rw [gb_and, gb_not y hi] at h
    exact ⟨i, hi, h.1, by simpa using h.2⟩
  · intro ⟨i, hi, h1, h2⟩
    exact ⟨i, hi, by rw [gb_and, gb_not y hi, h2]; exact ⟨h1, rfl⟩⟩
theorem gb_lt {x : Int32} {i : Nat} (h : bt x i = true) : i < 32 := by
  rcases Nat.lt_or_ge i 32 with z | z
  · exact z
  · rw [b_big z] at h; exact absurd h (by decide)
/-! values of small naturals in an Int32 array -/
def gb_n (a : Nat → Int32) (i : Nat) : Nat := (a i).toNatClampNeg
theorem gb_u (f : Nat → Int32) (k : Nat) (x : Int32) (j : Nat) : upd f k x j = if j = k then x else f j := rfl
theorem gb_us {f : Nat → Int32} {k : Nat} {x : Int32} {j : Nat} (h : j = k) : upd f k x j = x := if_pos h
end
section
/-! a round-robin of lowering steps on five values: after five rounds nothing falls any more -/
def ga_s (f : Nat → (Nat → Nat) → Nat) (q : Nat → Nat) (p : Nat) (l : Nat → Nat) : Nat → Nat := fun k => if k = q p then min (l k) (f p l) else l k
def ga_i (M : Nat) (f : Nat → (Nat → Nat) → Nat) (q : Nat → Nat) : Nat → Nat → Nat
  | 0 => fun _ => 100000
  | c + 1 => ga_s f q (c % M) (ga_i M f q c)
def ga_m (f : Nat → (Nat → Nat) → Nat) (q : Nat → Nat) (l : Nat → Nat) (k : Nat) : Nat → Nat
  | 0 => l k
  | p + 1 => if q p = k then min (ga_m f q l k p) (f p l) else ga_m f q l k p
def ga_d (M : Nat) (f : Nat → (Nat → Nat) → Nat) (q : Nat → Nat) : Nat → Nat → Nat
  | 0 => fun _ => 100000
  | t + 1 => fun k => ga_m f q (ga_d M f q t) k M
def ga_key (f : Nat → (Nat → Nat) → Nat) : Prop := ∀ p l l', f p l < f p l' → ∃ s, s < 5 ∧ l s < l' s ∧ l s ≤ f p l
theorem ga_mle (f : Nat → (Nat → Nat) → Nat) (q : Nat → Nat) (l : Nat → Nat) (k : Nat) : ∀ N, ga_m f q l k N ≤ l k
  | 0 => Nat.le_refl _
  | N + 1 => by
    have h := ga_mle f q l k N
    simp only [ga_m]
    split <;> omega
theorem ga_mlf (f : Nat → (Nat → Nat) → Nat) (q : Nat → Nat) (l : Nat → Nat) (p : Nat) : ∀ N, p < N → ga_m f q l (q p) N ≤ f p l
  | 0, h => absurd h (by omega)
  | N + 1, h => by
    simp only [ga_m]
    rcases Nat.lt_or_ge p N with z | z
    · have h := ga_mlf f q l p N z
      split <;> omega
    · have e : p = N := by omega
      subst e
      rw [if_pos rfl]
      exact Nat.min_le_right _ _
theorem ga_mex (f : Nat → (Nat → Nat) → Nat) (q : Nat → Nat) (l : Nat → Nat) (k : Nat) : ∀ N, ga_m f q l k N = l k ∨ ∃ p, p < N ∧ q p = k ∧ ga_m f q l k N = f p l
  | 0 => Or.inl rfl
  | N + 1 => by
    have h := ga_mex f q l k N
    simp only [ga_m]
    by_cases hq : q N = k
    · rw [if_pos hq]
      rcases Nat.le_total (ga_m f q l k N) (f N l) with z | z
      · rw [Nat.min_eq_left z]
        rcases h with h | ⟨p, h1, h2, h3⟩
        · exact Or.inl h
        · exact Or.inr ⟨p, by omega, h2, h3⟩
      · rw [Nat.min_eq_right z]
        exact Or.inr ⟨N, by omega, hq, rfl⟩
    · rw [if_neg hq]
      rcases h with h | ⟨p, h1, h2, h3⟩
      · exact Or.inl h
      · exact Or.inr ⟨p, by omega, h2, h3⟩
theorem ga_mono {f : Nat → (Nat → Nat) → Nat} (K : ga_key f) {p : Nat} {l l' : Nat → Nat} (h : ∀ s, s < 5 → l s ≤ l' s) : f p l ≤ f p l' := by
  rcases Nat.lt_or_ge (f p l') (f p l) with z | z
  · obtain ⟨s, h1, h2, _⟩ := K p l' l z
    have := h s h1
    omega
  · exact z
theorem ga_dle (M : Nat) (f : Nat → (Nat → Nat) → Nat) (q : Nat → Nat) (t k : Nat) : ga_d M f q (t + 1) k ≤ ga_d M f q t k := ga_mle f q _ k M
theorem ga_cnt {M : Nat} {f : Nat → (Nat → Nat) → Nat} {q : Nat → Nat} (K : ga_key f) : ∀ t k, k < 5 → ga_d M f q (t + 1) k < ga_d M f q t k → t + 1 ≤ gc_n (fun x => ga_d M f q (t + 1) x ≤ ga_d M f q (t + 1) k) 5
  | 0, k, hk, _ => by
    have h := gc_nlt (P := fun _ => False) (Q := fun x => ga_d M f q (0 + 1) x ≤ ga_d M f q (0 + 1) k) (a := k) (fun z => z) (Nat.le_refl _) (N := 5) (fun _ _ z => z.elim) hk
    omega
  | t + 1, k, hk, h => by
    rcases ga_mex f q (ga_d M f q (t + 1)) k M with z | ⟨p, h1, h2, h3⟩
    · exact absurd (show ga_d M f q (t + 1 + 1) k = _ from z) (by omega)
    · have e : ga_d M f q (t + 1 + 1) k = f p (ga_d M f q (t + 1)) := h3
      have h4 : ga_d M f q (t + 1) k ≤ f p (ga_d M f q t) := by
        rw [← h2]
        exact ga_mlf f q _ p M h1
      obtain ⟨s, hs, h5, h6⟩ := K p (ga_d M f q (t + 1)) (ga_d M f q t) (by omega)
      have ih := ga_cnt K t s hs h5
      have h7 := gc_nlt (P := fun x => ga_d M f q (t + 1) x ≤ ga_d M f q (t + 1) s) (Q := fun x => ga_d M f q (t + 1 + 1) x ≤ ga_d M f q (t + 1 + 1) k) (a := k) (by omega) (Nat.le_refl _) (N := 5)
        (fun x _ hx => by
          have := ga_dle M f q (t + 1) x
          try dsimp only at hx ⊢
          omega) hk
      omega
theorem ga_5 {M : Nat} {f : Nat → (Nat → Nat) → Nat} {q : Nat → Nat} (K : ga_key f) {k : Nat} (hk : k < 5) : ga_d M f q 6 k = ga_d M f q 5 k := by
  have h := ga_dle M f q 5 k
  rcases Nat.lt_or_ge (ga_d M f q 6 k) (ga_d M f q 5 k) with z | z
  · have h1 := ga_cnt (M := M) (q := q) K 5 k hk z
    have h2 := gc_nle (fun x => ga_d M f q (5 + 1) x ≤ ga_d M f q (5 + 1) k) 5
    omega
  · exact Nat.le_antisymm h z
theorem ga_fix {M : Nat} {f : Nat → (Nat → Nat) → Nat} {q : Nat → Nat} (K : ga_key f) {p : Nat} (hp : p < M) (hq : q p < 5) : ga_d M f q 5 (q p) ≤ f p (ga_d M f q 5) := by
  rw [← ga_5 K hq]
  exact ga_mlf f q _ p M hp
theorem ga_ile (M : Nat) (f : Nat → (Nat → Nat) → Nat) (q : Nat → Nat) (c k : Nat) : ga_i M f q (c + 1) k ≤ ga_i M f q c k := by
  simp only [ga_i, ga_s]
  split <;> omega
theorem ga_iant (M : Nat) (f : Nat → (Nat → Nat) → Nat) (q : Nat → Nat) (k c : Nat) : ∀ d, ga_i M f q (c + d) k ≤ ga_i M f q c k
  | 0 => Nat.le_refl _
  | d + 1 => Nat.le_trans (ga_ile M f q (c + d) k) (ga_iant M f q k c d)
theorem ga_lo {M : Nat} {f : Nat → (Nat → Nat) → Nat} {q : Nat → Nat} (K : ga_key f) (hM : 0 < M) (hq : ∀ p, q p < 5) : ∀ c k, k < 5 → ga_d M f q 5 k ≤ ga_i M f q c k
  | 0, k, _ => by
    have h : ∀ t, ga_d M f q t k ≤ 100000 := by
      intro t
      induction t with
      | zero => exact Nat.le_refl _
      | succ t ih => exact Nat.le_trans (ga_dle M f q t k) ih
    exact h 5
  | c + 1, k, hk => by
    have ih := ga_lo K hM hq c
    simp only [ga_i, ga_s]
    split
    · rename_i e
      have h1 := ga_fix (M := M) (q := q) K (Nat.mod_lt c hM) (hq (c % M))
      have h2 := ga_mono K (p := c % M) ih
      have h3 := ih k hk
      rw [← e] at h1
      omega
    · exact ih k hk
theorem ga_hi {M : Nat} {f : Nat → (Nat → Nat) → Nat} {q : Nat → Nat} (K : ga_key f) (hM : 0 < M) : ∀ t k, k < 5 → ga_i M f q (M * t) k ≤ ga_d M f q t k
  | 0, k, _ => Nat.le_refl _
  | t + 1, k, hk => by
    have ih := ga_hi (q := q) K hM t
    rcases ga_mex f q (ga_d M f q t) k M with z | ⟨p, h1, h2, h3⟩
    · have e : ga_d M f q (t + 1) k = ga_d M f q t k := z
      rw [e]
      exact Nat.le_trans (by rw [Nat.mul_succ]; exact ga_iant M f q k (M * t) M) (ih k hk)
    · have e : ga_d M f q (t + 1) k = f p (ga_d M f q t) := h3
      rw [e]
      have a1 : ga_i M f q (M * (t + 1)) k ≤ ga_i M f q (M * t + p + 1) k := by
        have e2 : M * (t + 1) = M * t + p + 1 + (M - p - 1) := by rw [Nat.mul_succ]; omega
        rw [e2]
        exact ga_iant M f q k _ _
      have a2 : ga_i M f q (M * t + p + 1) k ≤ f p (ga_i M f q (M * t + p)) := by
        have e3 : (M * t + p) % M = p := by rw [Nat.mul_add_mod]; exact Nat.mod_eq_of_lt h1
        simp only [ga_i, ga_s]
        rw [e3, if_pos h2.symm]
        exact Nat.min_le_right _ _
      have a3 : f p (ga_i M f q (M * t + p)) ≤ f p (ga_d M f q t) := ga_mono K fun s hs => Nat.le_trans (ga_iant M f q s (M * t) p) (ih s hs)
      omega
theorem ga_end {M : Nat} {f : Nat → (Nat → Nat) → Nat} {q : Nat → Nat} (K : ga_key f) (hM : 0 < M) (hq : ∀ p, q p < 5) (d : Nat) {k : Nat} (hk : k < 5) : ga_i M f q (M * 5 + d) k = ga_d M f q 5 k :=
  Nat.le_antisymm (Nat.le_trans (ga_iant M f q k (M * 5) d) (ga_hi K hM 5 k hk)) (ga_lo K hM hq _ k hk)
theorem ga_stay {M : Nat} {f : Nat → (Nat → Nat) → Nat} {q : Nat → Nat} (K : ga_key f) (hM : 0 < M) (hq : ∀ p, q p < 5) (d : Nat) {k : Nat} (hk : k < 5) : ga_i M f q (M * 5 + d) k = ga_i M f q (M * 5) k :=
  (ga_end K hM hq d hk).trans (ga_end K hM hq 0 hk).symm
theorem ga_closed {M : Nat} {f : Nat → (Nat → Nat) → Nat} {q : Nat → Nat} (K : ga_key f) (hM : 0 < M) (hq : ∀ p, q p < 5) {p : Nat} (hp : p < M) : ga_i M f q (M * 5) (q p) ≤ f p (ga_i M f q (M * 5)) := by
  rw [show ga_i M f q (M * 5) (q p) = ga_d M f q 5 (q p) from ga_end K hM hq 0 (hq p)]
  exact Nat.le_trans (ga_fix K hp (hq p)) (ga_mono K fun s hs => ga_lo K hM hq _ s hs)
theorem ga_top (M : Nat) (f : Nat → (Nat → Nat) → Nat) (q : Nat → Nat) : ∀ c k, ga_i M f q c k ≤ 100000 := by
  intro c k
  have h := ga_iant M f q k 0 c
  rw [Nat.zero_add] at h
  exact h
end
section
/-! a grammar (which rules are there, their kinds, lengths, symbols), and what its symbols make of a word: the least closed set -/
abbrev gm_G : Type := (Nat → Bool) × (Nat → Nat) × (Nat → Nat) × (Nat → Nat → Nat)
def gm_p (g : gm_G) (r : Nat) : Bool := g.1 r
def gm_k (g : gm_G) (r : Nat) : Nat := g.2.1 r
def gm_l (g : gm_G) (r : Nat) : Nat := g.2.2.1 r
def gm_y (g : gm_G) (r d : Nat) : Nat := g.2.2.2 r d
def gm_ok (g : gm_G) : Prop := (∀ r, gm_k g r < 5) ∧ (∀ r, gm_l g r ≤ 3) ∧ ∀ r d, gm_y g r d < 8
def gm_q (g : gm_G) (P : Nat → Nat → Nat → Prop) (r : Nat) : Nat → Nat → Nat → Prop
  | 0 => fun i j => i = j
  | d + 1 => fun i j => ∃ m, gm_q g P r d i m ∧ P (gm_y g r d) m j
def gm_c (g : gm_G) (w : Nat → Nat) (n : Nat) (P : Nat → Nat → Nat → Prop) : Prop :=
  (∀ i, i < n → P (5 + w i) i (i + 1)) ∧ ∀ r i j, r < 16 → gm_p g r = true → i ≤ j → j ≤ n → gm_q g P r (gm_l g r) i j → P (gm_k g r) i j
def gm_mk (g : gm_G) (w : Nat → Nat) (n : Nat) (s i j : Nat) : Prop := ∀ P, gm_c g w n P → P s i j
theorem gm_qm {g : gm_G} {P Q : Nat → Nat → Nat → Prop} {r : Nat} (h : ∀ s i j, P s i j → Q s i j) : ∀ d i j, gm_q g P r d i j → gm_q g Q r d i j
  | 0, _, _, e => e
  | d + 1, _, _, ⟨m, a, b⟩ => ⟨m, gm_qm h d _ _ a, h _ _ _ b⟩
theorem gm_qle {g : gm_G} {P : Nat → Nat → Nat → Prop} {r : Nat} (h : ∀ s i j, P s i j → i ≤ j) : ∀ d i j, gm_q g P r d i j → i ≤ j
  | 0, _, _, e => Nat.le_of_eq e
  | d + 1, _, _, ⟨_, a, b⟩ => Nat.le_trans (gm_qle h d _ _ a) (h _ _ _ b)
theorem gm_q1 {g : gm_G} {P : Nat → Nat → Nat → Prop} {r i j : Nat} : gm_q g P r 1 i j ↔ P (gm_y g r 0) i j :=
  ⟨fun ⟨_, e, b⟩ => by cases e; exact b, fun h => ⟨i, rfl, h⟩⟩
theorem gm_q2 {g : gm_G} {P : Nat → Nat → Nat → Prop} {r i j : Nat} : gm_q g P r 2 i j ↔ ∃ m, P (gm_y g r 0) i m ∧ P (gm_y g r 1) m j :=
  ⟨fun ⟨m, a, b⟩ => ⟨m, gm_q1.mp a, b⟩, fun ⟨m, a, b⟩ => ⟨m, gm_q1.mpr a, b⟩⟩
theorem gm_q3 {g : gm_G} {P : Nat → Nat → Nat → Prop} {r i j : Nat} : gm_q g P r 3 i j ↔ ∃ m m', P (gm_y g r 0) i m ∧ P (gm_y g r 1) m m' ∧ P (gm_y g r 2) m' j :=
  ⟨fun ⟨m', a, b⟩ => (gm_q2.mp a).elim fun m c => ⟨m, m', c.1, c.2, b⟩, fun ⟨m, m', a, b, c⟩ => ⟨m', gm_q2.mpr ⟨m, a, b⟩, c⟩⟩
theorem gm_ml {g : gm_G} {w : Nat → Nat} {n i : Nat} (h : i < n) : gm_mk g w n (5 + w i) i (i + 1) := fun _ c => c.1 i h
theorem gm_mr {g : gm_G} {w : Nat → Nat} {n r i j : Nat} (hr : r < 16) (hp : gm_p g r = true) (h1 : i ≤ j) (h2 : j ≤ n) (h : gm_q g (gm_mk g w n) r (gm_l g r) i j) : gm_mk g w n (gm_k g r) i j :=
  fun P c => c.2 r i j hr hp h1 h2 (gm_qm (fun _ _ _ m => m P c) _ _ _ h)
theorem gm_mb {g : gm_G} {w : Nat → Nat} {n s i j : Nat} (h : gm_mk g w n s i j) : i ≤ j ∧ j ≤ n :=
  h (fun _ i j => i ≤ j ∧ j ≤ n) ⟨fun i hi => ⟨by omega, by omega⟩, fun _ _ _ _ _ h1 h2 _ => ⟨h1, h2⟩⟩
theorem gm_mlet {g : gm_G} {w : Nat → Nat} {n s i j : Nat} (G : gm_ok g) (h : gm_mk g w n s i j) : 5 ≤ s → i < n ∧ j = i + 1 ∧ s = 5 + w i :=
  h (fun s i j => 5 ≤ s → i < n ∧ j = i + 1 ∧ s = 5 + w i) ⟨fun _ hi _ => ⟨hi, rfl, rfl⟩, fun r _ _ _ _ _ _ _ z => absurd (G.1 r) (by omega)⟩
theorem gm_ind {g : gm_G} {w : Nat → Nat} {n s i j : Nat} {P : Nat → Nat → Nat → Prop} (h1 : ∀ i, i < n → P (5 + w i) i (i + 1))
    (h2 : ∀ r i j, r < 16 → gm_p g r = true → i ≤ j → j ≤ n → gm_q g (fun s a b => gm_mk g w n s a b ∧ P s a b) r (gm_l g r) i j → P (gm_k g r) i j) (h : gm_mk g w n s i j) : P s i j :=
  (h (fun s a b => gm_mk g w n s a b ∧ P s a b) ⟨fun i hi => ⟨gm_ml hi, h1 i hi⟩, fun r i j a b c d e => ⟨gm_mr a b c d (gm_qm (fun _ _ _ z => z.1) _ _ _ e), h2 r i j a b c d e⟩⟩).2
theorem gm_s8 {g : gm_G} {w : Nat → Nat} {n s i j : Nat} (G : gm_ok g) (hw : ∀ i, w i < 3) (h : gm_mk g w n s i j) : s < 8 := by
  rcases Nat.lt_or_ge s 5 with z | z
  · omega
  · have h1 := (gm_mlet G h z).2.2
    have := hw i
    omega
/-! weights of rules: the least sum (letters weigh lw; 100000 means none) -/
def gw_v (lw : Nat) (l : Nat → Nat) (s : Nat) : Nat := if s < 5 then l s else lw
def gw_u (g : gm_G) (lw : Nat) (l : Nat → Nat) (r : Nat) : Nat → Nat
  | 0 => 0
  | d + 1 => gw_u g lw l r d + gw_v lw l (gm_y g r d)
def gw_f (g : gm_G) (lw : Nat) (r : Nat) (l : Nat → Nat) : Nat := if gm_p g r = true then gw_u g lw l r (gm_l g r) else 100000
def gw_i (g : gm_G) (lw : Nat) (c : Nat) : Nat → Nat := ga_i 16 (gw_f g lw) (gm_k g) c
theorem gw_ukey (g : gm_G) (lw r : Nat) (l l' : Nat → Nat) : ∀ d, gw_u g lw l r d < gw_u g lw l' r d → ∃ s, s < 5 ∧ l s < l' s ∧ l s ≤ gw_u g lw l r d
  | 0, h => absurd h (by simp [gw_u])
  | d + 1, h => by
    simp only [gw_u] at h ⊢
    rcases Nat.lt_or_ge (gw_u g lw l r d) (gw_u g lw l' r d) with z | z
    · obtain ⟨s, h1, h2, h3⟩ := gw_ukey g lw r l l' d z
      exact ⟨s, h1, h2, by omega⟩
    · have hv : gw_v lw l (gm_y g r d) < gw_v lw l' (gm_y g r d) := by omega
      unfold gw_v at hv ⊢
      by_cases hs : gm_y g r d < 5
      · rw [if_pos hs, if_pos hs] at hv
        exact ⟨gm_y g r d, hs, hv, by rw [if_pos hs]; omega⟩
      · rw [if_neg hs, if_neg hs] at hv
        omega
theorem gw_key (g : gm_G) (lw : Nat) : ga_key (gw_f g lw) := by
  intro r l l' h
  unfold gw_f at h ⊢
  by_cases hp : gm_p g r = true
  · rw [if_pos hp, if_pos hp] at h
    rw [if_pos hp]
    exact gw_ukey g lw r l l' _ h
  · rw [if_neg hp, if_neg hp] at h
    omega
theorem gw_ub {g : gm_G} {lw r B : Nat} {l : Nat → Nat} (hv : ∀ s, gw_v lw l s = 100000 ∨ gw_v lw l s ≤ B) : ∀ d,
    (100000 ≤ gw_u g lw l r d ∧ ∃ e, e < d ∧ gw_v lw l (gm_y g r e) = 100000) ∨ ((∀ e, e < d → gw_v lw l (gm_y g r e) ≤ B) ∧ gw_u g lw l r d ≤ d * B)
  | 0 => Or.inr ⟨fun _ h => absurd h (by omega), by simp [gw_u]⟩
  | d + 1 => by
    simp only [gw_u]
    rcases gw_ub (g := g) (r := r) hv d with ⟨h1, e, h2, h3⟩ | ⟨h1, h2⟩
    · exact Or.inl ⟨by omega, e, by omega, h3⟩
    · rcases hv (gm_y g r d) with z | z
      · exact Or.inl ⟨by omega, d, by omega, z⟩
      · refine Or.inr ⟨fun e he => ?_, by rw [Nat.add_mul]; omega⟩
        rcases Nat.lt_or_ge e d with y | y
        · exact h1 e y
        · have : e = d := by omega
          rw [this]; exact z
theorem gw_bd {g : gm_G} {lw : Nat} (G : gm_ok g) (hl : lw = 1 ∨ lw = 100000) : ∀ c k, k < 5 → gw_i g lw c k = 100000 ∨ gw_i g lw c k ≤ 3 ^ gc_n (fun x => gw_i g lw c x < 100000) 5
  | 0, _, _ => Or.inl rfl
  | c + 1, k, hk => by
    have ih := gw_bd G hl c
    have hle : ∀ x, gw_i g lw (c + 1) x ≤ gw_i g lw c x := fun x => ga_ile 16 (gw_f g lw) (gm_k g) c x
    have htop : ∀ x, gw_i g lw c x ≤ 100000 := fun x => ga_top 16 (gw_f g lw) (gm_k g) c x
    have hmm : gc_n (fun x => gw_i g lw c x < 100000) 5 ≤ gc_n (fun x => gw_i g lw (c + 1) x < 100000) 5 := gc_nmono fun x _ hx => by
      have := hle x
      try dsimp only at hx ⊢
      omega
    have hpw : 3 ^ gc_n (fun x => gw_i g lw c x < 100000) 5 ≤ 3 ^ gc_n (fun x => gw_i g lw (c + 1) x < 100000) 5 := Nat.pow_le_pow_right (by decide) hmm
    have hB1 : 1 ≤ 3 ^ gc_n (fun x => gw_i g lw c x < 100000) 5 := Nat.pow_pos (by decide)
    have hv : ∀ s, gw_v lw (gw_i g lw c) s = 100000 ∨ gw_v lw (gw_i g lw c) s ≤ 3 ^ gc_n (fun x => gw_i g lw c x < 100000) 5 := by
      intro s
      unfold gw_v
      by_cases hs : s < 5
      · rw [if_pos hs]; exact ih s hs
      · rw [if_neg hs]; omega
    have e : gw_i g lw (c + 1) k = if k = gm_k g (c % 16) then min (gw_i g lw c k) (gw_f g lw (c % 16) (gw_i g lw c)) else gw_i g lw c k := rfl
    by_cases hq : k = gm_k g (c % 16)
    · rw [if_pos hq] at e
      rcases Nat.lt_or_ge (gw_f g lw (c % 16) (gw_i g lw c)) (gw_i g lw c k) with z | z
      · rw [Nat.min_eq_right (by omega)] at e
        have hp : gm_p g (c % 16) = true := by
          apply ts_nf
          intro hn
          unfold gw_f at z
          rw [if_neg (by rw [hn]; decide)] at z
          have := htop k
          omega
        have ef : gw_f g lw (c % 16) (gw_i g lw c) = gw_u g lw (gw_i g lw c) (c % 16) (gm_l g (c % 16)) := by unfold gw_f; rw [if_pos hp]
        rcases gw_ub (g := g) (r := c % 16) hv (gm_l g (c % 16)) with ⟨h1, _⟩ | ⟨_, h1⟩
        · have := htop k
          omega
        · have h3 := G.2.1 (c % 16)
          have h4 : gw_i g lw (c + 1) k ≤ 3 * 3 ^ gc_n (fun x => gw_i g lw c x < 100000) 5 := by
            rw [e, ef]
            exact Nat.le_trans h1 (Nat.mul_le_mul_right _ h3)
          refine Or.inr ?_
          rcases ih k hk with y | y
          · have h5 : gc_n (fun x => gw_i g lw c x < 100000) 5 < gc_n (fun x => gw_i g lw (c + 1) x < 100000) 5 := gc_nlt (a := k) (by omega) (by omega) (fun x _ hx => by
              have := hle x
              try dsimp only at hx ⊢
              omega) hk
            have h6 : 3 ^ (gc_n (fun x => gw_i g lw c x < 100000) 5 + 1) ≤ 3 ^ gc_n (fun x => gw_i g lw (c + 1) x < 100000) 5 := Nat.pow_le_pow_right (by decide) h5
            rw [Nat.pow_succ] at h6
            omega
          · omega
      · rw [Nat.min_eq_left z] at e
        rcases ih k hk with y | y
        · exact Or.inl (e.trans y)
        · exact Or.inr (by omega)
    · rw [if_neg hq] at e
      rcases ih k hk with y | y
      · exact Or.inl (e.trans y)
      · exact Or.inr (by omega)
theorem gw_243 {g : gm_G} {lw : Nat} (G : gm_ok g) (hl : lw = 1 ∨ lw = 100000) (c : Nat) {k : Nat} (hk : k < 5) : gw_i g lw c k = 100000 ∨ gw_i g lw c k ≤ 243 := by
  rcases gw_bd G hl c k hk with h | h
  · exact Or.inl h
  · have h1 : 3 ^ gc_n (fun x => gw_i g lw c x < 100000) 5 ≤ 3 ^ 5 := Nat.pow_le_pow_right (by decide) (gc_nle _ 5)
    have h2 : (3 : Nat) ^ 5 = 243 := by decide
    exact Or.inr (by omega)
theorem gw_v243 {g : gm_G} {lw : Nat} (G : gm_ok g) (hl : lw = 1 ∨ lw = 100000) (c s : Nat) : gw_v lw (gw_i g lw c) s = 100000 ∨ gw_v lw (gw_i g lw c) s ≤ 243 := by
  unfold gw_v
  by_cases hs : s < 5
  · rw [if_pos hs]; exact gw_243 G hl c hs
  · rw [if_neg hs]; omega
theorem gw_fin {g : gm_G} {lw : Nat} (G : gm_ok g) (hl : lw = 1 ∨ lw = 100000) (c r : Nat) : gw_f g lw r (gw_i g lw c) < 100000 ↔ gm_p g r = true ∧ ∀ d, d < gm_l g r → gw_v lw (gw_i g lw c) (gm_y g r d) < 100000 := by
  unfold gw_f
  by_cases hp : gm_p g r = true
  · rw [if_pos hp]
    have h3 := G.2.1 r
    rcases gw_ub (g := g) (r := r) (gw_v243 G hl c) (gm_l g r) with ⟨h1, e, h2, h4⟩ | ⟨h1, h2⟩
    · exact ⟨fun z => absurd z (by omega), fun z => absurd (z.2 e h2) (by omega)⟩
    · refine ⟨fun _ => ⟨hp, fun d hd => Nat.lt_of_le_of_lt (h1 d hd) (by decide)⟩, fun _ => ?_⟩
      have h5 : gm_l g r * 243 ≤ 3 * 243 := Nat.mul_le_mul_right _ h3
      omega
  · rw [if_neg hp]
    exact ⟨fun z => absurd z (by omega), fun z => absurd z.1 hp⟩
theorem gw_step {g : gm_G} {lw : Nat} (c k : Nat) : gw_i g lw (c + 1) k = if k = gm_k g (c % 16) then min (gw_i g lw c k) (gw_f g lw (c % 16) (gw_i g lw c)) else gw_i g lw c k := rfl
theorem gw_top (g : gm_G) (lw c k : Nat) : gw_i g lw c k ≤ 100000 := ga_top 16 (gw_f g lw) (gm_k g) c k
theorem gw_96 {g : gm_G} {lw : Nat} (G : gm_ok g) {k : Nat} (hk : k < 5) : gw_i g lw 96 k = gw_i g lw 80 k := ga_stay (M := 16) (gw_key g lw) (by decide) G.1 16 hk
theorem gw_cl {g : gm_G} {lw : Nat} (G : gm_ok g) {r : Nat} (hr : r < 16) : gw_i g lw 80 (gm_k g r) ≤ gw_f g lw r (gw_i g lw 80) := ga_closed (M := 16) (gw_key g lw) (by decide) G.1 hr
/-! the symbols that make the empty list -/
def gn_e (g : gm_G) (s : Nat) : Prop := s < 5 ∧ gw_i g 100000 80 s < 100000
theorem gn_v {l : Nat → Nat} {s : Nat} (h : gw_v 100000 l s < 100000) : s < 5 ∧ l s < 100000 := by
  unfold gw_v at h
  by_cases hs : s < 5
  · rw [if_pos hs] at h; exact ⟨hs, h⟩
  · rw [if_neg hs] at h; omega
theorem gn_qd {g : gm_G} {P : Nat → Nat → Nat → Prop} {r i : Nat} : ∀ d, (∀ e, e < d → P (gm_y g r e) i i) → gm_q g P r d i i
  | 0, _ => rfl
  | d + 1, h => ⟨i, gn_qd d (fun e he => h e (by omega)), h d (by omega)⟩
theorem gn_snd {g : gm_G} (G : gm_ok g) {w : Nat → Nat} {n i : Nat} (hi : i ≤ n) : ∀ c k, k < 5 → gw_i g 100000 c k < 100000 → gm_mk g w n k i i
  | 0, _, _, h => absurd h (by show ¬ (100000 : Nat) < 100000; omega)
  | c + 1, k, hk, h => by
    have ih := gn_snd G (w := w) hi c
    rw [gw_step] at h
    by_cases hq : k = gm_k g (c % 16)
    · rw [if_pos hq] at h
      rcases Nat.lt_or_ge (gw_i g 100000 c k) 100000 with z | z
      · exact ih k hk z
      · have hf : gw_f g 100000 (c % 16) (gw_i g 100000 c) < 100000 := by omega
        obtain ⟨h1, h2⟩ := (gw_fin G (Or.inr rfl) c (c % 16)).mp hf
        rw [hq]
        exact gm_mr (Nat.mod_lt c (by decide)) h1 (Nat.le_refl _) hi (gn_qd _ fun e he => ih _ (gn_v (h2 e he)).1 (gn_v (h2 e he)).2)
    · rw [if_neg hq] at h
      exact ih k hk h
theorem gn_qall {g : gm_G} {P : Nat → Nat → Nat → Prop} {N : Nat → Prop} {r : Nat} (hP : ∀ s a b, P s a b → a ≤ b ∧ (a = b → N s)) : ∀ d i j, gm_q g P r d i j → i ≤ j ∧ (i = j → ∀ e, e < d → N (gm_y g r e))
  | 0, _, _, e => ⟨Nat.le_of_eq e, fun _ _ h => absurd h (by omega)⟩
  | d + 1, i, j, ⟨m, a, b⟩ => by
    obtain ⟨h1, h2⟩ := gn_qall hP d i m a
    obtain ⟨h3, h4⟩ := hP _ _ _ b
    refine ⟨by omega, fun e x hx => ?_⟩
    rcases Nat.lt_or_ge x d with z | z
    · exact h2 (by omega) x z
    · have : x = d := by omega
      rw [this]
      exact h4 (by omega)
theorem gn_cmp {g : gm_G} (G : gm_ok g) {w : Nat → Nat} {n s i j : Nat} (h : gm_mk g w n s i j) : i = j → gn_e g s :=
  gm_ind (P := fun s i j => i = j → gn_e g s) (fun i _ e => absurd e (by omega)) (fun r i j hr hp h1 h2 hq e => by
    have h3 := (gn_qall (N := gn_e g) (fun s a b z => ⟨(gm_mb z.1).1, z.2⟩) _ _ _ hq).2 e
    refine ⟨G.1 r, Nat.lt_of_le_of_lt (gw_cl G hr) ((gw_fin G (Or.inr rfl) 80 r).mpr ⟨hp, fun d hd => ?_⟩)⟩
    obtain ⟨a, b⟩ := h3 d hd
    unfold gw_v
    rw [if_pos a]
    exact b) h
theorem gn_iff {g : gm_G} (G : gm_ok g) {w : Nat → Nat} {n s i : Nat} (hi : i ≤ n) : gm_mk g w n s i i ↔ gn_e g s :=
  ⟨fun h => gn_cmp G h rfl, fun h => gn_snd G hi 80 s h.1 h.2⟩
/-! a stretch that is not empty: put together of shorter ones, or by one symbol while the others make the empty list -/
theorem ge_split {g : gm_G} (G : gm_ok g) {w : Nat → Nat} {n i j : Nat} {B : Nat → Prop} (hij : i < j) (r : Nat) : ∀ d m,
    gm_q g (fun s a b => gm_mk g w n s a b ∧ (a = i ∧ b = j → B s)) r d i m → m ≤ j →
    (i = m ∧ (∀ e, e < d → gn_e g (gm_y g r e)) ∧ gm_q g (fun s a b => gm_mk g w n s a b ∧ ¬ (a = i ∧ b = j)) r d i m) ∨
    (m = j ∧ ∃ e, e < d ∧ B (gm_y g r e) ∧ ∀ x, x < d → x ≠ e → gn_e g (gm_y g r x)) ∨
    (i < m ∧ gm_q g (fun s a b => gm_mk g w n s a b ∧ ¬ (a = i ∧ b = j)) r d i m)
  | 0, m, e, _ => Or.inl ⟨e, fun _ h => absurd h (by omega), e⟩
  | d + 1, m, ⟨m', a, b⟩, hm => by
    have hb := gm_mb b.1
    rcases ge_split G (w := w) (n := n) (B := B) hij r d m' a (by omega) with ⟨h1, h2, h3⟩ | ⟨h1, e, h2, h3, h4⟩ | ⟨h1, h2⟩
    · subst h1
      rcases Nat.lt_or_ge i m with z | z
      · rcases Nat.lt_or_ge m j with y | y
        · exact Or.inr (Or.inr ⟨z, i, h3, b.1, by omega⟩)
        · refine Or.inr (Or.inl ⟨by omega, d, by omega, b.2 ⟨rfl, by omega⟩, fun x hx hne => h2 x (by omega)⟩)
      · have e : m = i := by omega
        subst e
        refine Or.inl ⟨rfl, fun x hx => ?_, m, h3, b.1, by omega⟩
        rcases Nat.lt_or_ge x d with y | y
        · exact h2 x y
        · have : x = d := by omega
          rw [this]
          exact gn_cmp G b.1 rfl
    · subst h1
      have e1 : m = m' := by omega
      subst e1
      refine Or.inr (Or.inl ⟨rfl, e, by omega, h3, fun x hx hne => ?_⟩)
      rcases Nat.lt_or_ge x d with y | y
      · exact h4 x y hne
      · have : x = d := by omega
        rw [this]
        exact gn_cmp G b.1 rfl
    · exact Or.inr (Or.inr ⟨by omega, m', h2, b.1, by omega⟩)
theorem ge_cmp {g : gm_G} (G : gm_ok g) {w : Nat → Nat} {n i j : Nat} {B : Nat → Prop} (hij : i < j) (hlet : j = i + 1 → B (5 + w i))
    (hfit : ∀ r, r < 16 → gm_p g r = true → gm_q g (fun s a b => gm_mk g w n s a b ∧ ¬ (a = i ∧ b = j)) r (gm_l g r) i j → B (gm_k g r))
    (hone : ∀ r e, r < 16 → gm_p g r = true → e < gm_l g r → (∀ x, x < gm_l g r → x ≠ e → gn_e g (gm_y g r x)) → B (gm_y g r e) → B (gm_k g r))
    {s : Nat} (h : gm_mk g w n s i j) : B s := by
  refine gm_ind (P := fun s a b => a = i ∧ b = j → B s) (fun a _ ⟨e1, e2⟩ => ?_) (fun r a b hr hp h1 h2 hq ⟨e1, e2⟩ => ?_) h ⟨rfl, rfl⟩
  · subst e1; exact hlet e2.symm
  · subst e1 e2
    rcases ge_split G hij r _ _ hq (Nat.le_refl _) with ⟨z, _, _⟩ | ⟨_, e, h3, h4, h5⟩ | ⟨_, z⟩
    · omega
    · exact hone r e hr hp h3 h5 h4
    · exact hfit r hr hp z
end
section
/-! a round-robin of monotone additions of kinds: after five rounds the set is closed -/
def gz_s (b : Nat → Prop) (M : Nat) (C : Nat → (Nat → Prop) → Prop) (q : Nat → Nat) : Nat → Nat → Prop
  | 0 => b
  | c + 1 => fun k => gz_s b M C q c k ∨ (k = q (c % M) ∧ C (c % M) (gz_s b M C q c))
def gz_m (C : Nat → (Nat → Prop) → Prop) : Prop := ∀ p S S', (∀ k, S k → S' k) → C p S → C p S'
def gz_c (M : Nat) (C : Nat → (Nat → Prop) → Prop) (q : Nat → Nat) (S : Nat → Prop) : Prop := ∀ p, p < M → C p S → S (q p)
theorem gz_up {b : Nat → Prop} {M : Nat} {C : Nat → (Nat → Prop) → Prop} {q : Nat → Nat} {c k : Nat} : ∀ d, gz_s b M C q c k → gz_s b M C q (c + d) k
  | 0, h => h
  | d + 1, h => Or.inl (gz_up d h)
theorem gz_st {b : Nat → Prop} {M : Nat} {C : Nat → (Nat → Prop) → Prop} {q : Nat → Nat} (hC : gz_m C) (hM : 0 < M) {c : Nat} (h : gz_c M C q (gz_s b M C q c)) : ∀ d k, gz_s b M C q (c + d) k → gz_s b M C q c k
  | 0, _, h => h
  | d + 1, k, z => by
    rcases z with z | ⟨e, z⟩
    · exact gz_st hC hM h d k z
    · rw [e]
      exact h _ (Nat.mod_lt _ hM) (hC _ _ _ (gz_st hC hM h d) z)
theorem gz_cs {M : Nat} {C : Nat → (Nat → Prop) → Prop} {q : Nat → Nat} (hC : gz_m C) {S S' : Nat → Prop} (h : gz_c M C q S) (h1 : ∀ k, S k → S' k) (h2 : ∀ k, S' k → S k) : gz_c M C q S' :=
  fun p hp z => h1 _ (h p hp (hC p _ _ h2 z))
theorem gz_r {b : Nat → Prop} {M : Nat} {C : Nat → (Nat → Prop) → Prop} {q : Nat → Nat} (hC : gz_m C) (hM : 0 < M) (hq : ∀ p, q p < 5) : ∀ t, gz_c M C q (gz_s b M C q (M * t)) ∨ t ≤ gc_n (gz_s b M C q (M * t)) 5
  | 0 => Or.inr (Nat.zero_le _)
  | t + 1 => by
    rcases Classical.em (gz_c M C q (gz_s b M C q (M * t))) with h | h
    · exact Or.inl (gz_cs hC h (fun k z => by rw [Nat.mul_succ]; exact gz_up M z) (fun k z => by rw [Nat.mul_succ] at z; exact gz_st hC hM h M k z))
    · rcases gz_r (b := b) hC hM hq t with z | z
      · exact absurd z h
      · right
        have hx : ∃ p, p < M ∧ C p (gz_s b M C q (M * t)) ∧ ¬ gz_s b M C q (M * t) (q p) := by
          apply Classical.byContradiction
          intro hn
          exact h fun p hp hc => Classical.byContradiction fun hs => hn ⟨p, hp, hc, hs⟩
        obtain ⟨p, hp, hc, hs⟩ := hx
        have h1 : gz_s b M C q (M * (t + 1)) (q p) := by
          have e2 : M * (t + 1) = M * t + p + 1 + (M - p - 1) := by rw [Nat.mul_succ]; omega
          have e3 : (M * t + p) % M = p := by rw [Nat.mul_add_mod]; exact Nat.mod_eq_of_lt hp
          rw [e2]
          refine gz_up _ (Or.inr ⟨by rw [e3], ?_⟩)
          rw [e3]
          exact hC p _ _ (fun k z => gz_up p z) hc
        have h2 := gc_nlt hs h1 (N := 5) (fun k _ z => by rw [Nat.mul_succ]; exact gz_up M z) (hq p)
        omega
theorem gc_nfull {P : Nat → Prop} : ∀ N, N ≤ gc_n P N → ∀ k, k < N → P k
  | 0, _, _, h => absurd h (by omega)
  | N + 1, h, k, hk => by
    simp only [gc_n] at h
    have h1 := gc_nle P N
    have h2 := gc_b_le (P N)
    rcases Nat.lt_or_ge k N with z | z
    · exact gc_nfull N (by omega) k z
    · have e : k = N := by omega
      rw [e]
      apply Classical.byContradiction
      intro hn
      rw [gc_b_f hn] at h
      omega
theorem gz_5 {b : Nat → Prop} {M : Nat} {C : Nat → (Nat → Prop) → Prop} {q : Nat → Nat} (hC : gz_m C) (hM : 0 < M) (hq : ∀ p, q p < 5) : gz_c M C q (gz_s b M C q (M * 5)) := by
  rcases gz_r (b := b) hC hM hq 5 with h | h
  · exact h
  · exact fun p _ _ => gc_nfull 5 h _ (hq p)
theorem gz_end {b : Nat → Prop} {M : Nat} {C : Nat → (Nat → Prop) → Prop} {q : Nat → Nat} (hC : gz_m C) (hM : 0 < M) (hq : ∀ p, q p < 5) (d k : Nat) : gz_s b M C q (M * 5 + d) k ↔ gz_s b M C q (M * 5) k :=
  ⟨gz_st hC hM (gz_5 hC hM hq) d k, gz_up d⟩
/-! singles: what one symbol hands up while all beside it make the empty list; points p = 4 r + d -/
def gs_a (g : gm_G) (p : Nat) : Prop := gm_p g (p / 4) = true ∧ p % 4 < gm_l g (p / 4) ∧ ∀ x, x < gm_l g (p / 4) → x ≠ p % 4 → gn_e g (gm_y g (p / 4) x)
def gs_u (g : gm_G) (s c : Nat) : Nat → Prop := gz_s (fun k => k = s) 64 (fun p S => gs_a g p ∧ S (gm_y g (p / 4) (p % 4))) (fun p => gm_k g (p / 4)) c
theorem gs_m (g : gm_G) : gz_m (fun p S => gs_a g p ∧ S (gm_y g (p / 4) (p % 4))) := fun _ _ _ h z => ⟨z.1, h _ z.2⟩
theorem gs_cl {g : gm_G} (G : gm_ok g) {s r e : Nat} (hr : r < 16) (hp : gm_p g r = true) (he : e < gm_l g r) (ho : ∀ x, x < gm_l g r → x ≠ e → gn_e g (gm_y g r x)) (h : gs_u g s 320 (gm_y g r e)) : gs_u g s 320 (gm_k g r) := by
  have h3 := G.2.1 r
  have e1 : (4 * r + e) / 4 = r := by omega
  have e2 : (4 * r + e) % 4 = e := by omega
  have z := gz_5 (b := fun k => k = s) (M := 64) (q := fun p => gm_k g (p / 4)) (gs_m g) (by decide) (fun p => G.1 _) (4 * r + e) (by omega)
  simp only [gs_a, e1, e2] at z
  exact z ⟨⟨hp, he, ho⟩, h⟩
theorem gs_ch {g : gm_G} {P : Nat → Nat → Nat → Prop} {r e i j : Nat} (h1 : ∀ x, x < gm_l g r → x ≠ e → P (gm_y g r x) i i ∧ P (gm_y g r x) j j) (h2 : P (gm_y g r e) i j) : ∀ d, d ≤ gm_l g r → (d ≤ e → gm_q g P r d i i) ∧ (e < d → gm_q g P r d i j)
  | 0, _ => ⟨fun _ => rfl, fun h => absurd h (by omega)⟩
  | d + 1, hd => by
    obtain ⟨a, b⟩ := gs_ch h1 h2 d (by omega)
    refine ⟨fun h => ⟨i, a (by omega), (h1 d (by omega) (by omega)).1⟩, fun h => ?_⟩
    rcases Nat.lt_or_ge e d with z | z
    · exact ⟨j, b z, (h1 d (by omega) (by omega)).2⟩
    · have e1 : d = e := by omega
      subst e1
      exact ⟨i, a (Nat.le_refl _), h2⟩
theorem gs_snd {g : gm_G} (G : gm_ok g) {w : Nat → Nat} {n i j s : Nat} (hs : gm_mk g w n s i j) : ∀ c k, gs_u g s c k → gm_mk g w n k i j
  | 0, k, h => by
    have e : k = s := h
    rw [e]; exact hs
  | c + 1, k, h => by
    rcases h with h | ⟨e, ⟨⟨h1, h2, h3⟩, h4⟩⟩
    · exact gs_snd G hs c k h
    · have hb := gm_mb hs
      have h5 := gs_snd G hs c _ h4
      rw [e]
      exact gm_mr (by omega) h1 hb.1 hb.2 ((gs_ch (fun x hx hne => ⟨(gn_iff G (by omega)).mpr (h3 x hx hne), (gn_iff G hb.2).mpr (h3 x hx hne)⟩) h5 _ (Nat.le_refl _)).2 h2)
/-! first letters: by the rules all of whose symbols make something -/
def gf_able (g : gm_G) (s : Nat) : Prop := 5 ≤ s ∨ gw_i g 1 80 s < 100000
def gf_on (g : gm_G) (r : Nat) : Prop := gm_p g r = true ∧ ∀ d, d < gm_l g r → gf_able g (gm_y g r d)
def gf_h (g : gm_G) (S : Nat → Prop) (r n : Nat) : Prop := ∃ d, d < n ∧ (∀ e, e < d → gn_e g (gm_y g r e)) ∧ S (gm_y g r d)
def gf_s (g : gm_G) (a c : Nat) : Nat → Prop := gz_s (fun s => s = 5 + a) 16 (fun r S => gf_on g r ∧ gf_h g S r (gm_l g r)) (gm_k g) c
theorem gf_m (g : gm_G) : gz_m (fun r S => gf_on g r ∧ gf_h g S r (gm_l g r)) := fun _ _ _ h z => ⟨z.1, z.2.elim fun d y => ⟨d, y.1, y.2.1, h _ y.2.2⟩⟩
theorem gf_320 {g : gm_G} (G : gm_ok g) (a k : Nat) : gf_s g a 320 k ↔ gf_s g a 80 k := gz_end (M := 16) (gf_m g) (by decide) G.1 240 k
/-! parts: how few stretches, none of them empty, lie end to end -/
def gp_r (P : Nat → Nat → Prop) : Nat → Nat → Prop
  | 0 => fun j => j = 0
  | t + 1 => fun j => ∃ i, i < j ∧ gp_r P t i ∧ P i j
theorem gp_le {P : Nat → Nat → Prop} : ∀ t j, gp_r P t j → t ≤ j
  | 0, _, _ => Nat.zero_le _
  | t + 1, j, ⟨i, h1, h2, _⟩ => by
    have := gp_le t i h2
    omega
def gp_F (P : Nat → Nat → Prop) (j : Nat) (x : Int32) : Prop := (∃ t, x = nI t ∧ gp_r P t j ∧ ∀ u, u < t → ¬ gp_r P u j) ∨ (x = -3 ∧ ∀ t, ¬ gp_r P t j)
theorem gp_un {P : Nat → Nat → Prop} {j : Nat} {x y : Int32} (hx : gp_F P j x) (hy : gp_F P j y) : x = y := by
  rcases hx with ⟨t, e1, h1, h2⟩ | ⟨e1, h1⟩
  · rcases hy with ⟨u, e2, h3, h4⟩ | ⟨e2, h3⟩
    · have : t = u := by
        rcases Nat.lt_trichotomy t u with z | z | z
        · exact absurd h1 (h4 t z)
        · exact z
        · exact absurd h3 (h2 u z)
      rw [e1, e2, this]
    · exact absurd h1 (h3 t)
  · rcases hy with ⟨u, e2, h3, h4⟩ | ⟨e2, h3⟩
    · exact absurd h3 (h1 u)
    · rw [e1, e2]
/-! longest: the most letters of a stretch -/
def gl_F (P : Nat → Nat → Prop) (x : Int32) : Prop := (x = -3 ∧ ∀ i j, ¬ P i j) ∨ ∃ i j, P i j ∧ x = nI (j - i) ∧ ∀ a b, P a b → b - a ≤ j - i
theorem gl_un {P : Nat → Nat → Prop} {x y : Int32} (hx : gl_F P x) (hy : gl_F P y) : x = y := by
  rcases hx with ⟨e1, h1⟩ | ⟨i, j, h1, e1, h2⟩
  · rcases hy with ⟨e2, h3⟩ | ⟨a, b, h3, e2, h4⟩
    · rw [e1, e2]
    · exact absurd h3 (h1 a b)
  · rcases hy with ⟨e2, h3⟩ | ⟨a, b, h3, e2, h4⟩
    · exact absurd h1 (h3 i j)
    · have : j - i = b - a := Nat.le_antisymm (h4 i j h1) (h2 a b h3)
      rw [e1, e2, this]
end
section
/-! tables by cells 11 i + j with a bit for each symbol; when a table is right -/
def gt_T (t : Nat → Int32) (n : Nat) (s i j : Nat) : Prop := i ≤ j ∧ j ≤ n ∧ bt (t (i * 11 + j)) s = true
def gt_ok (g : gm_G) (w : Nat → Nat) (n : Nat) (t : Nat → Int32) : Prop := ∀ s i j, gt_T t n s i j ↔ gm_mk g w n s i j
def gt_S (g : gm_G) (w : Nat → Nat) (n : Nat) (t : Nat → Int32) : Prop := ∀ s i j, i ≤ 10 → j ≤ 10 → bt (t (i * 11 + j)) s = true → gm_mk g w n s i j
def gt_L (w : Nat → Nat) (n : Nat) (t : Nat → Int32) : Prop := ∀ i, i < n → bt (t (i * 11 + i + 1)) (5 + w i) = true
def gt_C (g : gm_G) (n : Nat) (t : Nat → Int32) : Prop := ∀ r i j, r < 16 → gm_p g r = true → i ≤ j → j ≤ n → gm_q g (gt_T t n) r (gm_l g r) i j → bt (t (i * 11 + j)) (gm_k g r) = true
theorem gt_mk {g : gm_G} {w : Nat → Nat} {n : Nat} {t : Nat → Int32} (hn : n ≤ 10) (S : gt_S g w n t) (L : gt_L w n t) (C : gt_C g n t) : gt_ok g w n t := by
  intro s i j
  constructor
  · intro ⟨h1, h2, h3⟩
    exact S s i j (by omega) (by omega) h3
  · intro h
    exact h (gt_T t n) ⟨fun i hi => ⟨by omega, by omega, L i hi⟩, fun r i j a b c d e => ⟨c, d, C r i j a b c d e⟩⟩
theorem gt_sT {g : gm_G} {w : Nat → Nat} {n : Nat} {t : Nat → Int32} (hn : n ≤ 10) (S : gt_S g w n t) {s i j : Nat} (h : gt_T t n s i j) : gm_mk g w n s i j := by
  obtain ⟨h1, h2, h3⟩ := h
  exact S s i j (by omega) (by omega) h3
/-- the cells as putLetters leaves them -/
def gt_P (w : Nat → Nat) (n : Nat) (t : Nat → Int32) : Prop := ∀ s i j, i ≤ 10 → j ≤ 10 → (bt (t (i * 11 + j)) s = true ↔ i < n ∧ j = i + 1 ∧ s = 5 + w i)
theorem gt_PS {g : gm_G} {w : Nat → Nat} {n : Nat} {t : Nat → Int32} (P : gt_P w n t) : gt_S g w n t := by
  intro s i j hi hj h
  obtain ⟨h1, h2, h3⟩ := (P s i j hi hj).mp h
  rw [h2, h3]
  exact gm_ml h1
theorem gt_PL {w : Nat → Nat} {n : Nat} {t : Nat → Int32} (hn : n ≤ 10) (P : gt_P w n t) : gt_L w n t := fun i hi => (P (5 + w i) i (i + 1) (by omega) (by omega)).mpr ⟨hi, rfl, rfl⟩
/-! left to right: Z p r d i says that the place i is among the starts of point d of rule r at place p -/
theorem ge_two {g : gm_G} (G : gm_ok g) {w : Nat → Nat} {n : Nat} {Z : Nat → Nat → Nat → Nat → Prop}
    (hb : ∀ p r, p ≤ n → r < 16 → gm_p g r = true → Z p r 0 p)
    (hl : ∀ p r d i, p < n → r < 16 → d < gm_l g r → gm_y g r d = 5 + w p → Z p r d i → Z (p + 1) r (d + 1) i)
    (hf : ∀ p r' m r d i, p ≤ n → r' < 16 → r < 16 → m ≤ p → Z p r' (gm_l g r') m → d < gm_l g r → gm_y g r d = gm_k g r' → Z m r d i → Z p r (d + 1) i)
    {s i j : Nat} (h : gm_mk g w n s i j) : s < 5 → ∃ r, r < 16 ∧ gm_p g r = true ∧ gm_k g r = s ∧ Z j r (gm_l g r) i := by
  have key : i ≤ j ∧ j ≤ n ∧ ((s < 5 ∧ ∃ r, r < 16 ∧ gm_p g r = true ∧ gm_k g r = s ∧ Z j r (gm_l g r) i) ∨ (i < n ∧ j = i + 1 ∧ s = 5 + w i)) := by
    refine h (fun s i j => i ≤ j ∧ j ≤ n ∧ ((s < 5 ∧ ∃ r, r < 16 ∧ gm_p g r = true ∧ gm_k g r = s ∧ Z j r (gm_l g r) i) ∨ (i < n ∧ j = i + 1 ∧ s = 5 + w i))) ⟨fun i hi => ⟨by omega, by omega, Or.inr ⟨hi, rfl, rfl⟩⟩, fun r i j hr hp h1 h2 hq => ?_⟩
    have ch : ∀ d j, d ≤ gm_l g r → i ≤ n → gm_q g (fun s i j => i ≤ j ∧ j ≤ n ∧ ((s < 5 ∧ ∃ r, r < 16 ∧ gm_p g r = true ∧ gm_k g r = s ∧ Z j r (gm_l g r) i) ∨ (i < n ∧ j = i + 1 ∧ s = 5 + w i))) r d i j → Z j r d i := by
      intro d
      induction d with
      | zero =>
        intro j _ hi e
        have e' : i = j := e
        rw [← e']
        exact hb i r hi hr hp
      | succ d ih =>
        intro j hd hi ⟨m, a, b1, b2, b3⟩
        have hz := ih m (by omega) hi a
        rcases b3 with ⟨_, r', c1, _, c3, c4⟩ | ⟨c1, c2, c3⟩
        · exact hf j r' m r d i b2 c1 hr b1 c4 (by omega) c3.symm hz
        · rw [c2]
          exact hl m r d i c1 hr (by omega) c3 hz
    exact ⟨h1, h2, Or.inl ⟨G.1 r, r, hr, hp, rfl, ch _ j (Nat.le_refl _) (by omega) hq⟩⟩
  intro hs
  rcases key with ⟨_, _, ⟨_, z⟩ | ⟨_, _, z⟩⟩
  · exact z
  · omega
/-! the agenda: L r d i j says that the item is listed -/
theorem ge_four {g : gm_G} {w : Nat → Nat} {n : Nat} {L : Nat → Nat → Nat → Nat → Prop} {T : Nat → Nat → Nat → Prop}
    (hb : ∀ r i, r < 16 → gm_p g r = true → i ≤ n → L r 0 i i)
    (hf : ∀ r i j, r < 16 → L r (gm_l g r) i j → T (gm_k g r) i j)
    (hg : ∀ r d i m j, r < 16 → d < gm_l g r → L r d i m → T (gm_y g r d) m j → L r (d + 1) i j)
    (hl : ∀ i, i < n → T (5 + w i) i (i + 1)) {s i j : Nat} (h : gm_mk g w n s i j) : T s i j := by
  refine h T ⟨hl, fun r i j hr hp h1 h2 hq => hf r i j hr ?_⟩
  have ch : ∀ d j, d ≤ gm_l g r → gm_q g T r d i j → L r d i j := by
    intro d
    induction d with
    | zero =>
      intro j _ e
      have e' : i = j := e
      rw [← e']
      exact hb r i hr hp (by omega)
    | succ d ih =>
      intro j hd ⟨m, a, b⟩
      exact hg r d i m j hr (by omega) (ih m (by omega) a) b
  exact ch _ j (Nat.le_refl _) hq
/-! counting bits of a table of 605 = 5 * 121 -/
theorem gt_up (f : Nat → Int32) (k : Nat) : upd f k (f k) = f := by
  funext j
  rw [gb_u]
  split
  · rename_i e; rw [e]
  · rfl
end
section
/-! the reference's cells: 121 s + 11 i + j for a kind s; letters are read off the list -/
def gy_D (m : Nat → Int32) (w : Nat → Nat) (s i j : Nat) : Prop := if s < 5 then m (121 * s + 11 * i + j) = 1 else j = i + 1 ∧ s = 5 + w i
def gy_B (m : Nat → Int32) (w : Nat → Nat) (n s i j : Nat) : Prop := i ≤ j ∧ j ≤ n ∧ gy_D m w s i j
def gy_Z (m : Nat → Int32) : Prop := ∀ c, c < 605 → m c = 0 ∨ m c = 1
def gy_S (g : gm_G) (w : Nat → Nat) (n : Nat) (m : Nat → Int32) : Prop := ∀ s i j, s < 5 → i ≤ 10 → j ≤ 10 → m (121 * s + 11 * i + j) = 1 → gm_mk g w n s i j
def gy_C (g : gm_G) (w : Nat → Nat) (n : Nat) (m : Nat → Int32) (r : Nat) : Prop := ∀ i j, i ≤ j → j ≤ n → gm_q g (gy_B m w n) r (gm_l g r) i j → m (121 * gm_k g r + 11 * i + j) = 1
def gy_ok (g : gm_G) (w : Nat → Nat) (n : Nat) (m : Nat → Int32) : Prop := ∀ s i j, s < 5 → i ≤ 10 → j ≤ 10 → (m (121 * s + 11 * i + j) = 1 ↔ gm_mk g w n s i j)
theorem gy_B_s {g : gm_G} {w : Nat → Nat} {n : Nat} {m : Nat → Int32} (hn : n ≤ 10) (S : gy_S g w n m) {s i j : Nat} (h : gy_B m w n s i j) : gm_mk g w n s i j := by
  obtain ⟨h1, h2, h3⟩ := h
  unfold gy_D at h3
  by_cases hs : s < 5
  · rw [if_pos hs] at h3
    exact S s i j hs (by omega) (by omega) h3
  · rw [if_neg hs] at h3
    rw [h3.1, h3.2]
    exact gm_ml (by omega)
theorem gy_mk {g : gm_G} {w : Nat → Nat} {n : Nat} {m : Nat → Int32} (G : gm_ok g) (hn : n ≤ 10) (S : gy_S g w n m) (C : ∀ r, r < 16 → gm_p g r = true → gy_C g w n m r) : gy_ok g w n m := by
  intro s i j hs hi hj
  constructor
  · exact S s i j hs hi hj
  · intro h
    have k : gy_B m w n s i j := by
      refine h (gy_B m w n) ⟨fun i hi => ⟨by omega, by omega, ?_⟩, fun r i j a b c d e => ⟨c, d, ?_⟩⟩
      · unfold gy_D
        rw [if_neg (by omega)]
        exact ⟨rfl, rfl⟩
      · unfold gy_D
        rw [if_pos (G.1 r)]
        exact C r a b i j c d e
    have k3 := k.2.2
    unfold gy_D at k3
    rw [if_pos hs] at k3
    exact k3
end
section
/-! index arithmetic -/
theorem gx_c11 (i j : Nat) : nI i * 11 + nI j = nI (i * 11 + j) := by
  rw [show (11 : Int32) = nI 11 from rfl, pk_mul, nI_add]
theorem gx_y121 (s i j : Nat) : 121 * nI s + 11 * nI i + nI j = nI (121 * s + 11 * i + j) := by
  rw [show (11 : Int32) = nI 11 from rfl, show (121 : Int32) = nI 121 from rfl, pk_mul, pk_mul, nI_add, nI_add]
theorem gx_cl {n : Nat} (h : n < 100000) : (nI n).toNatClampNeg = n := nI_clamp (by omega)
theorem gx_in {n N : Nat} (h : n < N) (hN : N < 100000) : vp_in (nI n) N := vp_in_nI h (by omega)
theorem gx_b1 : vp_nar .boolean 1 = 1 := rfl
theorem gx_b0 : vp_nar .boolean 0 = 0 := rfl
theorem gx_mul3 (d : Nat) : 3 * nI d = nI (3 * d) := by
  rw [show (3 : Int32) = nI 3 from rfl, pk_mul]
theorem gx_sym {q d : Nat} (hq : q < 512) (hd : d ≤ 3) : ((nI q) >>> ((3 * nI d) &&& 31)) &&& 7 = nI (q / 8 ^ d % 8) := by
  rw [gx_mul3, pk_shrN (by omega) (nI (3 * d) &&& 31) (3 * d) (s_l (3 * d) (by omega)), pk_andN (n := q / 2 ^ (3 * d)) (Nat.lt_of_le_of_lt (Nat.div_le_self _ _) (by omega)) 3 (by decide), Nat.pow_mul]
theorem gx_ne {a b : Nat} (ha : a < 100000) (hb : b < 100000) (h : a ≠ b) : ¬ nI a = nI b := fun z => h ((nI_eq (by omega) (by omega)).mp z)
/-! the grammar that the arrays hold -/
def gx_G (g : gm_G) (rs : Int32) (rk rl ry : Nat → Int32) : Prop :=
  gm_ok g ∧ (∀ r, r < 16 → bt rs r = gm_p g r) ∧ (∀ r, rk r = nI (gm_k g r)) ∧ (∀ r, rl r = nI (gm_l g r)) ∧ ∀ r d, d ≤ 3 → ((ry r) >>> ((3 * nI d) &&& 31)) &&& 7 = nI (gm_y g r d)
theorem gx_Gk {g : gm_G} {rs : Int32} {rk rl ry : Nat → Int32} (H : gx_G g rs rk rl ry) {r : Nat} (hr : r < 16) : rk (nI r).toNatClampNeg = nI (gm_k g r) := by
  rw [gx_cl (by omega)]; exact H.2.2.1 r
theorem gx_Gl {g : gm_G} {rs : Int32} {rk rl ry : Nat → Int32} (H : gx_G g rs rk rl ry) {r : Nat} (hr : r < 16) : rl (nI r).toNatClampNeg = nI (gm_l g r) := by
  rw [gx_cl (by omega)]; exact H.2.2.2.1 r
theorem gx_Gy {g : gm_G} {rs : Int32} {rk rl ry : Nat → Int32} (H : gx_G g rs rk rl ry) {r d : Nat} (hr : r < 16) (hd : d ≤ 3) : ((ry (nI r).toNatClampNeg) >>> ((3 * nI d) &&& 31)) &&& 7 = nI (gm_y g r d) := by
  rw [gx_cl (by omega)]; exact H.2.2.2.2 r d hd
theorem gx_10 : ¬ (1 : Int32) = 0 := by decide
theorem gx_5 (k : Nat) : 5 + nI k = nI (5 + k) := nI_add 5 k
end
section
/-! counting what a table holds: every round that finds something counts one more -/
noncomputable def gt_n (t : Nat → Int32) : Nat := gc_n (fun e => bt (t (e % 121)) (e / 121) = true) 605
theorem gt_nle {t t' : Nat → Int32} (hm : ∀ c s, c < 121 → bt (t c) s = true → bt (t' c) s = true) : gt_n t ≤ gt_n t' := gc_nmono fun e _ h => hm _ _ (Nat.mod_lt _ (by decide)) h
theorem gt_nlt {t t' : Nat → Int32} (hm : ∀ c s, c < 121 → bt (t c) s = true → bt (t' c) s = true) {c s : Nat} (hc : c < 121) (hs : s < 5) (h0 : bt (t c) s = false) (h1 : bt (t' c) s = true) : gt_n t < gt_n t' := by
  have e1 : (s * 121 + c) % 121 = c := by omega
  have e2 : (s * 121 + c) / 121 = s := by omega
  refine gc_nlt (a := s * 121 + c) ?_ ?_ (fun e _ h => hm _ _ (Nat.mod_lt _ (by decide)) h) (by omega)
  · show ¬ bt (t ((s * 121 + c) % 121)) ((s * 121 + c) / 121) = true
    rw [e1, e2, h0]; decide
  · show bt (t' ((s * 121 + c) % 121)) ((s * 121 + c) / 121) = true
    rw [e1, e2]; exact h1
theorem gt_nS {g : gm_G} {w : Nat → Nat} {n : Nat} {t : Nat → Int32} (S : gt_S g w n t) : gt_n t < 605 := by
  apply Classical.byContradiction
  intro h
  have h1 := gc_nfull 605 (Nat.le_of_not_lt h) 11 (by decide)
  have h2 := (gm_mb (S 0 1 0 (by decide) (by decide) h1)).1
  omega
noncomputable def gr_n (re : Nat → Int32) : Nat := gc_n (fun e => bt (re (e / 11)) (e % 11) = true) 605
theorem gr_nle {t t' : Nat → Int32} (hm : ∀ c s, bt (t c) s = true → bt (t' c) s = true) : gr_n t ≤ gr_n t' := gc_nmono fun e _ h => hm _ _ h
theorem gr_nlt {t t' : Nat → Int32} (hm : ∀ c s, bt (t c) s = true → bt (t' c) s = true) {c j : Nat} (hc : c < 55) (hj : j ≤ 10) (h0 : bt (t c) j = false) (h1 : bt (t' c) j = true) : gr_n t < gr_n t' := by
  have e1 : (c * 11 + j) / 11 = c := by omega
  have e2 : (c * 11 + j) % 11 = j := by omega
  refine gc_nlt (a := c * 11 + j) ?_ ?_ (fun e _ h => hm _ _ h) (by omega)
  · show ¬ bt (t ((c * 11 + j) / 11)) ((c * 11 + j) % 11) = true
    rw [e1, e2, h0]; decide
  · show bt (t' ((c * 11 + j) / 11)) ((c * 11 + j) % 11) = true
    rw [e1, e2]; exact h1
/-- reach is sound: symbol s from i to j -/
def gr_S (g : gm_G) (w : Nat → Nat) (n : Nat) (re : Nat → Int32) : Prop := ∀ s i j, s < 8 → i ≤ 10 → bt (re (s * 11 + i)) j = true → gm_mk g w n s i j
theorem gr_nS {g : gm_G} {w : Nat → Nat} {n : Nat} {t : Nat → Int32} (S : gr_S g w n t) : gr_n t < 605 := by
  apply Classical.byContradiction
  intro h
  have h1 := gc_nfull 605 (Nat.le_of_not_lt h) 11 (by decide)
  have h2 := (gm_mb (S 0 1 0 (by decide) (by decide) h1)).1
  omega
noncomputable def gq_n (st : Nat → Int32) (p : Nat) : Nat := gc_n (fun e => bt (st (p * 64 + e / 11)) (e % 11) = true) 704
theorem gq_nle {t t' : Nat → Int32} {p : Nat} (hm : ∀ c s, bt (t c) s = true → bt (t' c) s = true) : gq_n t p ≤ gq_n t' p := gc_nmono fun e _ h => hm _ _ h
theorem gq_nlt {t t' : Nat → Int32} {p : Nat} (hm : ∀ c s, bt (t c) s = true → bt (t' c) s = true) {c i : Nat} (hc : c < 64) (hi : i ≤ 10) (h0 : bt (t (p * 64 + c)) i = false) (h1 : bt (t' (p * 64 + c)) i = true) : gq_n t p < gq_n t' p := by
  have e1 : (c * 11 + i) / 11 = c := by omega
  have e2 : (c * 11 + i) % 11 = i := by omega
  refine gc_nlt (a := c * 11 + i) ?_ ?_ (fun e _ h => hm _ _ h) (by omega)
  · show ¬ bt (t (p * 64 + (c * 11 + i) / 11)) ((c * 11 + i) % 11) = true
    rw [e1, e2, h0]; decide
  · show bt (t' (p * 64 + (c * 11 + i) / 11)) ((c * 11 + i) % 11) = true
    rw [e1, e2]; exact h1
noncomputable def gy_n (m : Nat → Int32) : Nat := gc_n (fun e => m e = 1) 605
theorem gy_nlt {m : Nat → Int32} {c : Nat} (hc : c < 605) (h : ¬ m c = 1) : gy_n m < gy_n (upd m c 1) := by
  refine gc_nlt (a := c) h ?_ (fun e _ h1 => ?_) hc
  · exact gb_us rfl
  · show upd m c 1 e = 1
    rw [gb_u]
    split
    · rfl
    · exact h1
theorem gy_n605 (m : Nat → Int32) : gy_n m ≤ 605 := gc_nle _ _
/-! one step of engine 0 on a cell -/
theorem gt_orS {g : gm_G} {w : Nat → Nat} {n i j : Nat} {t : Nat → Int32} {x : Int32} (S : gt_S g w n t) (hi : i ≤ 10) (hj : j ≤ 10) (hx : ∀ s, bt x s = true → gm_mk g w n s i j) : gt_S g w n (upd t (i * 11 + j) (t (i * 11 + j) ||| x)) := by
  intro s a b ha hb h
  rw [gb_u] at h
  by_cases e : a * 11 + b = i * 11 + j
  · rw [if_pos e, gb_or] at h
    have e1 : a = i := by omega
    have e2 : b = j := by omega
    subst e1 e2
    rcases h with h | h
    · exact S s a b ha hb h
    · exact hx s h
  · rw [if_neg e] at h
    exact S s a b ha hb h
theorem gt_orM {t : Nat → Int32} {k : Nat} {x : Int32} (c s : Nat) (h : bt (t c) s = true) : bt (upd t k (t k ||| x) c) s = true := by
  rw [gb_u]
  split
  · rename_i e
    rw [gb_or, ← e]
    exact Or.inl h
  · exact h
theorem gt_or0 {x y : Int32} (h : (x &&& (y ^^^ (-1))) = 0) : y ||| x = y := by
  apply b_ext
  intro i hi
  rw [b_or]
  cases hy : bt y i with
  | true => rfl
  | false =>
    cases hx : bt x i with
    | false => rfl
    | true => exact absurd h ((gb_new x y).mpr ⟨i, hi, hx, hy⟩)
end
section
/-! the reference: symbol, covers, fits -/
def gy_G (g : gm_G) (th kd lg pt : Nat → Int32) : Prop :=
  gm_ok g ∧ (∀ r, r < 16 → th r = if gm_p g r = true then 1 else 0) ∧ (∀ r, kd r = nI (gm_k g r)) ∧ (∀ r, lg r = nI (gm_l g r)) ∧ ∀ r d, d ≤ 3 → ((pt r) >>> ((3 * nI d) &&& 31)) &&& 7 = nI (gm_y g r d)
section ybase
variable {sz mn gr : Int32} {th kd lg pt wd ls md le : Nat → Int32} {g : gm_G} {w : Nat → Nat} {n : Nat}
theorem gy_symbol {post : Int32 → Prop} (H : gy_G g th kd lg pt) {r d : Nat} (hr : r < 16) (hd : d ≤ 3) (h : post (nI (gm_y g r d))) : wpY_symbol post (sz, mn, gr, th, kd, lg, pt, wd, ls, md, le) (nI r) (nI d) := by
  refine And.intro (gx_in hr (by decide)) ?_
  rw [gx_cl (by omega), H.2.2.2.2 r d hd]
  exact h
theorem gy_sub5 {s : Nat} (h : 5 ≤ s) : nI s - 5 = nI (s - 5) := pk_sub (b := 5) h
theorem gy_covers {post : Int32 → Prop} (hw : ∀ i, i < n → ls i = nI (w i)) (hw3 : ∀ i, w i < 3) (hn : n ≤ 10) (hz : gy_Z md) {s i j : Nat} (hs : s < 8) (hi : i ≤ j) (hj : j ≤ n) (h1 : gy_D md w s i j → post 1) (h0 : ¬ gy_D md w s i j → post 0) : wpY_covers post (sz, mn, gr, th, kd, lg, pt, wd, ls, md, le) (nI s) (nI i) (nI j) := by
  refine pk_le 5 s (fun h => ?_) (fun h => ?_)
  · have hnk : ¬ s < 5 := by omega
    refine pk_eq j (i + 1) (fun e => ?_) (fun e => ?_) rfl (nI_1 i)
    · refine And.intro (gx_in (by omega) (by decide)) ?_
      have h3 := hw3 i
      refine pk_eq (w i) (s - 5) (fun e2 => ?_) (fun e2 => ?_) (by rw [gx_cl (by omega)]; exact hw i (by omega)) (gy_sub5 h)
      · refine h1 ?_
        unfold gy_D
        rw [if_neg hnk]
        exact ⟨e, by omega⟩
      · refine h0 fun z => ?_
        unfold gy_D at z
        rw [if_neg hnk] at z
        omega
    · refine h0 fun z => ?_
      unfold gy_D at z
      rw [if_neg hnk] at z
      exact e z.1
  · rw [gx_y121, gx_cl (by omega)]
    refine And.intro (gx_in (by omega) (by decide)) ?_
    rcases hz (121 * s + 11 * i + j) (by omega) with z | z
    · rw [z]
      refine And.intro rfl (h0 fun y => ?_)
      unfold gy_D at y
      rw [if_pos h, z] at y
      exact absurd y (by decide)
    · rw [z]
      refine And.intro rfl (h1 ?_)
      unfold gy_D
      rw [if_pos h]
      exact z
/-- the middle of a rule of two or three symbols -/
def gy_M (g : gm_G) (P : Nat → Nat → Nat → Prop) (r j a b : Nat) : Prop := P (gm_y g r 1) a b ∧ (gm_l g r = 2 ∧ b = j ∨ gm_l g r = 3 ∧ P (gm_y g r 2) b j)
theorem gy_qM {g : gm_G} {P : Nat → Nat → Nat → Prop} {r i j : Nat} (h3 : gm_l g r ≤ 3) (h2 : 2 ≤ gm_l g r) : gm_q g P r (gm_l g r) i j ↔ ∃ a b, P (gm_y g r 0) i a ∧ gy_M g P r j a b := by
  rcases Nat.lt_or_ge (gm_l g r) 3 with z | z
  · have e : gm_l g r = 2 := by omega
    unfold gy_M
    rw [e, gm_q2]
    constructor
    · intro ⟨m, a, b⟩
      exact ⟨m, j, a, b, Or.inl ⟨rfl, rfl⟩⟩
    · intro ⟨a, b, h1, h2, h3⟩
      rcases h3 with ⟨_, e2⟩ | ⟨e2, _⟩
      · subst e2; exact ⟨a, h1, h2⟩
      · omega
  · have e : gm_l g r = 3 := by omega
    unfold gy_M
    rw [e, gm_q3]
    constructor
    · intro ⟨m, m', a, b, c⟩
      exact ⟨m, m', a, b, Or.inr ⟨rfl, c⟩⟩
    · intro ⟨a, b, h1, h2, h3⟩
      rcases h3 with ⟨e2, _⟩ | ⟨_, c⟩
      · omega
      · exact ⟨a, b, h1, h2, c⟩
theorem gy_fits94 {post : Int32 → Prop} {J : Int32 → Int32 → Prop} (H : gy_G g th kd lg pt) (hw : ∀ i, i < n → ls i = nI (w i)) (hw3 : ∀ i, w i < 3) (hn : n ≤ 10) (hz : gy_Z md) {r i j a : Nat} (hr : r < 16) (h2 : 2 ≤ gm_l g r) (ha : a ≤ j) (hj : j ≤ n)
    (h1 : (∃ b, gy_M g (gy_B md w n) r j a b) → J 1 (nI (a + 1))) (h0 : (¬ ∃ b, gy_M g (gy_B md w n) r j a b) → J 0 (nI (a + 1))) : ∃ f, wY_fits_94 post J (nI r) (nI i) (nI j) (nI (gm_l g r)) (nI a) sz mn gr th kd lg pt wd ls md le f 0 (nI a) := by
  have h3 := H.1.2.1 r
  have h8 := H.1.2.2 r
  refine pk_loop (fun f b (s : Int32) => wY_fits_94 post J (nI r) (nI i) (nI j) (nI (gm_l g r)) (nI a) sz mn gr th kd lg pt wd ls md le f s (nI b))
    (fun b s => a ≤ b ∧ ((s = 0 ∧ ∀ b', b' < b → ¬ gy_M g (gy_B md w n) r j a b') ∨ (s = 1 ∧ ∃ b', gy_M g (gy_B md w n) r j a b'))) (j + 1) a 0 (by omega) ⟨Nat.le_refl _, Or.inl ⟨rfl, fun b' hb z => absurd z.1.1 (by omega)⟩⟩ ?_ ?_
  · intro f s ⟨_, hI⟩
    refine br_t (nI_lt (Nat.lt_succ_self j) (by omega)) (nm_r (nI_1 a) ?_)
    rcases hI with ⟨rfl, hI⟩ | ⟨rfl, hI⟩
    · refine h0 fun ⟨b, hb⟩ => hI b ?_ hb
      rcases hb.2 with z | z
      · omega
      · have := z.2.1; omega
    · exact h1 hI
  · intro f b s hb ⟨hab, hI⟩ ih
    refine br_f (nI_nlt (by omega) (by omega)) ?_
    rcases hI with ⟨rfl, hI⟩ | ⟨rfl, hI⟩
    · refine br_t rfl (gy_symbol H hr (by decide) (gy_covers hw hw3 hn hz (h8 1) hab (by omega) (fun c => br_f (by decide) ?_) (fun c => br_t rfl (nm_r (nI_1 b) ?_))))
      · refine pk_eq (gm_l g r) 2 (fun e2 => ?_) (fun e2 => ?_)
        · refine pk_eq b j (fun e => nm_r (nI_1 b) ?_) (fun e => nm_r (nI_1 b) ?_)
          · exact ih 1 ⟨by omega, Or.inr ⟨rfl, b, ⟨hab, by omega, c⟩, Or.inl ⟨e2, e⟩⟩⟩
          · refine ih 0 ⟨by omega, Or.inl ⟨rfl, lt_s hI fun z => ?_⟩⟩
            rcases z.2 with y | y
            · exact e y.2
            · omega
        · refine gy_symbol H hr (by decide) (gy_covers hw hw3 hn hz (h8 2) (by omega) hj (fun d => br_f (by decide) (nm_r (nI_1 b) ?_)) (fun d => br_t rfl (nm_r (nI_1 b) ?_)))
          · exact ih 1 ⟨by omega, Or.inr ⟨rfl, b, ⟨hab, by omega, c⟩, Or.inr ⟨by omega, by omega, by omega, d⟩⟩⟩
          · refine ih 0 ⟨by omega, Or.inl ⟨rfl, lt_s hI fun z => ?_⟩⟩
            rcases z.2 with y | y
            · exact e2 y.1
            · exact d y.2.2.2
      · exact ih 0 ⟨by omega, Or.inl ⟨rfl, lt_s hI fun z => c z.1.2.2⟩⟩
    · exact br_f (by decide) (nm_r (nI_1 a) (h1 hI))
theorem gy_nar {x : Int32} (h : x = 0 ∨ x = 1) : narrow .boolean (.int x) = .int x := by
  rcases h with rfl | rfl <;> rfl
theorem gy_fits57 {post : Int32 → Prop} (H : gy_G g th kd lg pt) (hw : ∀ i, i < n → ls i = nI (w i)) (hw3 : ∀ i, w i < 3) (hn : n ≤ 10) (hz : gy_Z md) {r i j : Nat} (hr : r < 16) (h2 : 2 ≤ gm_l g r) (hij : i ≤ j) (hj : j ≤ n)
    (h1 : (∃ a b, gy_B md w n (gm_y g r 0) i a ∧ gy_M g (gy_B md w n) r j a b) → post 1) (h0 : (¬ ∃ a b, gy_B md w n (gm_y g r 0) i a ∧ gy_M g (gy_B md w n) r j a b) → post 0) : ∃ f, wY_fits_57 post (nI r) (nI i) (nI j) (nI (gm_l g r)) sz mn gr th kd lg pt wd ls md le f 0 (nI i) := by
  have h3 := H.1.2.1 r
  have h8 := H.1.2.2 r
  refine pk_loop (fun f a (s : Int32) => wY_fits_57 post (nI r) (nI i) (nI j) (nI (gm_l g r)) sz mn gr th kd lg pt wd ls md le f s (nI a))
    (fun a s => i ≤ a ∧ ((s = 0 ∧ ∀ a', a' < a → ¬ ∃ b, gy_B md w n (gm_y g r 0) i a' ∧ gy_M g (gy_B md w n) r j a' b) ∨ (s = 1 ∧ ∃ a b, gy_B md w n (gm_y g r 0) i a ∧ gy_M g (gy_B md w n) r j a b))) (j + 1) i 0 (by omega) ⟨Nat.le_refl _, Or.inl ⟨rfl, fun a' ha ⟨b, z⟩ => absurd z.1.1 (by omega)⟩⟩ ?_ ?_
  · intro f s ⟨_, hI⟩
    refine br_t (nI_lt (Nat.lt_succ_self j) (by omega)) ?_
    rcases hI with ⟨rfl, hI⟩ | ⟨rfl, hI⟩
    · refine And.intro rfl (h0 fun ⟨a, b, hb⟩ => hI a ?_ ⟨b, hb⟩)
      have z := hb.2.1.1
      rcases hb.2.2 with y | y
      · omega
      · have := y.2.1; omega
    · exact And.intro rfl (h1 hI)
  · intro f a s ha ⟨hia, hI⟩ ih
    refine br_f (nI_nlt (by omega) (by omega)) (br_f (nI_nlt (b := 2) h2 (by omega)) ?_)
    rcases hI with ⟨rfl, hI⟩ | ⟨rfl, hI⟩
    · refine br_t rfl (gy_symbol H hr (by decide) (gy_covers hw hw3 hn hz (h8 0) hia (by omega) (fun c => br_f (by decide) ?_) (fun c => br_t rfl (nm_r (nI_1 a) ?_))))
      · refine gy_fits94 H hw hw3 hn hz hr h2 (by omega) hj (fun ⟨b, z⟩ => ?_) (fun z => ?_)
        · exact ih 1 ⟨by omega, Or.inr ⟨rfl, a, b, ⟨hia, by omega, c⟩, z⟩⟩
        · exact ih 0 ⟨by omega, Or.inl ⟨rfl, lt_s hI fun ⟨b, y⟩ => z ⟨b, y.2⟩⟩⟩
      · exact ih 0 ⟨by omega, Or.inl ⟨rfl, lt_s hI fun ⟨b, y⟩ => c y.1.2.2⟩⟩
    · exact br_f (by decide) (And.intro rfl (h1 hI))
theorem gy_fits {post : Int32 → Prop} (H : gy_G g th kd lg pt) (hw : ∀ i, i < n → ls i = nI (w i)) (hw3 : ∀ i, w i < 3) (hn : n ≤ 10) (hz : gy_Z md) {r i j : Nat} (hr : r < 16) (hij : i ≤ j) (hj : j ≤ n)
    (h1 : gm_q g (gy_B md w n) r (gm_l g r) i j → post 1) (h0 : ¬ gm_q g (gy_B md w n) r (gm_l g r) i j → post 0) : wpY_fits post (sz, mn, gr, th, kd, lg, pt, wd, ls, md, le) (nI r) (nI i) (nI j) := by
  have h3 := H.1.2.1 r
  have h8 := H.1.2.2 r
  refine And.intro (gx_in hr (by decide)) (nm_r (e' := nI (gm_l g r)) (by rw [gx_cl (by omega)]; exact H.2.2.2.1 r) ?_)
  have out : ∀ x : Int32, gm_l g r < 2 → (x = 0 ∨ x = 1) → post x → ∃ f, wY_fits_57 post (nI r) (nI i) (nI j) (nI (gm_l g r)) sz mn gr th kd lg pt wd ls md le f x (nI i) := fun x hl hx hp =>
    ⟨1, br_f (nI_nlt hij (by omega)) (br_t (nI_lt (b := 2) hl (by omega)) (And.intro (gy_nar hx) hp))⟩
  refine pk_eq (gm_l g r) 0 (fun e => ?_) (fun e => ?_)
  · rw [e] at h1 h0
    refine pk_eq i j (fun e2 => ?_) (fun e2 => ?_)
    · exact out 1 (by omega) (Or.inr rfl) (h1 e2)
    · exact out 0 (by omega) (Or.inl rfl) (h0 e2)
  · refine pk_eq (gm_l g r) 1 (fun e1 => ?_) (fun e1 => ?_)
    · rw [e1, gm_q1] at h1 h0
      refine gy_symbol H hr (by decide) (gy_covers hw hw3 hn hz (h8 0) hij hj (fun c => br_f (by decide) ?_) (fun c => br_t rfl ?_))
      · exact out 1 (by omega) (Or.inr rfl) (h1 ⟨hij, hj, c⟩)
      · exact out 0 (by omega) (Or.inl rfl) (h0 fun z => c z.2.2)
    · rw [gy_qM h3 (by omega)] at h1 h0
      exact gy_fits57 H hw hw3 hn hz hr (by omega) hij hj h1 h0
end ybase
end
section
/-! the reference: tryRule, grow, read -/
def gy_I (g : gm_G) (w : Nat → Nat) (n r : Nat) (gr0 : Int32) (md0 : Nat → Int32) (D : Nat → Nat → Prop) (s : Int32 × (Nat → Int32)) : Prop :=
  gy_Z s.2 ∧ gy_S g w n s.2 ∧ ((s.1 = gr0 ∧ s.2 = md0 ∧ ∀ a b, D a b → a ≤ b → b ≤ n → gm_q g (gy_B md0 w n) r (gm_l g r) a b → md0 (121 * gm_k g r + 11 * a + b) = 1) ∨ (s.1 = 1 ∧ gy_n md0 < gy_n s.2))
theorem gy_Iw {g : gm_G} {w : Nat → Nat} {n r : Nat} {gr0 : Int32} {md0 : Nat → Int32} {D D' : Nat → Nat → Prop} {s : Int32 × (Nat → Int32)} (h : ∀ a b, a ≤ b → b ≤ n → D' a b → D a b) (I : gy_I g w n r gr0 md0 D s) : gy_I g w n r gr0 md0 D' s :=
  ⟨I.1, I.2.1, I.2.2.imp (fun z => ⟨z.1, z.2.1, fun a b d h1 h2 => z.2.2 a b (h a b h1 h2 d) h1 h2⟩) id⟩
theorem gy_Zu {m : Nat → Int32} {c : Nat} (h : gy_Z m) : gy_Z (upd m c 1) := by
  intro x hx
  rw [gb_u]
  split
  · exact Or.inr rfl
  · exact h x hx
theorem gy_Su {g : gm_G} {w : Nat → Nat} {n k i j : Nat} {m : Nat → Int32} (S : gy_S g w n m) (hk : k < 5) (hi : i ≤ 10) (hj : j ≤ 10) (h : gm_mk g w n k i j) : gy_S g w n (upd m (121 * k + 11 * i + j) 1) := by
  intro s a b hs ha hb e
  rw [gb_u] at e
  by_cases z : 121 * s + 11 * a + b = 121 * k + 11 * i + j
  · have e1 : s = k := by omega
    have e2 : a = i := by omega
    have e3 : b = j := by omega
    rw [e1, e2, e3]; exact h
  · rw [if_neg z] at e
    exact S s a b hs ha hb e
section ygrow
variable {sz gr : Int32} {th kd lg pt wd ls le : Nat → Int32} {g : gm_G} {w : Nat → Nat} {n : Nat}
theorem gy_tryRule {post : SY → Prop} (H : gy_G g th kd lg pt) (hw : ∀ i, i < n → ls i = nI (w i)) (hw3 : ∀ i, w i < 3) (hn : n ≤ 10) {md0 : Nat → Int32} (hz : gy_Z md0) (hS : gy_S g w n md0) {r : Nat} (hr : r < 16) (hp : gm_p g r = true)
    (h : ∀ gr' md', gy_I g w n r gr md0 (fun _ _ => True) (gr', md') → post (sz, nI n, gr', th, kd, lg, pt, wd, ls, md', le)) : wpY_tryRule post (sz, nI n, gr, th, kd, lg, pt, wd, ls, md0, le) (nI r) := by
  have hk := H.1.1 r
  refine pk_loop (fun f i (s : Int32 × (Nat → Int32)) => wY_tryRule_2 post (nI r) sz (nI n) f (nI i) s.1 th kd lg pt wd ls s.2 le) (fun i s => gy_I g w n r gr md0 (fun a _ => a < i) s) (n + 1) 0 (gr, md0) (by omega) ⟨hz, hS, Or.inl ⟨rfl, rfl, fun a _ d => absurd d (by omega)⟩⟩ ?_ ?_
  · intro f s hI
    exact br_t (nI_lt (Nat.lt_succ_self n) (by omega)) (h s.1 s.2 (gy_Iw (fun a b h1 h2 _ => by omega) hI))
  · intro f i s hi hI ih
    refine br_f (nI_nlt (by omega) (by omega)) ?_
    refine pk_loop (fun f2 j (s : Int32 × (Nat → Int32)) => wY_tryRule_12 post (wY_tryRule_2 post (nI r) sz (nI n) f) (nI r) (nI i) sz (nI n) f2 (nI j) s.1 th kd lg pt wd ls s.2 le) (fun j s => i ≤ j ∧ gy_I g w n r gr md0 (fun a b => a < i ∨ (a = i ∧ b < j)) s) (n + 1) i s (by omega) ⟨Nat.le_refl _, gy_Iw (fun a b h1 h2 d => by omega) hI⟩ ?_ ?_
    · intro f2 s2 ⟨_, hI2⟩
      exact br_t (nI_lt (Nat.lt_succ_self n) (by omega)) (nm_r (nI_1 i) (ih s2 (gy_Iw (fun a b h1 h2 d => by omega) hI2)))
    · intro f2 j s2 hj ⟨hij, hI2⟩ ih2
      obtain ⟨gr2, md2⟩ := s2
      obtain ⟨hz2, hS2, hA⟩ := hI2
      have hz2 : gy_Z md2 := hz2
      have hS2 : gy_S g w n md2 := hS2
      refine br_f (nI_nlt (by omega) (by omega)) (And.intro (gx_in hr (by decide)) (nm_r (e' := nI (121 * gm_k g r + 11 * i + j)) (by rw [gx_cl (by omega), H.2.2.1 r]; exact gx_y121 _ _ _) (And.intro (gx_in (by omega) (by decide)) ?_)))
      have ecl : (nI (121 * gm_k g r + 11 * i + j)).toNatClampNeg = 121 * gm_k g r + 11 * i + j := gx_cl (by omega)
      rcases hz2 (121 * gm_k g r + 11 * i + j) (by omega) with z | z
      · refine br_t (by rw [ecl]; exact z) (gy_fits H hw hw3 hn hz2 hr hij (by omega) (fun hq => br_f (by decide) (And.intro (gx_in (by omega) (by decide)) (nm_r (e' := upd md2 (121 * gm_k g r + 11 * i + j) 1) (by rw [ecl]; rfl) (nm_r (nI_1 j) ?_)))) (fun hq => br_t rfl (nm_r (nI_1 j) ?_)))
        · refine ih2 (1, upd md2 (121 * gm_k g r + 11 * i + j) 1) ⟨by omega, gy_Zu hz2, gy_Su hS2 hk (by omega) (by omega) (gm_mr hr hp hij (by omega) (gm_qm (fun _ _ _ z => gy_B_s hn hS2 z) _ _ _ hq)), Or.inr ⟨rfl, ?_⟩⟩
          have h5 := gy_nlt (m := md2) (c := 121 * gm_k g r + 11 * i + j) (by omega) (by rw [z]; decide)
          rcases hA with ⟨_, e, _⟩ | ⟨_, e⟩
          · have e' : md2 = md0 := e
            rw [← e']; exact h5
          · exact Nat.lt_trans e h5
        · refine ih2 (gr2, md2) ⟨by omega, hz2, hS2, hA.imp (fun y => ⟨y.1, y.2.1, fun a b d h1 h2 hq2 => ?_⟩) id⟩
          have e' : md2 = md0 := y.2.1
          rcases Nat.lt_or_ge b j with x | x
          · exact y.2.2 a b (by omega) h1 h2 hq2
          · rcases Nat.lt_or_ge a i with x2 | x2
            · exact y.2.2 a b (by omega) h1 h2 hq2
            · have e1 : a = i := by omega
              have e2 : b = j := by omega
              rw [e1, e2, ← e'] at hq2
              exact absurd hq2 hq
      · refine br_f (by rw [ecl]; exact fun y => absurd (y.symm.trans z) (by decide)) (nm_r (nI_1 j) ?_)
        refine ih2 (gr2, md2) ⟨by omega, hz2, hS2, hA.imp (fun y => ⟨y.1, y.2.1, fun a b d h1 h2 hq2 => ?_⟩) id⟩
        have e' : md2 = md0 := y.2.1
        rcases Nat.lt_or_ge b j with x | x
        · exact y.2.2 a b (by omega) h1 h2 hq2
        · rcases Nat.lt_or_ge a i with x2 | x2
          · exact y.2.2 a b (by omega) h1 h2 hq2
          · have e1 : a = i := by omega
            have e2 : b = j := by omega
            rw [e1, e2, ← e']
            exact z
def gy_W (g : gm_G) (w : Nat → Nat) (n : Nat) (md0 : Nat → Int32) (k : Nat) (s : Int32 × (Nat → Int32)) : Prop :=
  gy_Z s.2 ∧ gy_S g w n s.2 ∧ ((s.1 = 0 ∧ s.2 = md0 ∧ ∀ r, r < k → gm_p g r = true → gy_C g w n md0 r) ∨ (s.1 = 1 ∧ gy_n md0 < gy_n s.2))
theorem gy_grow {post : SY → Prop} (H : gy_G g th kd lg pt) (hw : ∀ i, i < n → ls i = nI (w i)) (hw3 : ∀ i, w i < 3) (hn : n ≤ 10) {md : Nat → Int32}
    (h : ∀ md', gy_Z md' → gy_ok g w n md' → post (sz, nI n, 0, th, kd, lg, pt, wd, ls, md', le)) : wpY_grow post (sz, nI n, gr, th, kd, lg, pt, wd, ls, md, le) := by
  refine pk_loop (fun f c (m : Nat → Int32) => wY_grow_2 post sz (nI n) gr f (nI c) th kd lg pt wd ls m le) (fun c m => ∀ x, x < c → m x = 0) 605 0 md (by omega) lt_0 ?_ ?_
  · intro f m hm
    refine br_t (nI_le (Nat.le_refl _) (by decide)) ?_
    refine loop_m (fun f (s : Int32 × (Nat → Int32)) => wY_grow_27 post f sz (nI n) s.1 th kd lg pt wd ls s.2 le) (fun s => gy_Z s.2 ∧ gy_S g w n s.2 ∧ (s.1 = 1 ∨ (s.1 = 0 ∧ ∀ r, r < 16 → gm_p g r = true → gy_C g w n s.2 r))) (fun s => if s.1 = 0 then 0 else 606 - gy_n s.2) ?_ (1, m) ⟨fun c hc => Or.inl (hm c hc), fun s i j hs hi hj e => ?_, Or.inl rfl⟩
    · intro f ⟨gr1, m1⟩ ⟨hz, hS, hI⟩ ih
      rcases hI with e | ⟨e, hC⟩
      · have e1 : gr1 = 1 := e
        subst e1
        refine br_f gx_10 ?_
        refine pk_loop (fun f2 k (s : Int32 × (Nat → Int32)) => wY_grow_41 post (wY_grow_27 post f) f2 (nI k) sz (nI n) s.1 th kd lg pt wd ls s.2 le) (gy_W g w n m1) 16 0 (0, m1) (by omega) ⟨hz, hS, Or.inl ⟨rfl, rfl, fun r hr => absurd hr (by omega)⟩⟩ ?_ ?_
        · intro f2 ⟨gr2, m2⟩ ⟨hz2, hS2, hA⟩
          refine br_t (nI_le (Nat.le_refl _) (by decide)) ?_
          have h605 := gy_n605 m1
          rcases hA with ⟨e2, e3, hC⟩ | ⟨e2, e3⟩
          · have a1 : gr2 = 0 := e2
            have a2 : m2 = m1 := e3
            subst a1 a2
            exact ih (0, m2) ⟨hz2, hS2, Or.inr ⟨rfl, hC⟩⟩ (by show (if (0 : Int32) = 0 then 0 else 606 - gy_n m2) < (if (1 : Int32) = 0 then 0 else 606 - gy_n m2); rw [if_pos rfl, if_neg (by decide)]; omega)
          · have a1 : gr2 = 1 := e2
            have a2 : gy_n m1 < gy_n m2 := e3
            subst a1
            exact ih (1, m2) ⟨hz2, hS2, Or.inl rfl⟩ (by show (if (1 : Int32) = 0 then 0 else 606 - gy_n m2) < (if (1 : Int32) = 0 then 0 else 606 - gy_n m1); rw [if_neg (by decide), if_neg (by decide)]; omega)
        · intro f2 k ⟨gr2, m2⟩ hk ⟨hz2, hS2, hA⟩ ih2
          refine br_f (nI_ge hk (by decide)) (And.intro (gx_in hk (by decide)) ?_)
          have eth : th (nI k).toNatClampNeg = if gm_p g k = true then 1 else 0 := by rw [gx_cl (by omega)]; exact H.2.1 k hk
          by_cases hp : gm_p g k = true
          · rw [if_pos hp] at eth
            refine br_f (by rw [eth]; decide) (gy_tryRule H hw hw3 hn hz2 hS2 hk hp fun gr3 m3 hI3 => nm_r (nI_1 k) (ih2 (gr3, m3) ⟨hI3.1, hI3.2.1, ?_⟩))
            rcases hI3.2.2 with ⟨b1, b2, b3⟩ | ⟨b1, b2⟩
            · have c1 : gr3 = gr2 := b1
              have c2 : m3 = m2 := b2
              subst c1 c2
              rcases hA with ⟨d1, d2, d3⟩ | d
              · have d2' : m3 = m1 := d2
                subst d2'
                exact Or.inl ⟨d1, rfl, lt_s d3 fun _ i j h1 h2 hq => b3 i j trivial h1 h2 hq⟩
              · exact Or.inr d
            · refine Or.inr ⟨b1, ?_⟩
              have b2' : gy_n m2 < gy_n m3 := b2
              show gy_n m1 < gy_n m3
              rcases hA with ⟨_, d2, _⟩ | ⟨_, d2⟩
              · have d2' : m2 = m1 := d2
                rw [← d2']; exact b2'
              · exact Nat.lt_trans d2 b2'
          · rw [if_neg hp] at eth
            exact br_t eth (nm_r (nI_1 k) (ih2 (gr2, m2) ⟨hz2, hS2, hA.imp (fun d => ⟨d.1, d.2.1, lt_s d.2.2 fun z => absurd z hp⟩) id⟩))
      · have e1 : gr1 = 0 := e
        subst e1
        exact br_t rfl (h m1 hz (gy_mk H.1 hn hS hC))
    · have e2 : m (121 * s + 11 * i + j) = 1 := e
      rw [hm _ (by omega)] at e2
      exact absurd e2 (by decide)
  · intro f c m hc hm ih
    refine br_f (nI_ge hc (by decide)) (And.intro (gx_in hc (by decide)) (nm_r (e' := upd m c 0) (by rw [gx_cl (by omega)]; rfl) (nm_r (nI_1 c) (ih _ ?_))))
    intro x hx
    rw [gb_u]
    split
    · rfl
    · exact hm x (by omega)
theorem gy_read {post : SY → Prop} {mn : Int32} (H : gy_G g th kd lg pt) (hwd : ∀ i, i < n → wd i = nI (w i)) (hw3 : ∀ i, w i < 3) (hn : n ≤ 10) {md : Nat → Int32}
    (h : ∀ ls' md', (∀ i, i < n → ls' i = nI (w i)) → gy_Z md' → gy_ok g w n md' → post (nI n, nI n, 0, th, kd, lg, pt, wd, ls', md', le)) : wpY_read post (nI n, mn, gr, th, kd, lg, pt, wd, ls, md, le) := by
  refine pk_loop (fun f i (l : Nat → Int32) => wY_read_10 post (nI n) (nI n) gr f (nI i) th kd lg pt wd l md le) (fun i l => ∀ x, x < i → l x = nI (w x)) n 0 ls (by omega) lt_0 ?_ ?_
  · intro f l hl
    exact br_t (nI_le (Nat.le_refl _) (by omega)) (gy_grow H hl hw3 hn fun md' hz hok => h l md' hl hz hok)
  · intro f i l hi hl ih
    refine br_f (nI_ge hi (by omega)) (And.intro (gx_in (by omega) (by decide)) (And.intro (gx_in (by omega) (by decide)) (nm_r (e' := upd l i (nI (w i))) (by rw [gx_cl (by omega), hwd i hi]) (nm_r (nI_1 i) (ih _ ?_)))))
    intro x hx
    rw [gb_u]
    split
    · rename_i e; rw [e]
    · exact hl x (by omega)
end ygrow
end
section
/-! X: rules, symbols, what rules build up, singles -/
theorem gx_kind1 {post : Int32 → Prop} {k : Nat} (hk : k < 5) (h : post 1) : wpX_isKind post (nI k) := br_f (nI_pos (by omega)) (br_f (nI_ge hk (by decide)) h)
theorem gx_kind0 {post : Int32 → Prop} {x : Int32} (hx : x < 0 ∨ nI 5 ≤ x) (h : post 0) : wpX_isKind post x := br_c (fun _ => h) (fun hn => br_c (fun _ => h) (fun h5 => absurd (hx.resolve_left hn) h5))
theorem gx_eng1 {post : Int32 → Prop} {k : Nat} (hk : k < 5) (h : post 1) : wpX_isEngine post (nI k) := br_f (nI_pos (by omega)) (br_f (nI_ge hk (by decide)) h)
theorem gx_eng0 {post : Int32 → Prop} {x : Int32} (hx : x < 0 ∨ nI 5 ≤ x) (h : post 0) : wpX_isEngine post x := br_c (fun _ => h) (fun hn => br_c (fun _ => h) (fun h5 => absurd (hx.resolve_left hn) h5))
section xbase
variable {rs wl az : Int32} {rk rl ry wd fd fo sg st re ag li fw bg le ls : Nat → Int32} {g : gm_G}
theorem gx_hasRule {post : Int32 → Prop} (H : gx_G g rs rk rl ry) {r : Nat} (hr : r < 16) (h1 : gm_p g r = true → post 1) (h0 : gm_p g r = false → post 0) : wpX_hasRule post (rs, wl, az, rk, rl, ry, wd, fd, fo, sg, st, re, ag, li, fw, bg, le, ls) (nI r) := by
  have e := H.2.1 r hr
  cases hb : gm_p g r with
  | true => exact br_f (fun z => by rw [gb_tst rs (by omega), e, hb] at z; exact absurd z (by decide)) (h1 hb)
  | false => exact br_t ((gb_tst rs (by omega)).mpr (e.trans hb)) (h0 hb)
theorem gx_symbolAt {post : Int32 → Prop} (H : gx_G g rs rk rl ry) {r d : Nat} (hr : r < 16) (hd : d ≤ 3) (h : post (nI (gm_y g r d))) : wpX_symbolAt post (rs, wl, az, rk, rl, ry, wd, fd, fo, sg, st, re, ag, li, fw, bg, le, ls) (nI r) (nI d) := by
  refine And.intro (gx_in hr (by decide)) ?_
  rw [gx_cl (by omega), H.2.2.2.2 r d hd]
  exact h
theorem gx_bit {x : Int32} {s : Nat} {A B : Prop} (hs : s < 32) (h1 : bt x s = true → B) (h0 : bt x s = false → A) : (((x >>> (nI s &&& 31)) &&& 1) = 0 → A) ∧ (¬ ((x >>> (nI s &&& 31)) &&& 1) = 0 → B) := by
  rw [gb_tst x hs]
  exact ⟨h0, fun z => h1 (ts_nf z)⟩
theorem gx_isWithin {post : Int32 → Prop} (H : gx_G g rs rk rl ry) {r : Nat} (hr : r < 16) {x : Int32} (h1 : (∀ d, d < gm_l g r → bt x (gm_y g r d) = true) → post 1) (h0 : (¬ ∀ d, d < gm_l g r → bt x (gm_y g r d) = true) → post 0) : wpX_isWithin post (rs, wl, az, rk, rl, ry, wd, fd, fo, sg, st, re, ag, li, fw, bg, le, ls) (nI r) x := by
  have h3 := H.1.2.1 r
  have el := gx_Gl H hr
  refine pk_loop (fun f d (_ : Unit) => wX_isWithin_2 post (nI r) x rs wl az rk rl ry wd fd fo sg st re ag li fw bg le ls f (nI d)) (fun d _ => ∀ e, e < d → bt x (gm_y g r e) = true) (gm_l g r) 0 () (by omega) lt_0 ?_ ?_
  · intro f s hI
    exact And.intro (gx_in hr (by decide)) (br_t (by rw [el]; exact nI_le (Nat.le_refl _) (by omega)) (h1 hI))
  · intro f d s hd hI ih
    have h8 := H.1.2.2 r d
    refine And.intro (gx_in hr (by decide)) (br_f (by rw [el]; exact nI_ge hd (by omega)) (gx_symbolAt H hr (by omega) (gx_bit (by omega) (fun hb => nm_r (nI_1 d) (ih () (lt_s hI hb))) (fun hb => h0 fun z => ?_))))
    rw [z d hd] at hb
    exact absurd hb (by decide)
theorem gx_others {post : Int32 → Prop} (H : gx_G g rs rk rl ry) {r d : Nat} (hr : r < 16) (hd3 : d ≤ 3) {x : Int32} (h1 : (∀ e, e < gm_l g r → e ≠ d → bt x (gm_y g r e) = true) → post 1) (h0 : (¬ ∀ e, e < gm_l g r → e ≠ d → bt x (gm_y g r e) = true) → post 0) : wpX_othersAreWithin post (rs, wl, az, rk, rl, ry, wd, fd, fo, sg, st, re, ag, li, fw, bg, le, ls) (nI r) (nI d) x := by
  have h3 := H.1.2.1 r
  have el := gx_Gl H hr
  refine pk_loop (fun f e (_ : Unit) => wX_othersAreWithin_3 post (nI r) (nI d) x rs wl az rk rl ry wd fd fo sg st re ag li fw bg le ls f (nI e)) (fun e _ => ∀ c, c < e → c ≠ d → bt x (gm_y g r c) = true) (gm_l g r) 0 () (by omega) lt_0 ?_ ?_
  · intro f s hI
    exact And.intro (gx_in hr (by decide)) (br_t (by rw [el]; exact nI_le (Nat.le_refl _) (by omega)) (h1 hI))
  · intro f e s he hI ih
    have h8 := H.1.2.2 r e
    refine And.intro (gx_in hr (by decide)) (br_f (by rw [el]; exact nI_ge he (by omega)) (gx_symbolAt H hr (by omega) (pk_eq e d (fun ed => nm_r (nI_1 e) (ih () (lt_s hI fun z => absurd ed z))) (fun ed => gx_bit (by omega) (fun hb => nm_r (nI_1 e) (ih () (lt_s hI fun _ => hb))) (fun hb => h0 fun z => ?_)))))
    rw [z e he ed] at hb
    exact absurd hb (by decide)
/-- what is known after c steps of kindsMadeFrom -/
def gx_K (g : gm_G) (lw : Nat) (given : Int32) (c : Nat) (x : Int32) : Prop := ∀ s, bt x s = true ↔ (if s < 5 then gw_i g lw c s < 100000 else bt given s = true)
def gx_gv (lw : Nat) (given : Int32) : Prop := (lw = 1 ∨ lw = 100000) ∧ (∀ s, s < 5 → bt given s = false) ∧ ∀ s, 5 ≤ s → s < 8 → (bt given s = true ↔ lw < 100000)
theorem gx_gv0 : gx_gv 100000 0 := ⟨Or.inr rfl, fun s _ => b_0 s, fun s _ _ => by rw [b_0]; exact ⟨fun z => absurd z (by decide), fun z => absurd z (by omega)⟩⟩
theorem gx_gv1 : gx_gv 1 224 := ⟨Or.inl rfl, fun s hs => by rw [gb_224 s (by omega)]; exact decide_eq_false (by omega), fun s h5 h8 => by rw [gb_224 s (by omega)]; exact ⟨fun _ => by omega, fun _ => decide_eq_true ⟨h5, h8⟩⟩⟩
theorem gx_Kv {lw c s : Nat} {given x : Int32} (V : gx_gv lw given) (K : gx_K g lw given c x) (hs : s < 8) : bt x s = true ↔ gw_v lw (gw_i g lw c) s < 100000 := by
  rw [K s]
  unfold gw_v
  by_cases h : s < 5
  · rw [if_pos h, if_pos h]
  · rw [if_neg h, if_neg h]
    exact V.2.2 s (by omega) hs
theorem gx_Ks {lw c r : Nat} {given x : Int32} (G : gm_ok g) (V : gx_gv lw given) (K : gx_K g lw given c x) (hc : c % 16 = r) :
    (gm_p g r = true → (∀ d, d < gm_l g r → bt x (gm_y g r d) = true) → gx_K g lw given (c + 1) (x ||| ((1 : Int32) <<< (nI (gm_k g r) &&& 31)))) ∧ ((gm_p g r = false ∨ ¬ ∀ d, d < gm_l g r → bt x (gm_y g r d) = true) → gx_K g lw given (c + 1) x) := by
  have hk := G.1 r
  have fin := gw_fin G V.1 c r
  have hin : (∀ d, d < gm_l g r → bt x (gm_y g r d) = true) ↔ ∀ d, d < gm_l g r → gw_v lw (gw_i g lw c) (gm_y g r d) < 100000 :=
    ⟨fun z d hd => (gx_Kv V K (G.2.2 r d)).mp (z d hd), fun z d hd => (gx_Kv V K (G.2.2 r d)).mpr (z d hd)⟩
  constructor
  · intro hp hw s
    have hf := fin.mpr ⟨hp, hin.mp hw⟩
    rw [gb_add x (by omega), K s, gw_step, hc]
    by_cases h : s < 5
    · rw [if_pos h, if_pos h]
      by_cases e : s = gm_k g r
      · rw [if_pos e]
        exact ⟨fun _ => by omega, fun _ => Or.inr e⟩
      · rw [if_neg e]
        exact ⟨fun z => z.resolve_right e, Or.inl⟩
    · rw [if_neg h, if_neg h]
      exact ⟨fun z => z.resolve_right (by omega), Or.inl⟩
  · intro hn s
    have hf : ¬ gw_f g lw r (gw_i g lw c) < 100000 := fun z => by
      obtain ⟨a, b⟩ := fin.mp z
      rcases hn with y | y
      · rw [a] at y; exact absurd y (by decide)
      · exact y (hin.mpr b)
    rw [K s, gw_step, hc]
    by_cases h : s < 5
    · rw [if_pos h, if_pos h]
      by_cases e : s = gm_k g r
      · rw [if_pos e]
        omega
      · rw [if_neg e]
    · rw [if_neg h, if_neg h]
def gx_E (g : gm_G) (lw : Nat) (e : Int32) : Prop := ∀ s, bt e s = true ↔ s < 5 ∧ gw_i g lw 80 s < 100000
theorem gx_kmf {post : Int32 → Prop} (H : gx_G g rs rk rl ry) {lw : Nat} {given : Int32} (V : gx_gv lw given) (h : ∀ e, gx_E g lw e → post e) : wpX_kindsMadeFrom post (rs, wl, az, rk, rl, ry, wd, fd, fo, sg, st, re, ag, li, fw, bg, le, ls) given := by
  refine pk_loop (fun f t (x : Int32) => wX_kindsMadeFrom_4 post rs wl az rk rl ry wd fd fo sg st re ag li fw bg le ls f x (nI t)) (fun t x => gx_K g lw given (16 * t) x) 5 0 given (by omega) ?_ ?_ ?_
  · intro s
    by_cases hs : s < 5
    · rw [if_pos hs, V.2.1 s hs]
      exact ⟨fun z => absurd z (by decide), fun z => absurd z (by show ¬ (100000 : Nat) < 100000; omega)⟩
    · rw [if_neg hs]
  · intro f x K
    refine br_t (nI_le (Nat.le_refl _) (by decide)) (h _ fun s => ?_)
    rw [gb_and, K s]
    by_cases hs : s < 5
    · rw [if_pos hs, gb_31 s (by omega)]
      exact ⟨fun z => ⟨hs, z.1⟩, fun z => ⟨z.2, decide_eq_true hs⟩⟩
    · rw [if_neg hs]
      refine ⟨fun z => absurd z.2 ?_, fun z => absurd z.1 hs⟩
      rw [gb_31 s (gb_lt z.2)]
      simp [hs]
  · intro f t x ht K ih
    refine br_f (nI_ge ht (by decide)) ?_
    refine pk_loop (fun f2 r (x : Int32) => wX_kindsMadeFrom_12 post (wX_kindsMadeFrom_4 post rs wl az rk rl ry wd fd fo sg st re ag li fw bg le ls f) (nI t) rs wl az rk rl ry wd fd fo sg st re ag li fw bg le ls f2 x (nI r)) (fun r x => gx_K g lw given (16 * t + r) x) 16 0 x (by omega) K ?_ ?_
    · intro f2 x2 K2
      exact br_t (nI_le (Nat.le_refl _) (by decide)) (nm_r (nI_1 t) (ih x2 (by rw [Nat.mul_succ]; exact K2)))
    · intro f2 r x2 hr K2 ih2
      have S := gx_Ks H.1 V K2 (r := r) (by omega)
      refine br_f (nI_ge hr (by decide)) (gx_hasRule H hr (fun hp => br_f (by decide) (gx_isWithin H hr (fun hw => br_f (by decide) (And.intro (gx_in hr (by decide)) (nm_r (e' := x2 ||| ((1 : Int32) <<< (nI (gm_k g r) &&& 31))) (by rw [gx_Gk H hr]) (nm_r (nI_1 r) (ih2 _ (S.1 hp hw)))))) (fun hw => br_t rfl (nm_r (nI_1 r) (ih2 _ (S.2 (Or.inr hw))))))) (fun hp => br_t rfl (nm_r (nI_1 r) (ih2 _ (S.2 (Or.inl hp))))))
theorem gx_handUp {post : SX → Prop} (H : gx_G g rs rk rl ry) {r d : Nat} (hr : r < 16) (hd : d ≤ 3) (h : ∀ sg', (∀ s, s < 8 → ∀ k, bt (sg' s) k = true ↔ bt (sg s) k = true ∨ (k = gm_k g r ∧ bt (sg s) (gm_y g r d) = true)) → post (rs, wl, az, rk, rl, ry, wd, fd, fo, sg', st, re, ag, li, fw, bg, le, ls)) : wpX_handUp post (rs, wl, az, rk, rl, ry, wd, fd, fo, sg, st, re, ag, li, fw, bg, le, ls) (nI r) (nI d) := by
  have hk := H.1.1 r
  have hy := H.1.2.2 r d
  unfold wpX_handUp
  refine gx_symbolAt H hr hd ?_
  refine pk_loop (fun f s (a : Nat → Int32) => wX_handUp_10 post (nI r) (nI (gm_y g r d)) rs wl az f (nI s) rk rl ry wd fd fo a st re ag li fw bg le ls) (fun s a => ∀ x, x < 8 → ∀ k, bt (a x) k = true ↔ bt (sg x) k = true ∨ (x < s ∧ k = gm_k g r ∧ bt (sg x) (gm_y g r d) = true)) 8 0 sg (by omega) (fun x _ k => ⟨Or.inl, fun z => z.resolve_right fun y => absurd y.1 (by omega)⟩) ?_ ?_
  · intro f a hI
    refine br_t (nI_le (Nat.le_refl _) (by decide)) (h a fun s hs k => ?_)
    rw [hI s hs k]
    exact ⟨fun z => z.imp id fun y => y.2, fun z => z.imp id fun y => ⟨hs, y⟩⟩
  · intro f s a hs hI ih
    have hsame : ∀ k, bt (a s) k = true ↔ bt (sg s) k = true := fun k => by
      rw [hI s hs k]
      exact ⟨fun z => z.resolve_right fun y => absurd y.1 (by omega), Or.inl⟩
    refine br_f (nI_ge hs (by decide)) (And.intro (gx_in hs (by decide)) ?_)
    rw [gx_cl (by omega)]
    refine gx_bit (by omega) (fun hb => And.intro (gx_in hs (by decide)) (And.intro (gx_in hr (by decide)) (And.intro (gx_in hs (by decide)) (nm_r (e' := upd a s (a s ||| ((1 : Int32) <<< (nI (gm_k g r) &&& 31)))) (by rw [gx_Gk H hr]) (nm_r (nI_1 s) (ih _ ?_)))))) (fun hb => nm_r (nI_1 s) (ih _ ?_))
    · intro x hx k
      rw [gb_u]
      by_cases e : x = s
      · subst e
        rw [if_pos rfl, gb_add _ (by omega), hsame k]
        have hb2 := (hsame _).mp hb
        exact ⟨fun z => z.imp id fun y => ⟨Nat.lt_succ_self _, y, hb2⟩, fun z => z.imp id fun y => y.2.1⟩
      · rw [if_neg e, hI x hx k]
        exact ⟨fun z => z.imp id fun y => ⟨by omega, y.2⟩, fun z => z.imp id fun y => ⟨by omega, y.2⟩⟩
    · intro x hx k
      rw [hI x hx k]
      refine ⟨fun z => z.imp id fun y => ⟨by omega, y.2⟩, fun z => z.imp id fun y => ⟨?_, y.2⟩⟩
      by_cases e : x = s
      · subst e
        rw [← hsame, hb] at y
        exact absurd y.2.2 (by decide)
      · omega
def gx_U (g : gm_G) (c : Nat) (sg : Nat → Int32) : Prop := ∀ s, s < 8 → ∀ k, bt (sg s) k = true ↔ gs_u g s c k
theorem gx_us {c s k p : Nat} (h : c % 64 = p) : gs_u g s (c + 1) k ↔ gs_u g s c k ∨ (k = gm_k g (p / 4) ∧ gs_a g p ∧ gs_u g s c (gm_y g (p / 4) (p % 4))) := by
  subst h
  exact Iff.rfl
theorem gx_rem4 (p : Nat) (h : p < 100000) : nI p - nI p / 4 * 4 = nI (p % 4) := pk_rem (d := 4) (by omega) (by decide) (by decide)
theorem gx_div4 (p : Nat) (h : p < 100000) : nI p / 4 = nI (p / 4) := pk_div (d := 4) (by omega) (by decide) (by decide)
theorem gx_findSingles {post : SX → Prop} (H : gx_G g rs rk rl ry) {e : Int32} (E : gx_E g 100000 e) (h : ∀ sg', gx_U g 320 sg' → post (rs, wl, az, rk, rl, ry, wd, fd, fo, sg', st, re, ag, li, fw, bg, le, ls)) : wpX_findSingles post (rs, wl, az, rk, rl, ry, wd, fd, fo, sg, st, re, ag, li, fw, bg, le, ls) e := by
  have hbe : ∀ s, bt e s = true ↔ gn_e g s := E
  refine pk_loop (fun f s (a : Nat → Int32) => wX_findSingles_2 post e rs wl az f (nI s) rk rl ry wd fd fo a st re ag li fw bg le ls) (fun s a => ∀ x, x < s → ∀ k, bt (a x) k = true ↔ k = x) 8 0 sg (by omega) lt_0 ?_ ?_
  · intro f a hI
    refine br_t (nI_le (Nat.le_refl _) (by decide)) ?_
    refine pk_loop (fun f t (a : Nat → Int32) => wX_findSingles_25 post e f (nI t) rs wl az rk rl ry wd fd fo a st re ag li fw bg le ls) (fun t a => gx_U g (64 * t) a) 5 0 a (by omega) hI ?_ ?_
    · intro f2 a2 U
      exact br_t (nI_le (Nat.le_refl _) (by decide)) (h a2 U)
    · intro f2 t a2 ht U ih
      refine br_f (nI_ge ht (by decide)) ?_
      refine pk_loop (fun f3 p (a : Nat → Int32) => wX_findSingles_32 post (wX_findSingles_25 post e f2) e (nI t) f3 (nI p) rs wl az rk rl ry wd fd fo a st re ag li fw bg le ls) (fun p a => gx_U g (64 * t + p) a) 64 0 a2 (by omega) U ?_ ?_
      · intro f3 a3 U3
        exact br_t (nI_le (Nat.le_refl _) (by decide)) (nm_r (nI_1 t) (ih a3 (by rw [Nat.mul_succ]; exact U3)))
      · intro f3 p a3 hp U3 ih3
        have hr : p / 4 < 16 := by omega
        have hm : (64 * t + p) % 64 = p := by omega
        have hno : ¬ gs_a g p → gx_U g (64 * t + p + 1) a3 := fun hn s hs k => by
          rw [U3 s hs k, gx_us hm]
          exact ⟨Or.inl, fun z => z.resolve_right fun y => hn y.2.1⟩
        refine br_f (nI_ge hp (by decide)) (And.intro (by decide) (nm_r (gx_div4 p (by omega)) (And.intro (by decide) (nm_r (gx_rem4 p (by omega)) (gx_hasRule H hr (fun hpr => br_f (by decide) (And.intro (gx_in hr (by decide)) ?_)) (fun hpr => br_t rfl (nm_r (nI_1 p) (ih3 a3 (hno fun z => ?_)))))))))
        · rw [gx_Gl H hr]
          have h3 := H.1.2.1 (p / 4)
          refine pk_le (gm_l g (p / 4)) (p % 4) (fun hl => nm_r (nI_1 p) (ih3 a3 (hno fun z => absurd z.2.1 (by omega)))) (fun hl => gx_others H hr (by omega) (fun ho => br_f (by decide) (gx_handUp H hr (by omega) fun sg' hs => nm_r (nI_1 p) (ih3 sg' ?_))) (fun ho => br_t rfl (nm_r (nI_1 p) (ih3 a3 (hno fun z => ho fun x hx hne => (hbe _).mpr (z.2.2 x hx hne))))))
          intro s hs8 k
          have ha : gs_a g p := ⟨hpr, hl, fun x hx hne => (hbe _).mp (ho x hx hne)⟩
          rw [hs s hs8 k, U3 s hs8 k, U3 s hs8, ← Nat.add_assoc, gx_us hm]
          exact ⟨fun z => z.imp id fun y => ⟨y.1, ha, y.2⟩, fun z => z.imp id fun y => ⟨y.1, y.2.2⟩⟩
        · rw [z.1] at hpr
          exact absurd hpr (by decide)
  · intro f s a hs hI ih
    refine br_f (nI_ge hs (by decide)) (And.intro (gx_in hs (by decide)) (nm_r (e' := upd a s ((1 : Int32) <<< (nI s &&& 31))) (by rw [gx_cl (by omega)]) (nm_r (nI_1 s) (ih _ ?_))))
    intro x hx k
    rw [gb_u]
    by_cases z : x = s
    · rw [if_pos z, gb_sg (by omega), z]
    · rw [if_neg z]
      exact hI x (by omega) k
theorem gx_withSingles {post : Int32 → Prop} {x : Int32} (h : ∀ e, (∀ k, bt e k = true ↔ ∃ s, s < 8 ∧ bt x s = true ∧ bt (sg s) k = true) → post e) : wpX_withSingles post (rs, wl, az, rk, rl, ry, wd, fd, fo, sg, st, re, ag, li, fw, bg, le, ls) x := by
  refine pk_loop (fun f s (a : Int32) => wX_withSingles_4 post x rs wl az rk rl ry wd fd fo sg st re ag li fw bg le ls f a (nI s)) (fun s a => ∀ k, bt a k = true ↔ ∃ c, c < s ∧ bt x c = true ∧ bt (sg c) k = true) 8 0 0 (by omega) (fun k => by rw [b_0]; exact ⟨fun z => absurd z (by decide), fun ⟨c, z, _⟩ => absurd z (by omega)⟩) ?_ ?_
  · intro f a hI
    exact br_t (nI_le (Nat.le_refl _) (by decide)) (h a hI)
  · intro f s a hs hI ih
    refine br_f (nI_ge hs (by decide)) (gx_bit (by omega) (fun hb => And.intro (gx_in hs (by decide)) (nm_r (e' := a ||| sg s) (by rw [gx_cl (by omega)]) (nm_r (nI_1 s) (ih _ fun k => ?_)))) (fun hb => nm_r (nI_1 s) (ih _ fun k => ?_)))
    · rw [gb_or, hI k]
      constructor
      · intro z
        rcases z with ⟨c, h1, h2⟩ | z
        · exact ⟨c, by omega, h2⟩
        · exact ⟨s, by omega, hb, z⟩
      · intro ⟨c, h1, h2, h3⟩
        by_cases e : c = s
        · subst e; exact Or.inr h3
        · exact Or.inl ⟨c, by omega, h2, h3⟩
    · rw [hI k]
      constructor
      · intro ⟨c, h1, h2⟩
        exact ⟨c, by omega, h2⟩
      · intro ⟨c, h1, h2, h3⟩
        by_cases e : c = s
        · subst e; rw [hb] at h2; exact absurd h2 (by decide)
        · exact ⟨c, by omega, h2, h3⟩
end xbase
end
section
/-! X on a table: pairFits, fits, kindsFitting -/
section xtab_found
variable {rs wl az : Int32} {rk rl ry wd fd fo sg st re ag li fw bg le ls : Nat → Int32} {g : gm_G} {n : Nat}
theorem gx_pairFits_found {post : Int32 → Prop} (hn : n ≤ 10) {a b i j : Nat} (ha : a < 8) (hb : b < 8) (hij : i ≤ j) (hj : j ≤ n) (h1 : (∃ m, gt_T fd n a i m ∧ gt_T fd n b m j) → post 1) (h0 : (¬ ∃ m, gt_T fd n a i m ∧ gt_T fd n b m j) → post 0) : wpX_pairFits__found post (rs, wl, az, rk, rl, ry, wd, fd, fo, sg, st, re, ag, li, fw, bg, le, ls) (nI a) (nI b) (nI i) (nI j) := by
  refine pk_loop (fun f m (_ : Unit) => wX_pairFits__found_3 post (nI a) (nI b) (nI i) (nI j) rs wl az rk rl ry wd fd fo sg st re ag li fw bg le ls f (nI m)) (fun m _ => i ≤ m ∧ ∀ m', m' < m → ¬ (gt_T fd n a i m' ∧ gt_T fd n b m' j)) (j + 1) i () (by omega) ⟨Nat.le_refl _, fun m' hm z => absurd z.1.1 (by omega)⟩ ?_ ?_
  · intro f _ ⟨_, hI⟩
    exact br_t (nI_lt (Nat.lt_succ_self j) (by omega)) (h0 fun ⟨m, z⟩ => hI m (by have := z.2.1; omega) z)
  · intro f m _ hm ⟨him, hI⟩ ih
    refine br_f (nI_nlt (by omega) (by omega)) ?_
    rw [gx_c11, gx_c11, gx_cl (by omega), gx_cl (by omega)]
    refine And.intro (gx_in (by omega) (by decide)) (And.intro (gx_in (by omega) (by decide)) (nm_e ?_))
    rw [gb_and1, b_and, b_sshr a (by omega) _ (by decide : (0 : Nat) < 32), b_sshr b (by omega) _ (by decide : (0 : Nat) < 32), if_pos (by omega), if_pos (by omega), Nat.add_zero, Nat.add_zero]
    refine br_c (fun z => nm_r (nI_1 m) (ih () ⟨by omega, lt_s hI fun y => ?_⟩)) (fun z => h1 ⟨m, ?_⟩)
    · rw [y.1.2.2, y.2.2.2] at z
      exact absurd z (by decide)
    · have y := ts_nf z
      rw [Bool.and_eq_true] at y
      exact ⟨⟨him, by omega, y.1⟩, ⟨by omega, hj, y.2⟩⟩
theorem gx_fits105_found {post : Int32 → Prop} (hn : n ≤ 10) {a b c i j : Nat} (ha : a < 8) (hb : b < 8) (hc : c < 8) (hij : i ≤ j) (hj : j ≤ n) (h1 : (∃ m m', gt_T fd n a i m ∧ gt_T fd n b m m' ∧ gt_T fd n c m' j) → post 1) (h0 : (¬ ∃ m m', gt_T fd n a i m ∧ gt_T fd n b m m' ∧ gt_T fd n c m' j) → post 0) : ∃ f, wX_fits__found_105 post (nI i) (nI j) (nI a) (nI b) (nI c) rs wl az rk rl ry wd fd fo sg st re ag li fw bg le ls f (nI i) := by
  refine pk_loop (fun f m (_ : Unit) => wX_fits__found_105 post (nI i) (nI j) (nI a) (nI b) (nI c) rs wl az rk rl ry wd fd fo sg st re ag li fw bg le ls f (nI m)) (fun m _ => i ≤ m ∧ ∀ x, x < m → ¬ ∃ m', gt_T fd n a i x ∧ gt_T fd n b x m' ∧ gt_T fd n c m' j) (j + 1) i () (by omega) ⟨Nat.le_refl _, fun m' hm ⟨_, z⟩ => absurd z.1.1 (by omega)⟩ ?_ ?_
  · intro f _ ⟨_, hI⟩
    exact br_t (nI_lt (Nat.lt_succ_self j) (by omega)) (h0 fun ⟨m, m', z⟩ => hI m (by have := z.2.1.1; have := z.2.2.1; omega) ⟨m', z⟩)
  · intro f m _ hm ⟨him, hI⟩ ih
    refine br_f (nI_nlt (by omega) (by omega)) ?_
    rw [gx_c11, gx_cl (by omega)]
    refine And.intro (gx_in (by omega) (by decide)) (gx_bit (by omega) (fun y => br_f (by decide) (gx_pairFits_found hn hb hc (by omega) hj (fun ⟨m', z⟩ => br_f (by decide) (h1 ⟨m, m', ⟨him, by omega, y⟩, z⟩)) (fun z => br_t rfl (nm_r (nI_1 m) (ih () ⟨by omega, lt_s hI fun ⟨m', x⟩ => z ⟨m', x.2⟩⟩))))) (fun y => br_t rfl (nm_r (nI_1 m) (ih () ⟨by omega, lt_s hI fun ⟨m', x⟩ => ?_⟩))))
    rw [x.1.2.2] at y
    exact absurd y (by decide)
theorem gx_fits_found {post : Int32 → Prop} (H : gx_G g rs rk rl ry) (hn : n ≤ 10) {r i j : Nat} (hr : r < 16) (hij : i ≤ j) (hj : j ≤ n) (h1 : gm_q g (gt_T fd n) r (gm_l g r) i j → post 1) (h0 : ¬ gm_q g (gt_T fd n) r (gm_l g r) i j → post 0) : wpX_fits__found post (rs, wl, az, rk, rl, ry, wd, fd, fo, sg, st, re, ag, li, fw, bg, le, ls) (nI r) (nI i) (nI j) := by
  have h3 := H.1.2.1 r
  have h8 := H.1.2.2 r
  unfold wpX_fits__found
  refine gx_symbolAt H hr (d := 0) (by decide) (gx_symbolAt H hr (d := 1) (by decide) (gx_symbolAt H hr (d := 2) (by decide) (And.intro (gx_in hr (by decide)) (nm_r (gx_Gl H hr) ?_))))
  refine br_f (nI_pos (by omega)) (pk_lt 2 (gm_l g r) (fun hl => ?_) (fun hl => ?_))
  · have e : gm_l g r = 3 := by omega
    rw [e, gm_q3] at h1 h0
    exact gx_fits105_found hn (h8 0) (h8 1) (h8 2) hij hj h1 h0
  · refine pk_eq (gm_l g r) 0 (fun e => ?_) (fun e => ?_)
    · rw [e] at h1 h0
      exact pk_eq i j h1 h0
    · refine pk_eq (gm_l g r) 1 (fun e1 => ?_) (fun e1 => ?_)
      · rw [e1, gm_q1] at h1 h0
        rw [gx_c11, gx_cl (by omega)]
        have := h8 0
        refine And.intro (gx_in (by omega) (by decide)) (gx_bit (by omega) (fun y => h1 ⟨hij, hj, y⟩) (fun y => h0 fun z => ?_))
        rw [z.2.2] at y
        exact absurd y (by decide)
      · have e2 : gm_l g r = 2 := by omega
        refine pk_eq (gm_l g r) 2 (fun _ => ?_) (fun z => absurd e2 z)
        rw [e2, gm_q2] at h1 h0
        exact gx_pairFits_found hn (h8 0) (h8 1) hij hj (fun z => And.intro rfl (h1 z)) (fun z => And.intro rfl (h0 z))
theorem gx_kindsFitting_found {post : Int32 → Prop} (H : gx_G g rs rk rl ry) (hn : n ≤ 10) {i j : Nat} (hij : i ≤ j) (hj : j ≤ n) (h : ∀ e, (∀ s, bt e s = true ↔ ∃ r, r < 16 ∧ gm_p g r = true ∧ gm_q g (gt_T fd n) r (gm_l g r) i j ∧ s = gm_k g r) → post e) : wpX_kindsFitting__found post (rs, wl, az, rk, rl, ry, wd, fd, fo, sg, st, re, ag, li, fw, bg, le, ls) (nI i) (nI j) := by
  refine pk_loop (fun f r (a : Int32) => wX_kindsFitting__found_6 post (nI i) (nI j) rs wl az rk rl ry wd fd fo sg st re ag li fw bg le ls f a (nI r)) (fun r a => ∀ s, bt a s = true ↔ ∃ c, c < r ∧ gm_p g c = true ∧ gm_q g (gt_T fd n) c (gm_l g c) i j ∧ s = gm_k g c) 16 0 0 (by omega) (fun s => by rw [b_0]; exact ⟨fun z => absurd z (by decide), fun ⟨c, z, _⟩ => absurd z (by omega)⟩) ?_ ?_
  · intro f a hI
    exact br_t (nI_le (Nat.le_refl _) (by decide)) (h a hI)
  · intro f r a hr hI ih
    have hk := H.1.1 r
    have hno : (gm_p g r = true → ¬ gm_q g (gt_T fd n) r (gm_l g r) i j) → ∀ s, bt a s = true ↔ ∃ c, c < r + 1 ∧ gm_p g c = true ∧ gm_q g (gt_T fd n) c (gm_l g c) i j ∧ s = gm_k g c := by
      intro hq s
      rw [hI s]
      constructor
      · intro ⟨c, z, y⟩
        exact ⟨c, by omega, y⟩
      · intro ⟨c, z, y⟩
        by_cases e : c = r
        · subst e; exact absurd y.2.1 (hq y.1)
        · exact ⟨c, by omega, y⟩
    refine br_f (nI_ge hr (by decide)) (gx_hasRule H hr (fun hp => br_f (by decide) (gx_fits_found H hn hr hij hj (fun hq => br_f (by decide) (And.intro (gx_in hr (by decide)) (nm_r (e' := a ||| ((1 : Int32) <<< (nI (gm_k g r) &&& 31))) (by rw [gx_Gk H hr]) (nm_r (nI_1 r) (ih _ fun s => ?_))))) (fun hq => br_t rfl (nm_r (nI_1 r) (ih _ (hno fun _ => hq)))))) (fun hp => br_t rfl (nm_r (nI_1 r) (ih _ (hno fun z => by rw [z] at hp; exact absurd hp (by decide))))))
    rw [gb_add a (by omega), hI s]
    constructor
    · intro z
      rcases z with ⟨c, z, y⟩ | z
      · exact ⟨c, by omega, y⟩
      · exact ⟨r, by omega, hp, hq, z⟩
    · intro ⟨c, z, y⟩
      by_cases e : c = r
      · subst e; exact Or.inr y.2.2
      · exact Or.inl ⟨c, by omega, y⟩
end xtab_found

/-! X on a table: pairFits, fits, kindsFitting -/
section xtab_foundByOther
variable {rs wl az : Int32} {rk rl ry wd fd fo sg st re ag li fw bg le ls : Nat → Int32} {g : gm_G} {n : Nat}
theorem gx_pairFits_foundByOther {post : Int32 → Prop} (hn : n ≤ 10) {a b i j : Nat} (ha : a < 8) (hb : b < 8) (hij : i ≤ j) (hj : j ≤ n) (h1 : (∃ m, gt_T fo n a i m ∧ gt_T fo n b m j) → post 1) (h0 : (¬ ∃ m, gt_T fo n a i m ∧ gt_T fo n b m j) → post 0) : wpX_pairFits__foundByOther post (rs, wl, az, rk, rl, ry, wd, fd, fo, sg, st, re, ag, li, fw, bg, le, ls) (nI a) (nI b) (nI i) (nI j) := by
  refine pk_loop (fun f m (_ : Unit) => wX_pairFits__foundByOther_3 post (nI a) (nI b) (nI i) (nI j) rs wl az rk rl ry wd fd fo sg st re ag li fw bg le ls f (nI m)) (fun m _ => i ≤ m ∧ ∀ m', m' < m → ¬ (gt_T fo n a i m' ∧ gt_T fo n b m' j)) (j + 1) i () (by omega) ⟨Nat.le_refl _, fun m' hm z => absurd z.1.1 (by omega)⟩ ?_ ?_
  · intro f _ ⟨_, hI⟩
    exact br_t (nI_lt (Nat.lt_succ_self j) (by omega)) (h0 fun ⟨m, z⟩ => hI m (by have := z.2.1; omega) z)
  · intro f m _ hm ⟨him, hI⟩ ih
    refine br_f (nI_nlt (by omega) (by omega)) ?_
    rw [gx_c11, gx_c11, gx_cl (by omega), gx_cl (by omega)]
    refine And.intro (gx_in (by omega) (by decide)) (And.intro (gx_in (by omega) (by decide)) (nm_e ?_))
    rw [gb_and1, b_and, b_sshr a (by omega) _ (by decide : (0 : Nat) < 32), b_sshr b (by omega) _ (by decide : (0 : Nat) < 32), if_pos (by omega), if_pos (by omega), Nat.add_zero, Nat.add_zero]
    refine br_c (fun z => nm_r (nI_1 m) (ih () ⟨by omega, lt_s hI fun y => ?_⟩)) (fun z => h1 ⟨m, ?_⟩)
    · rw [y.1.2.2, y.2.2.2] at z
      exact absurd z (by decide)
    · have y := ts_nf z
      rw [Bool.and_eq_true] at y
      exact ⟨⟨him, by omega, y.1⟩, ⟨by omega, hj, y.2⟩⟩
theorem gx_fits105_foundByOther {post : Int32 → Prop} (hn : n ≤ 10) {a b c i j : Nat} (ha : a < 8) (hb : b < 8) (hc : c < 8) (hij : i ≤ j) (hj : j ≤ n) (h1 : (∃ m m', gt_T fo n a i m ∧ gt_T fo n b m m' ∧ gt_T fo n c m' j) → post 1) (h0 : (¬ ∃ m m', gt_T fo n a i m ∧ gt_T fo n b m m' ∧ gt_T fo n c m' j) → post 0) : ∃ f, wX_fits__foundByOther_105 post (nI i) (nI j) (nI a) (nI b) (nI c) rs wl az rk rl ry wd fd fo sg st re ag li fw bg le ls f (nI i) := by
  refine pk_loop (fun f m (_ : Unit) => wX_fits__foundByOther_105 post (nI i) (nI j) (nI a) (nI b) (nI c) rs wl az rk rl ry wd fd fo sg st re ag li fw bg le ls f (nI m)) (fun m _ => i ≤ m ∧ ∀ x, x < m → ¬ ∃ m', gt_T fo n a i x ∧ gt_T fo n b x m' ∧ gt_T fo n c m' j) (j + 1) i () (by omega) ⟨Nat.le_refl _, fun m' hm ⟨_, z⟩ => absurd z.1.1 (by omega)⟩ ?_ ?_
  · intro f _ ⟨_, hI⟩
    exact br_t (nI_lt (Nat.lt_succ_self j) (by omega)) (h0 fun ⟨m, m', z⟩ => hI m (by have := z.2.1.1; have := z.2.2.1; omega) ⟨m', z⟩)
  · intro f m _ hm ⟨him, hI⟩ ih
    refine br_f (nI_nlt (by omega) (by omega)) ?_
    rw [gx_c11, gx_cl (by omega)]
    refine And.intro (gx_in (by omega) (by decide)) (gx_bit (by omega) (fun y => br_f (by decide) (gx_pairFits_foundByOther hn hb hc (by omega) hj (fun ⟨m', z⟩ => br_f (by decide) (h1 ⟨m, m', ⟨him, by omega, y⟩, z⟩)) (fun z => br_t rfl (nm_r (nI_1 m) (ih () ⟨by omega, lt_s hI fun ⟨m', x⟩ => z ⟨m', x.2⟩⟩))))) (fun y => br_t rfl (nm_r (nI_1 m) (ih () ⟨by omega, lt_s hI fun ⟨m', x⟩ => ?_⟩))))
    rw [x.1.2.2] at y
    exact absurd y (by decide)
theorem gx_fits_foundByOther {post : Int32 → Prop} (H : gx_G g rs rk rl ry) (hn : n ≤ 10) {r i j : Nat} (hr : r < 16) (hij : i ≤ j) (hj : j ≤ n) (h1 : gm_q g (gt_T fo n) r (gm_l g r) i j → post 1) (h0 : ¬ gm_q g (gt_T fo n) r (gm_l g r) i j → post 0) : wpX_fits__foundByOther post (rs, wl, az, rk, rl, ry, wd, fd, fo, sg, st, re, ag, li, fw, bg, le, ls) (nI r) (nI i) (nI j) := by
  have h3 := H.1.2.1 r
  have h8 := H.1.2.2 r
  unfold wpX_fits__foundByOther
  refine gx_symbolAt H hr (d := 0) (by decide) (gx_symbolAt H hr (d := 1) (by decide) (gx_symbolAt H hr (d := 2) (by decide) (And.intro (gx_in hr (by decide)) (nm_r (gx_Gl H hr) ?_))))
  refine br_f (nI_pos (by omega)) (pk_lt 2 (gm_l g r) (fun hl => ?_) (fun hl => ?_))
  · have e : gm_l g r = 3 := by omega
    rw [e, gm_q3] at h1 h0
    exact gx_fits105_foundByOther hn (h8 0) (h8 1) (h8 2) hij hj h1 h0
  · refine pk_eq (gm_l g r) 0 (fun e => ?_) (fun e => ?_)
    · rw [e] at h1 h0
      exact pk_eq i j h1 h0
    · refine pk_eq (gm_l g r) 1 (fun e1 => ?_) (fun e1 => ?_)
      · rw [e1, gm_q1] at h1 h0
        rw [gx_c11, gx_cl (by omega)]
        have := h8 0
        refine And.intro (gx_in (by omega) (by decide)) (gx_bit (by omega) (fun y => h1 ⟨hij, hj, y⟩) (fun y => h0 fun z => ?_))
        rw [z.2.2] at y
        exact absurd y (by decide)
      · have e2 : gm_l g r = 2 := by omega
        refine pk_eq (gm_l g r) 2 (fun _ => ?_) (fun z => absurd e2 z)
        rw [e2, gm_q2] at h1 h0
        exact gx_pairFits_foundByOther hn (h8 0) (h8 1) hij hj (fun z => And.intro rfl (h1 z)) (fun z => And.intro rfl (h0 z))
theorem gx_kindsFitting_foundByOther {post : Int32 → Prop} (H : gx_G g rs rk rl ry) (hn : n ≤ 10) {i j : Nat} (hij : i ≤ j) (hj : j ≤ n) (h : ∀ e, (∀ s, bt e s = true ↔ ∃ r, r < 16 ∧ gm_p g r = true ∧ gm_q g (gt_T fo n) r (gm_l g r) i j ∧ s = gm_k g r) → post e) : wpX_kindsFitting__foundByOther post (rs, wl, az, rk, rl, ry, wd, fd, fo, sg, st, re, ag, li, fw, bg, le, ls) (nI i) (nI j) := by
  refine pk_loop (fun f r (a : Int32) => wX_kindsFitting__foundByOther_6 post (nI i) (nI j) rs wl az rk rl ry wd fd fo sg st re ag li fw bg le ls f a (nI r)) (fun r a => ∀ s, bt a s = true ↔ ∃ c, c < r ∧ gm_p g c = true ∧ gm_q g (gt_T fo n) c (gm_l g c) i j ∧ s = gm_k g c) 16 0 0 (by omega) (fun s => by rw [b_0]; exact ⟨fun z => absurd z (by decide), fun ⟨c, z, _⟩ => absurd z (by omega)⟩) ?_ ?_
  · intro f a hI
    exact br_t (nI_le (Nat.le_refl _) (by decide)) (h a hI)
  · intro f r a hr hI ih
    have hk := H.1.1 r
    have hno : (gm_p g r = true → ¬ gm_q g (gt_T fo n) r (gm_l g r) i j) → ∀ s, bt a s = true ↔ ∃ c, c < r + 1 ∧ gm_p g c = true ∧ gm_q g (gt_T fo n) c (gm_l g c) i j ∧ s = gm_k g c := by
      intro hq s
      rw [hI s]
      constructor
      · intro ⟨c, z, y⟩
        exact ⟨c, by omega, y⟩
      · intro ⟨c, z, y⟩
        by_cases e : c = r
        · subst e; exact absurd y.2.1 (hq y.1)
        · exact ⟨c, by omega, y⟩
    refine br_f (nI_ge hr (by decide)) (gx_hasRule H hr (fun hp => br_f (by decide) (gx_fits_foundByOther H hn hr hij hj (fun hq => br_f (by decide) (And.intro (gx_in hr (by decide)) (nm_r (e' := a ||| ((1 : Int32) <<< (nI (gm_k g r) &&& 31))) (by rw [gx_Gk H hr]) (nm_r (nI_1 r) (ih _ fun s => ?_))))) (fun hq => br_t rfl (nm_r (nI_1 r) (ih _ (hno fun _ => hq)))))) (fun hp => br_t rfl (nm_r (nI_1 r) (ih _ (hno fun z => by rw [z] at hp; exact absurd hp (by decide))))))
    rw [gb_add a (by omega), hI s]
    constructor
    · intro z
      rcases z with ⟨c, z, y⟩ | z
      · exact ⟨c, by omega, y⟩
      · exact ⟨r, by omega, hp, hq, z⟩
    · intro ⟨c, z, y⟩
      by_cases e : c = r
      · subst e; exact Or.inr y.2.2
      · exact Or.inl ⟨c, by omega, y⟩
end xtab_foundByOther
end
section
section xput_word_found
variable {rs wl az : Int32} {rk rl ry wd fd fo sg st re ag li fw bg le ls : Nat → Int32} {w : Nat → Nat} {n : Nat}
theorem gx_putLetters_word_found {post : SX → Prop} (hw : ∀ i, i < n → wd i = nI (w i)) (hw3 : ∀ i, w i < 3) (hn : n ≤ 10) (h : ∀ t, gt_P w n t → post (rs, wl, az, rk, rl, ry, wd, t, fo, sg, st, re, ag, li, fw, bg, le, ls)) : wpX_putLetters__word_found post (rs, wl, az, rk, rl, ry, wd, fd, fo, sg, st, re, ag, li, fw, bg, le, ls) (nI n) := by
  refine pk_loop (fun f c (t : Nat → Int32) => wX_putLetters__word_found_2 post (nI n) rs wl az f (nI c) rk rl ry wd t fo sg st re ag li fw bg le ls) (fun c t => ∀ x, x < c → t x = 0) 121 0 fd (by omega) lt_0 ?_ ?_
  · intro f t ht
    refine br_t (nI_le (Nat.le_refl _) (by decide)) ?_
    refine pk_loop (fun f i (t : Nat → Int32) => wX_putLetters__word_found_20 post (nI n) rs wl az f (nI i) rk rl ry wd t fo sg st re ag li fw bg le ls) (fun i t => ∀ s a b, a ≤ 10 → b ≤ 10 → (bt (t (a * 11 + b)) s = true ↔ a < i ∧ b = a + 1 ∧ s = 5 + w a)) n 0 t (by omega) (fun s a b ha hb => by rw [ht _ (by omega), b_0]; exact ⟨fun z => absurd z (by decide), fun z => absurd z.1 (by omega)⟩) ?_ ?_
    · intro f2 t2 hI
      exact br_t (nI_le (Nat.le_refl _) (by omega)) (h t2 hI)
    · intro f2 i t2 hi hI ih
      have h3 := hw3 i
      refine br_f (nI_ge hi (by omega)) (And.intro (gx_in (by omega) (by decide)) ?_)
      rw [gx_c11, nI_1, gx_cl (by omega), gx_cl (by omega)]
      refine And.intro (gx_in (by omega) (by decide)) (nm_r (e' := upd t2 (i * 11 + i + 1) ((1 : Int32) <<< (nI (5 + w i) &&& 31))) (by rw [hw i hi, gx_5]) (nm_r (nI_1 i) (ih _ fun s a b ha hb => ?_)))
      rw [gb_u]
      by_cases e : a * 11 + b = i * 11 + i + 1
      · have e1 : a = i := by omega
        have e2 : b = i + 1 := by omega
        rw [if_pos e, gb_sg (by omega), e1, e2]
        exact ⟨fun z => ⟨by omega, rfl, z⟩, fun z => z.2.2⟩
      · rw [if_neg e, hI s a b ha hb]
        refine ⟨fun z => ⟨by omega, z.2⟩, fun z => ⟨?_, z.2⟩⟩
        have := z.2.1
        omega
  · intro f c t hc hI ih
    refine br_f (nI_ge hc (by decide)) (And.intro (gx_in hc (by decide)) (nm_r (e' := upd t c 0) (by rw [gx_cl (by omega)]) (nm_r (nI_1 c) (ih _ ?_))))
    intro x hx
    rw [gb_u]
    split
    · rfl
    · exact hI x (by omega)
end xput_word_found

section xput_word_foundByOther
variable {rs wl az : Int32} {rk rl ry wd fd fo sg st re ag li fw bg le ls : Nat → Int32} {w : Nat → Nat} {n : Nat}
theorem gx_putLetters_word_foundByOther {post : SX → Prop} (hw : ∀ i, i < n → wd i = nI (w i)) (hw3 : ∀ i, w i < 3) (hn : n ≤ 10) (h : ∀ t, gt_P w n t → post (rs, wl, az, rk, rl, ry, wd, fd, t, sg, st, re, ag, li, fw, bg, le, ls)) : wpX_putLetters__word_foundByOther post (rs, wl, az, rk, rl, ry, wd, fd, fo, sg, st, re, ag, li, fw, bg, le, ls) (nI n) := by
  refine pk_loop (fun f c (t : Nat → Int32) => wX_putLetters__word_foundByOther_2 post (nI n) rs wl az f (nI c) rk rl ry wd fd t sg st re ag li fw bg le ls) (fun c t => ∀ x, x < c → t x = 0) 121 0 fo (by omega) lt_0 ?_ ?_
  · intro f t ht
    refine br_t (nI_le (Nat.le_refl _) (by decide)) ?_
    refine pk_loop (fun f i (t : Nat → Int32) => wX_putLetters__word_foundByOther_20 post (nI n) rs wl az f (nI i) rk rl ry wd fd t sg st re ag li fw bg le ls) (fun i t => ∀ s a b, a ≤ 10 → b ≤ 10 → (bt (t (a * 11 + b)) s = true ↔ a < i ∧ b = a + 1 ∧ s = 5 + w a)) n 0 t (by omega) (fun s a b ha hb => by rw [ht _ (by omega), b_0]; exact ⟨fun z => absurd z (by decide), fun z => absurd z.1 (by omega)⟩) ?_ ?_
    · intro f2 t2 hI
      exact br_t (nI_le (Nat.le_refl _) (by omega)) (h t2 hI)
    · intro f2 i t2 hi hI ih
      have h3 := hw3 i
      refine br_f (nI_ge hi (by omega)) (And.intro (gx_in (by omega) (by decide)) ?_)
      rw [gx_c11, nI_1, gx_cl (by omega), gx_cl (by omega)]
      refine And.intro (gx_in (by omega) (by decide)) (nm_r (e' := upd t2 (i * 11 + i + 1) ((1 : Int32) <<< (nI (5 + w i) &&& 31))) (by rw [hw i hi, gx_5]) (nm_r (nI_1 i) (ih _ fun s a b ha hb => ?_)))
      rw [gb_u]
      by_cases e : a * 11 + b = i * 11 + i + 1
      · have e1 : a = i := by omega
        have e2 : b = i + 1 := by omega
        rw [if_pos e, gb_sg (by omega), e1, e2]
        exact ⟨fun z => ⟨by omega, rfl, z⟩, fun z => z.2.2⟩
      · rw [if_neg e, hI s a b ha hb]
        refine ⟨fun z => ⟨by omega, z.2⟩, fun z => ⟨?_, z.2⟩⟩
        have := z.2.1
        omega
  · intro f c t hc hI ih
    refine br_f (nI_ge hc (by decide)) (And.intro (gx_in hc (by decide)) (nm_r (e' := upd t c 0) (by rw [gx_cl (by omega)]) (nm_r (nI_1 c) (ih _ ?_))))
    intro x hx
    rw [gb_u]
    split
    · rfl
    · exact hI x (by omega)
end xput_word_foundByOther

section xput_list_found
variable {rs wl az : Int32} {rk rl ry wd fd fo sg st re ag li fw bg le ls : Nat → Int32} {w : Nat → Nat} {n : Nat}
theorem gx_putLetters_list_found {post : SX → Prop} (hw : ∀ i, i < n → ls i = nI (w i)) (hw3 : ∀ i, w i < 3) (hn : n ≤ 4) (h : ∀ t, gt_P w n t → post (rs, wl, az, rk, rl, ry, wd, t, fo, sg, st, re, ag, li, fw, bg, le, ls)) : wpX_putLetters__list_found post (rs, wl, az, rk, rl, ry, wd, fd, fo, sg, st, re, ag, li, fw, bg, le, ls) (nI n) := by
  refine pk_loop (fun f c (t : Nat → Int32) => wX_putLetters__list_found_2 post (nI n) rs wl az f (nI c) rk rl ry wd t fo sg st re ag li fw bg le ls) (fun c t => ∀ x, x < c → t x = 0) 121 0 fd (by omega) lt_0 ?_ ?_
  · intro f t ht
    refine br_t (nI_le (Nat.le_refl _) (by decide)) ?_
    refine pk_loop (fun f i (t : Nat → Int32) => wX_putLetters__list_found_20 post (nI n) rs wl az f (nI i) rk rl ry wd t fo sg st re ag li fw bg le ls) (fun i t => ∀ s a b, a ≤ 10 → b ≤ 10 → (bt (t (a * 11 + b)) s = true ↔ a < i ∧ b = a + 1 ∧ s = 5 + w a)) n 0 t (by omega) (fun s a b ha hb => by rw [ht _ (by omega), b_0]; exact ⟨fun z => absurd z (by decide), fun z => absurd z.1 (by omega)⟩) ?_ ?_
    · intro f2 t2 hI
      exact br_t (nI_le (Nat.le_refl _) (by omega)) (h t2 hI)
    · intro f2 i t2 hi hI ih
      have h3 := hw3 i
      refine br_f (nI_ge hi (by omega)) (And.intro (gx_in (by omega) (by decide)) ?_)
      rw [gx_c11, nI_1, gx_cl (by omega), gx_cl (by omega)]
      refine And.intro (gx_in (by omega) (by decide)) (nm_r (e' := upd t2 (i * 11 + i + 1) ((1 : Int32) <<< (nI (5 + w i) &&& 31))) (by rw [hw i hi, gx_5]) (nm_r (nI_1 i) (ih _ fun s a b ha hb => ?_)))
      rw [gb_u]
      by_cases e : a * 11 + b = i * 11 + i + 1
      · have e1 : a = i := by omega
        have e2 : b = i + 1 := by omega
        rw [if_pos e, gb_sg (by omega), e1, e2]
        exact ⟨fun z => ⟨by omega, rfl, z⟩, fun z => z.2.2⟩
      · rw [if_neg e, hI s a b ha hb]
        refine ⟨fun z => ⟨by omega, z.2⟩, fun z => ⟨?_, z.2⟩⟩
        have := z.2.1
        omega
  · intro f c t hc hI ih
    refine br_f (nI_ge hc (by decide)) (And.intro (gx_in hc (by decide)) (nm_r (e' := upd t c 0) (by rw [gx_cl (by omega)]) (nm_r (nI_1 c) (ih _ ?_))))
    intro x hx
    rw [gb_u]
    split
    · rfl
    · exact hI x (by omega)
end xput_list_found
end
section
/-! engine 0 -/
def gt_R (g : gm_G) (w : Nat → Nat) (n : Nat) (t0 : Nat → Int32) (D : Nat → Nat → Prop) (s : Int32 × (Nat → Int32)) : Prop :=
  gt_S g w n s.2 ∧ gt_L w n s.2 ∧ ((s.1 = 0 ∧ s.2 = t0 ∧ ∀ r a b, r < 16 → gm_p g r = true → D a b → a ≤ b → b ≤ n → gm_q g (gt_T t0 n) r (gm_l g r) a b → bt (t0 (a * 11 + b)) (gm_k g r) = true) ∨ (s.1 = 1 ∧ gt_n t0 < gt_n s.2))
theorem gt_Rw {g : gm_G} {w : Nat → Nat} {n : Nat} {t0 : Nat → Int32} {D D' : Nat → Nat → Prop} {s : Int32 × (Nat → Int32)} (h : ∀ a b, a ≤ b → b ≤ n → D' a b → D a b) (I : gt_R g w n t0 D s) : gt_R g w n t0 D' s :=
  ⟨I.1, I.2.1, I.2.2.imp (fun z => ⟨z.1, z.2.1, fun r a b hr hp d h1 h2 => z.2.2 r a b hr hp (h a b h1 h2 d) h1 h2⟩) id⟩
theorem gt_Rs {g : gm_G} (G : gm_ok g) {w : Nat → Nat} {n i j : Nat} {t0 t : Nat → Int32} {D D' : Nat → Nat → Prop} {x e : Int32} (hn : n ≤ 10) (hij : i ≤ j) (hj : j ≤ n) (I : gt_R g w n t0 D (x, t)) (hD : ∀ a b, a ≤ b → b ≤ n → D' a b → D a b ∨ (a = i ∧ b = j))
    (he : ∀ s, bt e s = true ↔ ∃ r, r < 16 ∧ gm_p g r = true ∧ gm_q g (gt_T t n) r (gm_l g r) i j ∧ s = gm_k g r) :
    (x = 0 → (e &&& (t (i * 11 + j) ^^^ (-1))) = 0 → gt_R g w n t0 D' (0, upd t (i * 11 + j) (t (i * 11 + j) ||| e))) ∧
    (x = 0 → ¬ (e &&& (t (i * 11 + j) ^^^ (-1))) = 0 → gt_R g w n t0 D' (1, upd t (i * 11 + j) (t (i * 11 + j) ||| e))) ∧
    (¬ x = 0 → gt_R g w n t0 D' (1, upd t (i * 11 + j) (t (i * 11 + j) ||| e))) := by
  obtain ⟨S, L, A⟩ := I
  have S : gt_S g w n t := S
  have L : gt_L w n t := L
  have S' : gt_S g w n (upd t (i * 11 + j) (t (i * 11 + j) ||| e)) := gt_orS S (by omega) (by omega) fun s hs => by
    obtain ⟨r, hr, hp, hq, e1⟩ := (he s).mp hs
    rw [e1]
    exact gm_mr hr hp hij hj (gm_qm (fun _ _ _ z => gt_sT hn S z) _ _ _ hq)
  have L' : gt_L w n (upd t (i * 11 + j) (t (i * 11 + j) ||| e)) := fun a ha => gt_orM _ _ (L a ha)
  have M : ∀ c s, c < 121 → bt (t c) s = true → bt (upd t (i * 11 + j) (t (i * 11 + j) ||| e) c) s = true := fun c s _ h => gt_orM c s h
  refine ⟨fun hx h0 => ?_, fun hx h1 => ?_, fun hx => ?_⟩
  · rcases A with ⟨_, e2, hC⟩ | ⟨e1, _⟩
    · have e2 : t = t0 := e2
      have e3 : upd t (i * 11 + j) (t (i * 11 + j) ||| e) = t := by rw [gt_or0 h0, gt_up]
      refine ⟨S', L', Or.inl ⟨rfl, e3.trans e2, fun r a b hr hp d h1 h2 hq => ?_⟩⟩
      rcases hD a b h1 h2 d with z | ⟨z1, z2⟩
      · exact hC r a b hr hp z h1 h2 hq
      · rw [z1, z2] at hq ⊢
        rw [← e2] at hq ⊢
        have h4 := (he (gm_k g r)).mpr ⟨r, hr, hp, hq, rfl⟩
        have h5 := congrArg (fun z => bt z (gm_k g r)) (gt_or0 h0)
        rw [← h5, gb_or]
        exact Or.inr h4
    · have e1 : x = 1 := e1
      rw [hx] at e1
      exact absurd e1 (by decide)
  · obtain ⟨s, hs, h3, h4⟩ := (gb_new _ _).mp h1
    obtain ⟨r, _, _, _, e5⟩ := (he s).mp h3
    have hk := G.1 r
    have h6 := gt_nlt M (c := i * 11 + j) (s := s) (by omega) (by omega) h4 (by rw [gb_us rfl, gb_or]; exact Or.inr h3)
    refine ⟨S', L', Or.inr ⟨rfl, ?_⟩⟩
    rcases A with ⟨_, e2, _⟩ | ⟨_, e2⟩
    · have e2 : t = t0 := e2
      rw [← e2]; exact h6
    · exact Nat.lt_trans e2 h6
  · rcases A with ⟨e1, _, _⟩ | ⟨_, e2⟩
    · exact absurd e1 hx
    · exact ⟨S', L', Or.inr ⟨rfl, Nat.lt_of_lt_of_le e2 (gt_nle M)⟩⟩
end
section
section xrounds_found
variable {rs wl az : Int32} {rk rl ry wd fd fo sg st re ag li fw bg le ls : Nat → Int32} {g : gm_G} {w : Nat → Nat} {n : Nat}
theorem gx_byRounds_found {post : SX → Prop} (H : gx_G g rs rk rl ry) (hw : ∀ i, i < n → wd i = nI (w i)) (hw3 : ∀ i, w i < 3) (hn : n ≤ 10) (h : ∀ t, gt_ok g w n t → post (rs, wl, az, rk, rl, ry, wd, t, fo, sg, st, re, ag, li, fw, bg, le, ls)) : wpX_byRounds__word_found post (rs, wl, az, rk, rl, ry, wd, fd, fo, sg, st, re, ag, li, fw, bg, le, ls) (nI n) := by
  unfold wpX_byRounds__word_found
  refine gx_putLetters_word_found hw hw3 hn fun t P => ?_
  refine pk_loop (fun f c (s : Int32 × (Nat → Int32)) => wX_byRounds__word_found_12 post (nI n) rs wl az f s.1 (nI c) rk rl ry wd s.2 fo sg st re ag li fw bg le ls) (fun c s => gt_S g w n s.2 ∧ gt_L w n s.2 ∧ ((s.1 = 1 ∧ c ≤ gt_n s.2) ∨ (s.1 = 0 ∧ gt_C g n s.2))) 605 0 (1, t) (by omega) ⟨gt_PS P, gt_PL hn P, Or.inl ⟨rfl, Nat.zero_le _⟩⟩ ?_ ?_
  · intro f s ⟨S, L, A⟩
    refine br_t (nI_le (Nat.le_refl _) (by decide)) (h s.2 ?_)
    rcases A with ⟨_, z⟩ | ⟨_, C⟩
    · have := gt_nS S
      omega
    · exact gt_mk hn S L C
  · intro f c s hc ⟨S, L, A⟩ ih
    refine br_f (nI_ge hc (by decide)) ?_
    rcases A with ⟨e1, z⟩ | ⟨e1, C⟩
    · refine br_f (by rw [e1]; exact gx_10) ?_
      refine pk_loop (fun f2 i (s : Int32 × (Nat → Int32)) => wX_byRounds__word_found_31 post (wX_byRounds__word_found_12 post (nI n) rs wl az f) (nI n) (nI c) rs wl az f2 s.1 (nI i) rk rl ry wd s.2 fo sg st re ag li fw bg le ls) (fun i s2 => gt_R g w n s.2 (fun a _ => a < i) s2) (n + 1) 0 (0, s.2) (by omega) ⟨S, L, Or.inl ⟨rfl, rfl, fun r a b _ _ d => absurd d (by omega)⟩⟩ ?_ ?_
      · intro f2 s2 I
        refine br_t (nI_lt (Nat.lt_succ_self n) (by omega)) (nm_r (nI_1 c) (ih s2 ⟨I.1, I.2.1, ?_⟩))
        rcases I.2.2 with ⟨e2, e3, C⟩ | ⟨e2, e3⟩
        · refine Or.inr ⟨e2, ?_⟩
          rw [e3]
          exact fun r i j hr hp h1 h2 hq => C r i j hr hp (by omega) h1 h2 hq
        · exact Or.inl ⟨e2, by omega⟩
      · intro f2 i s2 hi I ih2
        refine br_f (nI_nlt (by omega) (by omega)) ?_
        refine pk_loop (fun f3 j (s : Int32 × (Nat → Int32)) => wX_byRounds__word_found_41 post (wX_byRounds__word_found_12 post (nI n) rs wl az f) (wX_byRounds__word_found_31 post (wX_byRounds__word_found_12 post (nI n) rs wl az f) (nI n) (nI c) rs wl az f2) (nI n) (nI c) (nI i) rs wl az f3 s.1 (nI j) rk rl ry wd s.2 fo sg st re ag li fw bg le ls) (fun j s3 => i ≤ j ∧ gt_R g w n s.2 (fun a b => a < i ∨ (a = i ∧ b < j)) s3) (n + 1) i s2 (by omega) ⟨Nat.le_refl _, gt_Rw (fun a b h1 h2 d => by omega) I⟩ ?_ ?_
        · intro f3 s3 ⟨_, I3⟩
          exact br_t (nI_lt (Nat.lt_succ_self n) (by omega)) (nm_r (nI_1 i) (ih2 s3 (gt_Rw (fun a b h1 h2 d => by omega) I3)))
        · intro f3 j ⟨x3, t3⟩ hj ⟨hij, I3⟩ ih3
          refine br_f (nI_nlt (by omega) (by omega)) (nm_r (gx_c11 i j) (And.intro (gx_in (by omega) (by decide)) (nm_r (e' := t3 (i * 11 + j)) (by rw [gx_cl (by omega)]) (gx_kindsFitting_found H hn hij (by omega) fun e he => And.intro (gx_in (by omega) (by decide)) (nm_r (e' := upd t3 (i * 11 + j) (t3 (i * 11 + j) ||| e)) (by rw [gx_cl (by omega)]) ?_)))))
          obtain ⟨a1, a2, a3⟩ := gt_Rs H.1 hn hij (by omega) I3 (D' := fun a b => a < i ∨ (a = i ∧ b < j + 1)) (fun a b h1 h2 d => by omega) he
          exact br_c (fun x0 => br_c (fun y0 => nm_r (nI_1 j) (ih3 _ ⟨by omega, a1 x0 y0⟩)) (fun y0 => nm_r (nI_1 j) (ih3 _ ⟨by omega, a2 x0 y0⟩))) (fun x0 => nm_r (nI_1 j) (ih3 _ ⟨by omega, a3 x0⟩))
    · exact br_t e1 (h s.2 (gt_mk hn S L C))
end xrounds_found

section xrounds_foundByOther
variable {rs wl az : Int32} {rk rl ry wd fd fo sg st re ag li fw bg le ls : Nat → Int32} {g : gm_G} {w : Nat → Nat} {n : Nat}
theorem gx_byRounds_foundByOther {post : SX → Prop} (H : gx_G g rs rk rl ry) (hw : ∀ i, i < n → wd i = nI (w i)) (hw3 : ∀ i, w i < 3) (hn : n ≤ 10) (h : ∀ t, gt_ok g w n t → post (rs, wl, az, rk, rl, ry, wd, fd, t, sg, st, re, ag, li, fw, bg, le, ls)) : wpX_byRounds__word_foundByOther post (rs, wl, az, rk, rl, ry, wd, fd, fo, sg, st, re, ag, li, fw, bg, le, ls) (nI n) := by
  unfold wpX_byRounds__word_foundByOther
  refine gx_putLetters_word_foundByOther hw hw3 hn fun t P => ?_
  refine pk_loop (fun f c (s : Int32 × (Nat → Int32)) => wX_byRounds__word_foundByOther_12 post (nI n) rs wl az f s.1 (nI c) rk rl ry wd fd s.2 sg st re ag li fw bg le ls) (fun c s => gt_S g w n s.2 ∧ gt_L w n s.2 ∧ ((s.1 = 1 ∧ c ≤ gt_n s.2) ∨ (s.1 = 0 ∧ gt_C g n s.2))) 605 0 (1, t) (by omega) ⟨gt_PS P, gt_PL hn P, Or.inl ⟨rfl, Nat.zero_le _⟩⟩ ?_ ?_
  · intro f s ⟨S, L, A⟩
    refine br_t (nI_le (Nat.le_refl _) (by decide)) (h s.2 ?_)
    rcases A with ⟨_, z⟩ | ⟨_, C⟩
    · have := gt_nS S
      omega
    · exact gt_mk hn S L C
  · intro f c s hc ⟨S, L, A⟩ ih
    refine br_f (nI_ge hc (by decide)) ?_
    rcases A with ⟨e1, z⟩ | ⟨e1, C⟩
    · refine br_f (by rw [e1]; exact gx_10) ?_
      refine pk_loop (fun f2 i (s : Int32 × (Nat → Int32)) => wX_byRounds__word_foundByOther_31 post (wX_byRounds__word_foundByOther_12 post (nI n) rs wl az f) (nI n) (nI c) rs wl az f2 s.1 (nI i) rk rl ry wd fd s.2 sg st re ag li fw bg le ls) (fun i s2 => gt_R g w n s.2 (fun a _ => a < i) s2) (n + 1) 0 (0, s.2) (by omega) ⟨S, L, Or.inl ⟨rfl, rfl, fun r a b _ _ d => absurd d (by omega)⟩⟩ ?_ ?_
      · intro f2 s2 I
        refine br_t (nI_lt (Nat.lt_succ_self n) (by omega)) (nm_r (nI_1 c) (ih s2 ⟨I.1, I.2.1, ?_⟩))
        rcases I.2.2 with ⟨e2, e3, C⟩ | ⟨e2, e3⟩
        · refine Or.inr ⟨e2, ?_⟩
          rw [e3]
          exact fun r i j hr hp h1 h2 hq => C r i j hr hp (by omega) h1 h2 hq
        · exact Or.inl ⟨e2, by omega⟩
      · intro f2 i s2 hi I ih2
        refine br_f (nI_nlt (by omega) (by omega)) ?_
        refine pk_loop (fun f3 j (s : Int32 × (Nat → Int32)) => wX_byRounds__word_foundByOther_41 post (wX_byRounds__word_foundByOther_12 post (nI n) rs wl az f) (wX_byRounds__word_foundByOther_31 post (wX_byRounds__word_foundByOther_12 post (nI n) rs wl az f) (nI n) (nI c) rs wl az f2) (nI n) (nI c) (nI i) rs wl az f3 s.1 (nI j) rk rl ry wd fd s.2 sg st re ag li fw bg le ls) (fun j s3 => i ≤ j ∧ gt_R g w n s.2 (fun a b => a < i ∨ (a = i ∧ b < j)) s3) (n + 1) i s2 (by omega) ⟨Nat.le_refl _, gt_Rw (fun a b h1 h2 d => by omega) I⟩ ?_ ?_
        · intro f3 s3 ⟨_, I3⟩
          exact br_t (nI_lt (Nat.lt_succ_self n) (by omega)) (nm_r (nI_1 i) (ih2 s3 (gt_Rw (fun a b h1 h2 d => by omega) I3)))
        · intro f3 j ⟨x3, t3⟩ hj ⟨hij, I3⟩ ih3
          refine br_f (nI_nlt (by omega) (by omega)) (nm_r (gx_c11 i j) (And.intro (gx_in (by omega) (by decide)) (nm_r (e' := t3 (i * 11 + j)) (by rw [gx_cl (by omega)]) (gx_kindsFitting_foundByOther H hn hij (by omega) fun e he => And.intro (gx_in (by omega) (by decide)) (nm_r (e' := upd t3 (i * 11 + j) (t3 (i * 11 + j) ||| e)) (by rw [gx_cl (by omega)]) ?_)))))
          obtain ⟨a1, a2, a3⟩ := gt_Rs H.1 hn hij (by omega) I3 (D' := fun a b => a < i ∨ (a = i ∧ b < j + 1)) (fun a b h1 h2 d => by omega) he
          exact br_c (fun x0 => br_c (fun y0 => nm_r (nI_1 j) (ih3 _ ⟨by omega, a1 x0 y0⟩)) (fun y0 => nm_r (nI_1 j) (ih3 _ ⟨by omega, a2 x0 y0⟩))) (fun x0 => nm_r (nI_1 j) (ih3 _ ⟨by omega, a3 x0⟩))
    · exact br_t e1 (h s.2 (gt_mk hn S L C))
end xrounds_foundByOther
end
section
/-! engine 1 -/
theorem gm_qin {g : gm_G} {P : Nat → Nat → Nat → Prop} {r i j : Nat} (hP : ∀ s a b, P s a b → a ≤ b) : ∀ d m, gm_q g P r d i m → m ≤ j → gm_q g (fun s a b => P s a b ∧ i ≤ a ∧ b ≤ j) r d i m
  | 0, _, e, _ => e
  | d + 1, m, ⟨m', a, b⟩, hm => by
    have h1 := hP _ _ _ b
    exact ⟨m', gm_qin hP d m' a (by omega), b, gm_qle hP d _ _ a, hm⟩
def gl_B (g : gm_G) (w : Nat → Nat) (n : Nat) (t : Nat → Int32) (D : Nat → Nat → Prop) : Prop := ∀ s a b, a ≤ b → b ≤ n → (D a b → (bt (t (a * 11 + b)) s = true ↔ gm_mk g w n s a b)) ∧ (¬ D a b → (bt (t (a * 11 + b)) s = true ↔ a < n ∧ b = a + 1 ∧ s = 5 + w a))
theorem gl_Bs {g : gm_G} (G : gm_ok g) {w : Nat → Nat} {n i ln : Nat} {t sg : Nat → Int32} {e y : Int32} (hn : n ≤ 10) (hw3 : ∀ i, w i < 3) (hl : 1 ≤ ln) (hi : i + ln ≤ n) (B : gl_B g w n t (fun a b => b - a < ln ∨ (b - a = ln ∧ a < i))) (U : gx_U g 320 sg)
    (he : ∀ s, bt e s = true ↔ ∃ r, r < 16 ∧ gm_p g r = true ∧ gm_q g (gt_T t n) r (gm_l g r) i (i + ln) ∧ s = gm_k g r)
    (hy : ∀ k, bt y k = true ↔ ∃ s, s < 8 ∧ bt (t (i * 11 + i + ln) ||| e) s = true ∧ bt (sg s) k = true) : gl_B g w n (upd t (i * 11 + i + ln) y) (fun a b => b - a < ln ∨ (b - a = ln ∧ a < i + 1)) := by
  have hS : ∀ s a b, gt_T t n s a b → gm_mk g w n s a b := fun s a b ⟨h1, h2, h3⟩ => by
    rcases Classical.em (b - a < ln ∨ (b - a = ln ∧ a < i)) with z | z
    · exact ((B s a b h1 h2).1 z).mp h3
    · obtain ⟨y1, y2, y3⟩ := ((B s a b h1 h2).2 z).mp h3
      rw [y2, y3]; exact gm_ml y1
  have hc : ∀ s, bt (t (i * 11 + i + ln)) s = true ↔ i < n ∧ i + ln = i + 1 ∧ s = 5 + w i := fun s => by
    have z := (B s i (i + ln) (by omega) hi).2 (by omega)
    rw [← Nat.add_assoc] at z
    exact z
  have main : ∀ k, bt y k = true ↔ gm_mk g w n k i (i + ln) := by
    intro k
    constructor
    · intro h
      obtain ⟨s, h8, h1, h2⟩ := (hy k).mp h
      have h3 : gm_mk g w n s i (i + ln) := by
        rcases (gb_or _ _).mp h1 with z | z
        · obtain ⟨y1, y2, y3⟩ := (hc s).mp z
          rw [y2, y3]; exact gm_ml y1
        · obtain ⟨r, hr, hp, hq, e1⟩ := (he s).mp z
          rw [e1]
          exact gm_mr hr hp (by omega) hi (gm_qm hS _ _ _ hq)
      exact gs_snd G h3 320 k ((U s h8 k).mp h2)
    · refine ge_cmp G (B := fun k => bt y k = true) (by omega) (fun e1 => ?_) (fun r hr hp hq => ?_) (fun r x hr hp hx ho hb => ?_)
      · have h3 := hw3 i
        exact (hy _).mpr ⟨5 + w i, by omega, (gb_or _ _).mpr (Or.inl ((hc _).mpr ⟨by omega, e1, rfl⟩)), (U _ (by omega) _).mpr (gz_up (c := 0) 320 rfl)⟩
      · have hk := G.1 r
        refine (hy _).mpr ⟨gm_k g r, by omega, (gb_or _ _).mpr (Or.inr ((he _).mpr ⟨r, hr, hp, ?_, rfl⟩)), (U _ (by omega) _).mpr (gz_up (c := 0) 320 rfl)⟩
        refine gm_qm (fun s a b z => ?_) _ _ _ (gm_qin (j := i + ln) (fun s a b z => (gm_mb z.1).1) _ _ hq (Nat.le_refl _))
        obtain ⟨⟨z1, z2⟩, z3, z4⟩ := z
        have hb := gm_mb z1
        exact ⟨hb.1, hb.2, ((B s a b hb.1 hb.2).1 (Or.inl (by omega))).mpr z1⟩
      · obtain ⟨s, h8, h1, h2⟩ := (hy _).mp hb
        exact (hy _).mpr ⟨s, h8, h1, (U s h8 _).mpr (gs_cl G hr hp hx ho ((U s h8 _).mp h2))⟩
  intro s a b h1 h2
  rw [gb_u]
  by_cases e1 : a * 11 + b = i * 11 + i + ln
  · have e2 : a = i := by omega
    have e3 : b = i + ln := by omega
    rw [if_pos e1, e2, e3]
    exact ⟨fun _ => main s, fun z => absurd (Or.inr ⟨by omega, by omega⟩) z⟩
  · rw [if_neg e1]
    obtain ⟨b1, b2⟩ := B s a b h1 h2
    exact ⟨fun z => b1 (by omega), fun z => b2 (by omega)⟩
end
section
section xlen_word_found
variable {rs wl az : Int32} {rk rl ry wd fd fo sg st re ag li fw bg le ls : Nat → Int32} {g : gm_G} {w : Nat → Nat} {n : Nat}
theorem gx_byLength_word_found {post : SX → Prop} (H : gx_G g rs rk rl ry) (hw : ∀ i, i < n → wd i = nI (w i)) (hw3 : ∀ i, w i < 3) (hn : n ≤ 10) (h : ∀ t sg', gt_ok g w n t → post (rs, wl, az, rk, rl, ry, wd, t, fo, sg', st, re, ag, li, fw, bg, le, ls)) : wpX_byLength__word_found post (rs, wl, az, rk, rl, ry, wd, fd, fo, sg, st, re, ag, li, fw, bg, le, ls) (nI n) := by
  unfold wpX_byLength__word_found
  refine gx_putLetters_word_found hw hw3 hn fun t P => ?_
  refine gx_kmf H gx_gv0 fun e E => ?_
  have hbe : ∀ s, bt e s = true ↔ gn_e g s := E
  refine gx_findSingles H E fun sg' U => ?_
  refine pk_loop (fun f i (t : Nat → Int32) => wX_byLength__word_found_22 post (nI n) e rs wl az f (nI i) rk rl ry wd t fo sg' st re ag li fw bg le ls) (fun i t => gl_B g w n t (fun a b => a = b ∧ a < i)) (n + 1) 0 t (by omega) ?_ ?_ ?_
  · intro s a b h1 h2
    exact ⟨fun z => absurd z.2 (by omega), fun _ => P s a b (by omega) (by omega)⟩
  · intro f t2 B
    refine br_t (nI_lt (Nat.lt_succ_self n) (by omega)) ?_
    refine pk_loop (fun f l (t : Nat → Int32) => wX_byLength__word_found_49 post (nI n) rs wl az f (nI l) rk rl ry wd t fo sg' st re ag li fw bg le ls) (fun l t => 1 ≤ l ∧ gl_B g w n t (fun a b => b - a < l)) (n + 1) 1 t2 (by omega) ⟨Nat.le_refl _, ?_⟩ ?_ ?_
    · intro s a b h1 h2
      obtain ⟨b1, b2⟩ := B s a b h1 h2
      exact ⟨fun z => b1 (by omega), fun z => b2 (by omega)⟩
    · intro f3 t3 ⟨_, B3⟩
      refine br_t (nI_lt (Nat.lt_succ_self n) (by omega)) (h t3 sg' fun s i j => ?_)
      constructor
      · intro ⟨h1, h2, h3⟩
        exact ((B3 s i j h1 h2).1 (by omega)).mp h3
      · intro z
        have hb := gm_mb z
        exact ⟨hb.1, hb.2, ((B3 s i j hb.1 hb.2).1 (by omega)).mpr z⟩
    · intro f3 l t3 hl ⟨hl1, B3⟩ ih
      refine br_f (nI_nlt (by omega) (by omega)) ?_
      refine pk_loop (fun f4 i (t : Nat → Int32) => wX_byLength__word_found_58 post (wX_byLength__word_found_49 post (nI n) rs wl az f3) (nI n) (nI l) rs wl az f4 (nI i) rk rl ry wd t fo sg' st re ag li fw bg le ls) (fun i t => gl_B g w n t (fun a b => b - a < l ∨ (b - a = l ∧ a < i))) (n + 1 - l) 0 t3 (by omega) ?_ ?_ ?_
      · intro s a b h1 h2
        obtain ⟨b1, b2⟩ := B3 s a b h1 h2
        exact ⟨fun z => b1 (by omega), fun z => b2 (by omega)⟩
      · intro f4 t4 B4
        refine br_t (by rw [nI_add]; exact nI_lt (by omega) (by omega)) (nm_r (nI_1 l) (ih t4 ⟨by omega, fun s a b h1 h2 => ?_⟩))
        obtain ⟨b1, b2⟩ := B4 s a b h1 h2
        exact ⟨fun z => b1 (by omega), fun z => b2 (by omega)⟩
      · intro f4 i t4 hi B4 ih4
        refine br_f (by rw [nI_add]; exact nI_nlt (by omega) (by omega)) (nm_r (e' := nI (i * 11 + i + l)) (by rw [gx_c11, nI_add]) ?_)
        rw [nI_add]
        refine gx_kindsFitting_found H (n := n) (by omega) (by omega) (by omega) fun e2 he2 => And.intro (gx_in (by omega) (by decide)) ?_
        rw [gx_cl (by omega)]
        refine gx_withSingles fun y hy => And.intro (gx_in (by omega) (by decide)) (nm_e (nm_r (nI_1 i) (ih4 _ ?_)))
        exact gl_Bs H.1 (by omega) hw3 hl1 (by omega) B4 U he2 hy
  · intro f i t2 hi B ih
    refine br_f (nI_nlt (by omega) (by omega)) ?_
    rw [gx_c11, gx_cl (by omega)]
    refine And.intro (gx_in (by omega) (by decide)) (nm_e (nm_r (nI_1 i) (ih _ ?_)))
    intro s a b h1 h2
    rw [gb_u]
    by_cases e1 : a * 11 + b = i * 11 + i
    · have e2 : a = i := by omega
      have e3 : b = i := by omega
      rw [if_pos e1, e2, e3]
      exact ⟨fun _ => (hbe s).trans (gn_iff H.1 (by omega)).symm, fun z => absurd ⟨rfl, by omega⟩ z⟩
    · rw [if_neg e1]
      obtain ⟨b1, b2⟩ := B s a b h1 h2
      exact ⟨fun z => b1 (by omega), fun z => b2 (by omega)⟩
end xlen_word_found

section xlen_word_foundByOther
variable {rs wl az : Int32} {rk rl ry wd fd fo sg st re ag li fw bg le ls : Nat → Int32} {g : gm_G} {w : Nat → Nat} {n : Nat}
theorem gx_byLength_word_foundByOther {post : SX → Prop} (H : gx_G g rs rk rl ry) (hw : ∀ i, i < n → wd i = nI (w i)) (hw3 : ∀ i, w i < 3) (hn : n ≤ 10) (h : ∀ t sg', gt_ok g w n t → post (rs, wl, az, rk, rl, ry, wd, fd, t, sg', st, re, ag, li, fw, bg, le, ls)) : wpX_byLength__word_foundByOther post (rs, wl, az, rk, rl, ry, wd, fd, fo, sg, st, re, ag, li, fw, bg, le, ls) (nI n) := by
  unfold wpX_byLength__word_foundByOther
  refine gx_putLetters_word_foundByOther hw hw3 hn fun t P => ?_
  refine gx_kmf H gx_gv0 fun e E => ?_
  have hbe : ∀ s, bt e s = true ↔ gn_e g s := E
  refine gx_findSingles H E fun sg' U => ?_
  refine pk_loop (fun f i (t : Nat → Int32) => wX_byLength__word_foundByOther_22 post (nI n) e rs wl az f (nI i) rk rl ry wd fd t sg' st re ag li fw bg le ls) (fun i t => gl_B g w n t (fun a b => a = b ∧ a < i)) (n + 1) 0 t (by omega) ?_ ?_ ?_
  · intro s a b h1 h2
    exact ⟨fun z => absurd z.2 (by omega), fun _ => P s a b (by omega) (by omega)⟩
  · intro f t2 B
    refine br_t (nI_lt (Nat.lt_succ_self n) (by omega)) ?_
    refine pk_loop (fun f l (t : Nat → Int32) => wX_byLength__word_foundByOther_49 post (nI n) rs wl az f (nI l) rk rl ry wd fd t sg' st re ag li fw bg le ls) (fun l t => 1 ≤ l ∧ gl_B g w n t (fun a b => b - a < l)) (n + 1) 1 t2 (by omega) ⟨Nat.le_refl _, ?_⟩ ?_ ?_
    · intro s a b h1 h2
      obtain ⟨b1, b2⟩ := B s a b h1 h2
      exact ⟨fun z => b1 (by omega), fun z => b2 (by omega)⟩
    · intro f3 t3 ⟨_, B3⟩
      refine br_t (nI_lt (Nat.lt_succ_self n) (by omega)) (h t3 sg' fun s i j => ?_)
      constructor
      · intro ⟨h1, h2, h3⟩
        exact ((B3 s i j h1 h2).1 (by omega)).mp h3
      · intro z
        have hb := gm_mb z
        exact ⟨hb.1, hb.2, ((B3 s i j hb.1 hb.2).1 (by omega)).mpr z⟩
    · intro f3 l t3 hl ⟨hl1, B3⟩ ih
      refine br_f (nI_nlt (by omega) (by omega)) ?_
      refine pk_loop (fun f4 i (t : Nat → Int32) => wX_byLength__word_foundByOther_58 post (wX_byLength__word_foundByOther_49 post (nI n) rs wl az f3) (nI n) (nI l) rs wl az f4 (nI i) rk rl ry wd fd t sg' st re ag li fw bg le ls) (fun i t => gl_B g w n t (fun a b => b - a < l ∨ (b - a = l ∧ a < i))) (n + 1 - l) 0 t3 (by omega) ?_ ?_ ?_
      · intro s a b h1 h2
        obtain ⟨b1, b2⟩ := B3 s a b h1 h2
        exact ⟨fun z => b1 (by omega), fun z => b2 (by omega)⟩
      · intro f4 t4 B4
        refine br_t (by rw [nI_add]; exact nI_lt (by omega) (by omega)) (nm_r (nI_1 l) (ih t4 ⟨by omega, fun s a b h1 h2 => ?_⟩))
        obtain ⟨b1, b2⟩ := B4 s a b h1 h2
        exact ⟨fun z => b1 (by omega), fun z => b2 (by omega)⟩
      · intro f4 i t4 hi B4 ih4
        refine br_f (by rw [nI_add]; exact nI_nlt (by omega) (by omega)) (nm_r (e' := nI (i * 11 + i + l)) (by rw [gx_c11, nI_add]) ?_)
        rw [nI_add]
        refine gx_kindsFitting_foundByOther H (n := n) (by omega) (by omega) (by omega) fun e2 he2 => And.intro (gx_in (by omega) (by decide)) ?_
        rw [gx_cl (by omega)]
        refine gx_withSingles fun y hy => And.intro (gx_in (by omega) (by decide)) (nm_e (nm_r (nI_1 i) (ih4 _ ?_)))
        exact gl_Bs H.1 (by omega) hw3 hl1 (by omega) B4 U he2 hy
  · intro f i t2 hi B ih
    refine br_f (nI_nlt (by omega) (by omega)) ?_
    rw [gx_c11, gx_cl (by omega)]
    refine And.intro (gx_in (by omega) (by decide)) (nm_e (nm_r (nI_1 i) (ih _ ?_)))
    intro s a b h1 h2
    rw [gb_u]
    by_cases e1 : a * 11 + b = i * 11 + i
    · have e2 : a = i := by omega
      have e3 : b = i := by omega
      rw [if_pos e1, e2, e3]
      exact ⟨fun _ => (hbe s).trans (gn_iff H.1 (by omega)).symm, fun z => absurd ⟨rfl, by omega⟩ z⟩
    · rw [if_neg e1]
      obtain ⟨b1, b2⟩ := B s a b h1 h2
      exact ⟨fun z => b1 (by omega), fun z => b2 (by omega)⟩
end xlen_word_foundByOther

section xlen_list_found
variable {rs wl az : Int32} {rk rl ry wd fd fo sg st re ag li fw bg le ls : Nat → Int32} {g : gm_G} {w : Nat → Nat} {n : Nat}
theorem gx_byLength_list_found {post : SX → Prop} (H : gx_G g rs rk rl ry) (hw : ∀ i, i < n → ls i = nI (w i)) (hw3 : ∀ i, w i < 3) (hn : n ≤ 4) (h : ∀ t sg', gt_ok g w n t → post (rs, wl, az, rk, rl, ry, wd, t, fo, sg', st, re, ag, li, fw, bg, le, ls)) : wpX_byLength__list_found post (rs, wl, az, rk, rl, ry, wd, fd, fo, sg, st, re, ag, li, fw, bg, le, ls) (nI n) := by
  unfold wpX_byLength__list_found
  refine gx_putLetters_list_found hw hw3 hn fun t P => ?_
  refine gx_kmf H gx_gv0 fun e E => ?_
  have hbe : ∀ s, bt e s = true ↔ gn_e g s := E
  refine gx_findSingles H E fun sg' U => ?_
  refine pk_loop (fun f i (t : Nat → Int32) => wX_byLength__list_found_22 post (nI n) e rs wl az f (nI i) rk rl ry wd t fo sg' st re ag li fw bg le ls) (fun i t => gl_B g w n t (fun a b => a = b ∧ a < i)) (n + 1) 0 t (by omega) ?_ ?_ ?_
  · intro s a b h1 h2
    exact ⟨fun z => absurd z.2 (by omega), fun _ => P s a b (by omega) (by omega)⟩
  · intro f t2 B
    refine br_t (nI_lt (Nat.lt_succ_self n) (by omega)) ?_
    refine pk_loop (fun f l (t : Nat → Int32) => wX_byLength__list_found_49 post (nI n) rs wl az f (nI l) rk rl ry wd t fo sg' st re ag li fw bg le ls) (fun l t => 1 ≤ l ∧ gl_B g w n t (fun a b => b - a < l)) (n + 1) 1 t2 (by omega) ⟨Nat.le_refl _, ?_⟩ ?_ ?_
    · intro s a b h1 h2
      obtain ⟨b1, b2⟩ := B s a b h1 h2
      exact ⟨fun z => b1 (by omega), fun z => b2 (by omega)⟩
    · intro f3 t3 ⟨_, B3⟩
      refine br_t (nI_lt (Nat.lt_succ_self n) (by omega)) (h t3 sg' fun s i j => ?_)
      constructor
      · intro ⟨h1, h2, h3⟩
        exact ((B3 s i j h1 h2).1 (by omega)).mp h3
      · intro z
        have hb := gm_mb z
        exact ⟨hb.1, hb.2, ((B3 s i j hb.1 hb.2).1 (by omega)).mpr z⟩
    · intro f3 l t3 hl ⟨hl1, B3⟩ ih
      refine br_f (nI_nlt (by omega) (by omega)) ?_
      refine pk_loop (fun f4 i (t : Nat → Int32) => wX_byLength__list_found_58 post (wX_byLength__list_found_49 post (nI n) rs wl az f3) (nI n) (nI l) rs wl az f4 (nI i) rk rl ry wd t fo sg' st re ag li fw bg le ls) (fun i t => gl_B g w n t (fun a b => b - a < l ∨ (b - a = l ∧ a < i))) (n + 1 - l) 0 t3 (by omega) ?_ ?_ ?_
      · intro s a b h1 h2
        obtain ⟨b1, b2⟩ := B3 s a b h1 h2
        exact ⟨fun z => b1 (by omega), fun z => b2 (by omega)⟩
      · intro f4 t4 B4
        refine br_t (by rw [nI_add]; exact nI_lt (by omega) (by omega)) (nm_r (nI_1 l) (ih t4 ⟨by omega, fun s a b h1 h2 => ?_⟩))
        obtain ⟨b1, b2⟩ := B4 s a b h1 h2
        exact ⟨fun z => b1 (by omega), fun z => b2 (by omega)⟩
      · intro f4 i t4 hi B4 ih4
        refine br_f (by rw [nI_add]; exact nI_nlt (by omega) (by omega)) (nm_r (e' := nI (i * 11 + i + l)) (by rw [gx_c11, nI_add]) ?_)
        rw [nI_add]
        refine gx_kindsFitting_found H (n := n) (by omega) (by omega) (by omega) fun e2 he2 => And.intro (gx_in (by omega) (by decide)) ?_
        rw [gx_cl (by omega)]
        refine gx_withSingles fun y hy => And.intro (gx_in (by omega) (by decide)) (nm_e (nm_r (nI_1 i) (ih4 _ ?_)))
        exact gl_Bs H.1 (by omega) hw3 hl1 (by omega) B4 U he2 hy
  · intro f i t2 hi B ih
    refine br_f (nI_nlt (by omega) (by omega)) ?_
    rw [gx_c11, gx_cl (by omega)]
    refine And.intro (gx_in (by omega) (by decide)) (nm_e (nm_r (nI_1 i) (ih _ ?_)))
    intro s a b h1 h2
    rw [gb_u]
    by_cases e1 : a * 11 + b = i * 11 + i
    · have e2 : a = i := by omega
      have e3 : b = i := by omega
      rw [if_pos e1, e2, e3]
      exact ⟨fun _ => (hbe s).trans (gn_iff H.1 (by omega)).symm, fun z => absurd ⟨rfl, by omega⟩ z⟩
    · rw [if_neg e1]
      obtain ⟨b1, b2⟩ := B s a b h1 h2
      exact ⟨fun z => b1 (by omega), fun z => b2 (by omega)⟩
end xlen_list_found
end
section
/-! engine 3: reach -/
def gr_T (re : Nat → Int32) (n s i j : Nat) : Prop := i ≤ j ∧ j ≤ n ∧ bt (re (s * 11 + i)) j = true
def gr_L (w : Nat → Nat) (n : Nat) (re : Nat → Int32) : Prop := ∀ i, i < n → bt (re ((5 + w i) * 11 + i)) (i + 1) = true
def gr_C (g : gm_G) (n : Nat) (re : Nat → Int32) : Prop := ∀ r a b, r < 16 → gm_p g r = true → a ≤ n → gm_q g (gr_T re n) r (gm_l g r) a b → bt (re (gm_k g r * 11 + a)) b = true
theorem gr_qb {g : gm_G} {re : Nat → Int32} {n r i : Nat} (hi : i ≤ n) : ∀ d m, gm_q g (gr_T re n) r d i m → i ≤ m ∧ m ≤ n
  | 0, m, e => by
    have e : i = m := e
    omega
  | d + 1, m, ⟨m', a, b⟩ => by
    have h1 := gr_qb hi d m' a
    have h2 := b.1
    exact ⟨by omega, b.2.1⟩
theorem gr_sT {g : gm_G} {w : Nat → Nat} {n : Nat} {re : Nat → Int32} (S : gr_S g w n re) (hn : n ≤ 10) {s i j : Nat} (hs : s < 8) (h : gr_T re n s i j) : gm_mk g w n s i j := by
  obtain ⟨h1, h2, h3⟩ := h
  exact S s i j hs (by omega) h3
theorem gr_qs {g : gm_G} (G : gm_ok g) {w : Nat → Nat} {n : Nat} {re : Nat → Int32} (S : gr_S g w n re) (hn : n ≤ 10) {r i : Nat} : ∀ d m, gm_q g (gr_T re n) r d i m → gm_q g (gm_mk g w n) r d i m
  | 0, _, e => e
  | d + 1, _, ⟨m', a, b⟩ => ⟨m', gr_qs G S hn d m' a, gr_sT S hn (G.2.2 r d) b⟩
theorem gr_mk {g : gm_G} {w : Nat → Nat} {n : Nat} {re : Nat → Int32} (hn : n ≤ 10) (S : gr_S g w n re) (L : gr_L w n re) (C : gr_C g n re) {s i j : Nat} (hs : s < 8) : gr_T re n s i j ↔ gm_mk g w n s i j :=
  ⟨gr_sT S hn hs, fun h => h (gr_T re n) ⟨fun i hi => ⟨by omega, by omega, L i hi⟩, fun r i j a b c d e => ⟨c, d, C r i j a b (by omega) e⟩⟩⟩
def gr_R (g : gm_G) (w : Nat → Nat) (n : Nat) (re0 : Nat → Int32) (D : Nat → Nat → Prop) (s : Int32 × (Nat → Int32)) : Prop :=
  gr_S g w n s.2 ∧ gr_L w n s.2 ∧ ((s.1 = 0 ∧ s.2 = re0 ∧ ∀ r a b, r < 16 → gm_p g r = true → D r a → a ≤ n → gm_q g (gr_T re0 n) r (gm_l g r) a b → bt (re0 (gm_k g r * 11 + a)) b = true) ∨ (s.1 = 1 ∧ gr_n re0 < gr_n s.2))
theorem gr_Rw {g : gm_G} {w : Nat → Nat} {n : Nat} {t0 : Nat → Int32} {D D' : Nat → Nat → Prop} {s : Int32 × (Nat → Int32)} (h : ∀ r a, r < 16 → a ≤ n → gm_p g r = true → D' r a → D r a) (I : gr_R g w n t0 D s) : gr_R g w n t0 D' s :=
  ⟨I.1, I.2.1, I.2.2.imp (fun z => ⟨z.1, z.2.1, fun r a b hr hp d h1 => z.2.2 r a b hr hp (h r a hr h1 hp d) h1⟩) id⟩
theorem gr_Rs {g : gm_G} (G : gm_ok g) {w : Nat → Nat} {n r i : Nat} {re0 re : Nat → Int32} {D D' : Nat → Nat → Prop} {x e : Int32} (hn : n ≤ 10) (hr : r < 16) (hp : gm_p g r = true) (hi : i ≤ n) (I : gr_R g w n re0 D (x, re)) (hD : ∀ c a, D' c a → D c a ∨ (c = r ∧ a = i))
    (he : ∀ b, bt e b = true ↔ gm_q g (gr_T re n) r (gm_l g r) i b) :
    (x = 0 → (e &&& (re (gm_k g r * 11 + i) ^^^ (-1))) = 0 → gr_R g w n re0 D' (0, upd re (gm_k g r * 11 + i) (re (gm_k g r * 11 + i) ||| e))) ∧
    (x = 0 → ¬ (e &&& (re (gm_k g r * 11 + i) ^^^ (-1))) = 0 → gr_R g w n re0 D' (1, upd re (gm_k g r * 11 + i) (re (gm_k g r * 11 + i) ||| e))) ∧
    (¬ x = 0 → gr_R g w n re0 D' (1, upd re (gm_k g r * 11 + i) (re (gm_k g r * 11 + i) ||| e))) := by
  obtain ⟨S, L, A⟩ := I
  have S : gr_S g w n re := S
  have L : gr_L w n re := L
  have hk := G.1 r
  have hmk : ∀ b, bt e b = true → gm_mk g w n (gm_k g r) i b := fun b hb => by
    have hq := (he b).mp hb
    have hb := gr_qb hi _ _ hq
    exact gm_mr hr hp hb.1 hb.2 (gr_qs G S hn _ _ hq)
  have S' : gr_S g w n (upd re (gm_k g r * 11 + i) (re (gm_k g r * 11 + i) ||| e)) := by
    intro s a b hs ha hb
    rw [gb_u] at hb
    by_cases e1 : s * 11 + a = gm_k g r * 11 + i
    · have e2 : s = gm_k g r := by omega
      have e3 : a = i := by omega
      rw [if_pos e1, gb_or] at hb
      rw [e2, e3]
      rcases hb with z | z
      · exact S _ _ _ (by omega) (by omega) z
      · exact hmk b z
    · rw [if_neg e1] at hb
      exact S s a b hs ha hb
  have M : ∀ c s, bt (re c) s = true → bt (upd re (gm_k g r * 11 + i) (re (gm_k g r * 11 + i) ||| e) c) s = true := fun c s h => gt_orM c s h
  have L' : gr_L w n (upd re (gm_k g r * 11 + i) (re (gm_k g r * 11 + i) ||| e)) := fun a ha => M _ _ (L a ha)
  refine ⟨fun hx h0 => ?_, fun hx h1 => ?_, fun hx => ?_⟩
  · rcases A with ⟨_, e2, hC⟩ | ⟨e1, _⟩
    · have e2 : re = re0 := e2
      have e3 : upd re (gm_k g r * 11 + i) (re (gm_k g r * 11 + i) ||| e) = re := by rw [gt_or0 h0, gt_up]
      refine ⟨S', L', Or.inl ⟨rfl, e3.trans e2, fun c a b hc hpc d h1 hq => ?_⟩⟩
      rcases hD c a d with z | ⟨z1, z2⟩
      · exact hC c a b hc hpc z h1 hq
      · rw [z1, z2] at hq ⊢
        rw [← e2] at hq ⊢
        have h4 := (he b).mpr hq
        have h5 := congrArg (fun z => bt z b) (gt_or0 h0)
        rw [← h5, gb_or]
        exact Or.inr h4
    · have e1 : x = 1 := e1
      rw [hx] at e1
      exact absurd e1 (by decide)
  · obtain ⟨b, hb, h3, h4⟩ := (gb_new _ _).mp h1
    have h5 := gm_mb (hmk b h3)
    have h6 := gr_nlt M (c := gm_k g r * 11 + i) (j := b) (by omega) (by omega) h4 (by rw [gb_us rfl, gb_or]; exact Or.inr h3)
    refine ⟨S', L', Or.inr ⟨rfl, ?_⟩⟩
    rcases A with ⟨_, e2, _⟩ | ⟨_, e2⟩
    · have e2 : re = re0 := e2
      rw [← e2]; exact h6
    · exact Nat.lt_trans e2 h6
  · rcases A with ⟨e1, _, _⟩ | ⟨_, e2⟩
    · exact absurd e1 hx
    · exact ⟨S', L', Or.inr ⟨rfl, Nat.lt_of_lt_of_le e2 (gr_nle M)⟩⟩
section xreach
variable {rs wl az : Int32} {rk rl ry wd fd fo sg st re ag li fw bg le ls : Nat → Int32} {g : gm_G} {w : Nat → Nat} {n : Nat}
theorem gx_endsOfRule {post : Int32 → Prop} (H : gx_G g rs rk rl ry) (hn : n ≤ 10) (S : gr_S g w n re) {r i : Nat} (hr : r < 16) (hi : i ≤ n) (h : ∀ e, (∀ b, bt e b = true ↔ gm_q g (gr_T re n) r (gm_l g r) i b) → post e) : wpX_endsOfRule post (rs, wl, az, rk, rl, ry, wd, fd, fo, sg, st, re, ag, li, fw, bg, le, ls) (nI r) (nI i) (nI n) := by
  have h3 := H.1.2.1 r
  have el := gx_Gl H hr
  refine nm_e ?_
  refine pk_loop (fun f d (x : Int32) => wX_endsOfRule_8 post (nI r) (nI i) (nI n) rs wl az rk rl ry wd fd fo sg st re ag li fw bg le ls f x (nI d)) (fun d x => ∀ b, bt x b = true ↔ gm_q g (gr_T re n) r d i b) (gm_l g r) 0 _ (by omega) (fun b => (gb_sg (by omega) b).trans ⟨fun z => z.symm, fun z => Eq.symm z⟩) ?_ ?_
  · intro f x hI
    exact And.intro (gx_in hr (by decide)) (br_t (by rw [el]; exact nI_le (Nat.le_refl _) (by omega)) (h x hI))
  · intro f d x hd hI ih
    have h8 := H.1.2.2 r d
    refine And.intro (gx_in hr (by decide)) (br_f (by rw [el]; exact nI_ge hd (by omega)) (gx_symbolAt H hr (by omega) ?_))
    refine pk_loop (fun f2 m (y : Int32) => wX_endsOfRule_34 post (wX_endsOfRule_8 post (nI r) (nI i) (nI n) rs wl az rk rl ry wd fd fo sg st re ag li fw bg le ls f) (nI r) (nI i) (nI n) x (nI d) (nI (gm_y g r d)) rs wl az rk rl ry wd fd fo sg st re ag li fw bg le ls f2 y (nI m)) (fun m y => i ≤ m ∧ ∀ b, bt y b = true ↔ ∃ c, c < m ∧ i ≤ c ∧ bt x c = true ∧ bt (re (gm_y g r d * 11 + c)) b = true) (n + 1) i 0 (by omega) ⟨Nat.le_refl _, fun b => by rw [b_0]; exact ⟨fun z => absurd z (by decide), fun ⟨c, z, y, _⟩ => absurd z (by omega)⟩⟩ ?_ ?_
    · intro f2 y ⟨_, hI2⟩
      refine br_t (nI_lt (Nat.lt_succ_self n) (by omega)) (nm_r (nI_1 d) (ih y fun b => ?_))
      rw [hI2 b]
      constructor
      · intro ⟨c, h1, h2, h3, h4⟩
        have hb := gm_mb (S _ c b h8 (by omega) h4)
        exact ⟨c, (hI c).mp h3, hb.1, hb.2, h4⟩
      · intro ⟨c, h1, h2⟩
        have hb := gr_qb hi _ _ h1
        exact ⟨c, by omega, hb.1, (hI c).mpr h1, h2.2.2⟩
    · intro f2 m y hm ⟨him, hI2⟩ ih2
      refine br_f (nI_nlt (by omega) (by omega)) (gx_bit (by omega) (fun hb => ?_) (fun hb => nm_r (nI_1 m) (ih2 y ⟨by omega, fun b => ?_⟩)))
      · rw [gx_c11, gx_cl (by omega)]
        refine And.intro (gx_in (by omega) (by decide)) (nm_e (nm_r (nI_1 m) (ih2 _ ⟨by omega, fun b => ?_⟩)))
        rw [gb_or, hI2 b]
        constructor
        · intro z
          rcases z with ⟨c, h1, h2⟩ | z
          · exact ⟨c, by omega, h2⟩
          · exact ⟨m, by omega, him, hb, z⟩
        · intro ⟨c, h1, h2, h3, h4⟩
          by_cases e : c = m
          · subst e; exact Or.inr h4
          · exact Or.inl ⟨c, by omega, h2, h3, h4⟩
      · rw [hI2 b]
        constructor
        · intro ⟨c, h1, h2⟩
          exact ⟨c, by omega, h2⟩
        · intro ⟨c, h1, h2, h3, h4⟩
          by_cases e : c = m
          · subst e; rw [hb] at h3; exact absurd h3 (by decide)
          · exact ⟨c, by omega, h2, h3, h4⟩
theorem gx_widenReach {post : Int32 → SX → Prop} (H : gx_G g rs rk rl ry) (hn : n ≤ 10) (S : gr_S g w n re) (L : gr_L w n re) (h : ∀ x re', gr_R g w n re (fun _ _ => True) (x, re') → post x (rs, wl, az, rk, rl, ry, wd, fd, fo, sg, st, re', ag, li, fw, bg, le, ls)) : wpX_widenReach post (rs, wl, az, rk, rl, ry, wd, fd, fo, sg, st, re, ag, li, fw, bg, le, ls) (nI n) := by
  refine pk_loop (fun f r (s : Int32 × (Nat → Int32)) => wX_widenReach_4 post (nI n) rs wl az f s.1 (nI r) rk rl ry wd fd fo sg st s.2 ag li fw bg le ls) (fun r s => gr_R g w n re (fun c _ => c < r) s) 16 0 (0, re) (by omega) ⟨S, L, Or.inl ⟨rfl, rfl, fun r a b _ _ d => absurd d (by omega)⟩⟩ ?_ ?_
  · intro f ⟨x, re1⟩ I
    refine br_t (nI_le (Nat.le_refl _) (by decide)) (And.intro (gy_nar ?_) (h x re1 (gr_Rw (fun r a hr _ _ _ => hr) I)))
    rcases I.2.2 with ⟨e, _⟩ | ⟨e, _⟩
    · exact Or.inl e
    · exact Or.inr e
  · intro f r s hr I ih
    refine br_f (nI_ge hr (by decide)) (gx_hasRule H hr (fun hp => br_f gx_10 ?_) (fun hp => br_t rfl (nm_r (nI_1 r) (ih s (gr_Rw (fun c a hc ha hpc d => ?_) I)))))
    · refine pk_loop (fun f2 i (s : Int32 × (Nat → Int32)) => wX_widenReach_21 post (wX_widenReach_4 post (nI n) rs wl az f) (nI n) (nI r) rs wl az f2 s.1 (nI i) rk rl ry wd fd fo sg st s.2 ag li fw bg le ls) (fun i s => gr_R g w n re (fun c a => c < r ∨ (c = r ∧ a < i)) s) (n + 1) 0 s (by omega) (gr_Rw (fun c a _ _ _ d => by omega) I) ?_ ?_
      · intro f2 s2 I2
        exact br_t (nI_lt (Nat.lt_succ_self n) (by omega)) (nm_r (nI_1 r) (ih s2 (gr_Rw (fun c a _ _ _ d => by omega) I2)))
      · intro f2 i ⟨x2, re2⟩ hi I2 ih2
        have hk := H.1.1 r
        refine br_f (nI_nlt (by omega) (by omega)) (gx_endsOfRule H hn I2.1 hr (by omega) fun e he => And.intro (gx_in hr (by decide)) (nm_r (e' := nI (gm_k g r * 11 + i)) (by rw [gx_Gk H hr, gx_c11]) ?_))
        have ecl : (nI (gm_k g r * 11 + i)).toNatClampNeg = gm_k g r * 11 + i := gx_cl (by omega)
        obtain ⟨a1, a2, a3⟩ := gr_Rs H.1 hn hr hp (i := i) (by omega) I2 (D' := fun c a => c < r ∨ (c = r ∧ a < i + 1)) (fun c a d => by omega) he
        have v : vp_in (nI (gm_k g r * 11 + i)) 88 := gx_in (by omega) (by decide)
        have fin : ∀ z : Int32, gr_R g w n re (fun c a => c < r ∨ (c = r ∧ a < i + 1)) (z, upd re2 (gm_k g r * 11 + i) (re2 (gm_k g r * 11 + i) ||| e)) → wX_widenReach_75 post (wX_widenReach_4 post (nI n) rs wl az f) (wX_widenReach_21 post (wX_widenReach_4 post (nI n) rs wl az f) (nI n) (nI r) rs wl az f2) (nI n) (nI r) (nI i) e (nI (gm_k g r * 11 + i)) z rs wl az rk rl ry wd fd fo sg st re2 ag li fw bg le ls := fun z hz =>
          And.intro v (And.intro v (nm_r (e' := upd re2 (gm_k g r * 11 + i) (re2 (gm_k g r * 11 + i) ||| e)) (by rw [ecl]) (nm_r (nI_1 i) (ih2 _ hz))))
        refine br_c (fun x0 => And.intro v ?_) (fun x0 => fin 1 (a3 x0))
        rw [ecl]
        exact br_c (fun y0 => fin 0 (a1 x0 y0)) (fun y0 => fin 1 (a2 x0 y0))
    · by_cases e : c = r
      · subst e; rw [hpc] at hp; exact absurd hp (by decide)
      · omega
end xreach
end
section
section xbyreach_found
variable {rs wl az : Int32} {rk rl ry wd fd fo sg st re ag li fw bg le ls : Nat → Int32} {g : gm_G} {w : Nat → Nat} {n : Nat}
theorem gx_tellReach_found {post : SX → Prop} (hn : n ≤ 10) {k : Nat} (hk : k < 5) (h : ∀ t, (∀ s a b, a ≤ b → b ≤ n → (bt (t (a * 11 + b)) s = true ↔ bt (fd (a * 11 + b)) s = true ∨ (s = k ∧ bt (re (k * 11 + a)) b = true))) → post (rs, wl, az, rk, rl, ry, wd, t, fo, sg, st, re, ag, li, fw, bg, le, ls)) : wpX_tellReach__found post (rs, wl, az, rk, rl, ry, wd, fd, fo, sg, st, re, ag, li, fw, bg, le, ls) (nI k) (nI n) := by
  refine pk_loop (fun f i (t : Nat → Int32) => wX_tellReach__found_3 post (nI k) (nI n) rs wl az f (nI i) rk rl ry wd t fo sg st re ag li fw bg le ls) (fun i t => ∀ s a b, a ≤ b → b ≤ n → (bt (t (a * 11 + b)) s = true ↔ bt (fd (a * 11 + b)) s = true ∨ (a < i ∧ s = k ∧ bt (re (k * 11 + a)) b = true))) (n + 1) 0 fd (by omega) (fun s a b _ _ => ⟨Or.inl, fun z => z.resolve_right fun y => absurd y.1 (by omega)⟩) ?_ ?_
  · intro f t hI
    refine br_t (nI_lt (Nat.lt_succ_self n) (by omega)) (h t fun s a b h1 h2 => ?_)
    rw [hI s a b h1 h2]
    exact ⟨fun z => z.imp id fun y => y.2, fun z => z.imp id fun y => ⟨by omega, y⟩⟩
  · intro f i t hi hI ih
    refine br_f (nI_nlt (by omega) (by omega)) ?_
    refine pk_loop (fun f2 j (t : Nat → Int32) => wX_tellReach__found_13 post (wX_tellReach__found_3 post (nI k) (nI n) rs wl az f) (nI k) (nI n) (nI i) rs wl az f2 (nI j) rk rl ry wd t fo sg st re ag li fw bg le ls) (fun j t => i ≤ j ∧ ∀ s a b, a ≤ b → b ≤ n → (bt (t (a * 11 + b)) s = true ↔ bt (fd (a * 11 + b)) s = true ∨ ((a < i ∨ (a = i ∧ b < j)) ∧ s = k ∧ bt (re (k * 11 + a)) b = true))) (n + 1) i t (by omega) ⟨Nat.le_refl _, fun s a b h1 h2 => ?_⟩ ?_ ?_
    · rw [hI s a b h1 h2]
      exact ⟨fun z => z.imp id fun y => ⟨Or.inl y.1, y.2⟩, fun z => z.imp id fun y => ⟨by omega, y.2⟩⟩
    · intro f2 t2 ⟨_, hI2⟩
      refine br_t (nI_lt (Nat.lt_succ_self n) (by omega)) (nm_r (nI_1 i) (ih t2 fun s a b h1 h2 => ?_))
      rw [hI2 s a b h1 h2]
      exact ⟨fun z => z.imp id fun y => ⟨by omega, y.2⟩, fun z => z.imp id fun y => ⟨by omega, y.2⟩⟩
    · intro f2 j t2 hj ⟨hij, hI2⟩ ih2
      refine br_f (nI_nlt (by omega) (by omega)) ?_
      rw [gx_c11, gx_c11, gx_cl (by omega), gx_cl (by omega)]
      refine And.intro (gx_in (by omega) (by decide)) (gx_bit (by omega) (fun hb => And.intro (gx_in (by omega) (by decide)) (And.intro (gx_in (by omega) (by decide)) (nm_e (nm_r (nI_1 j) (ih2 _ ⟨by omega, fun s a b h1 h2 => ?_⟩))))) (fun hb => nm_r (nI_1 j) (ih2 _ ⟨by omega, fun s a b h1 h2 => ?_⟩)))
      · rw [gb_u]
        by_cases e : a * 11 + b = i * 11 + j
        · have e1 : a = i := by omega
          have e2 : b = j := by omega
          rw [if_pos e, gb_add _ (by omega), e1, e2, hI2 s i j hij (by omega)]
          constructor
          · intro z
            rcases z with (z | z) | z
            · exact Or.inl z
            · exact absurd z.1 (by omega)
            · exact Or.inr ⟨by omega, z, hb⟩
          · intro z
            rcases z with z | z
            · exact Or.inl (Or.inl z)
            · exact Or.inr z.2.1
        · rw [if_neg e, hI2 s a b h1 h2]
          exact ⟨fun z => z.imp id fun y => ⟨by omega, y.2⟩, fun z => z.imp id fun y => ⟨by omega, y.2⟩⟩
      · rw [hI2 s a b h1 h2]
        refine ⟨fun z => z.imp id fun y => ⟨by omega, y.2⟩, fun z => z.imp id fun y => ⟨?_, y.2⟩⟩
        by_cases e : a = i ∧ b = j
        · have y3 := y.2.2
          rw [e.1, e.2, hb] at y3
          exact absurd y3 (by decide)
        · omega
theorem gx_byReach_found {post : SX → Prop} (H : gx_G g rs rk rl ry) (hw : ∀ i, i < n → wd i = nI (w i)) (hw3 : ∀ i, w i < 3) (hn : n ≤ 10) (h : ∀ t re', gt_ok g w n t → post (rs, wl, az, rk, rl, ry, wd, t, fo, sg, st, re', ag, li, fw, bg, le, ls)) : wpX_byReach__word_found post (rs, wl, az, rk, rl, ry, wd, fd, fo, sg, st, re, ag, li, fw, bg, le, ls) (nI n) := by
  unfold wpX_byReach__word_found
  refine gx_putLetters_word_found hw hw3 hn fun t P => ?_
  have tell : ∀ re', gr_S g w n re' → gr_L w n re' → gr_C g n re' → ∃ f, wX_byReach__word_found_103 post (nI n) f 0 rs wl az rk rl ry wd t fo sg st re' ag li fw bg le ls := by
    intro re' S L C
    refine pk_loop (fun f k (t : Nat → Int32) => wX_byReach__word_found_103 post (nI n) f (nI k) rs wl az rk rl ry wd t fo sg st re' ag li fw bg le ls) (fun k t => ∀ s a b, a ≤ b → b ≤ n → (bt (t (a * 11 + b)) s = true ↔ (a < n ∧ b = a + 1 ∧ s = 5 + w a) ∨ (s < k ∧ gm_mk g w n s a b))) 5 0 t (by omega) (fun s a b h1 h2 => (P s a b (by omega) (by omega)).trans ⟨Or.inl, fun z => z.resolve_right fun y => absurd y.1 (by omega)⟩) ?_ ?_
    · intro f t2 hI
      refine br_t (nI_le (Nat.le_refl _) (by decide)) (h t2 re' fun s i j => ?_)
      constructor
      · intro ⟨h1, h2, h3⟩
        rcases (hI s i j h1 h2).mp h3 with z | z
        · rw [z.2.1, z.2.2]; exact gm_ml z.1
        · exact z.2
      · intro z
        have hb := gm_mb z
        refine ⟨hb.1, hb.2, (hI s i j hb.1 hb.2).mpr ?_⟩
        rcases Nat.lt_or_ge s 5 with y | y
        · exact Or.inr ⟨y, z⟩
        · exact Or.inl (gm_mlet H.1 z y)
    · intro f k t2 hk hI ih
      refine br_f (nI_ge hk (by decide)) (gx_tellReach_found hn hk fun t3 h3 => nm_r (nI_1 k) (ih t3 fun s a b h1 h2 => ?_))
      rw [h3 s a b h1 h2, hI s a b h1 h2]
      have key := gr_mk hn S L C (s := k) (i := a) (j := b) (by omega)
      constructor
      · intro z
        rcases z with (z | z) | ⟨z1, z2⟩
        · exact Or.inl z
        · exact Or.inr ⟨by omega, z.2⟩
        · exact Or.inr ⟨by omega, by rw [z1]; exact key.mp ⟨h1, h2, z2⟩⟩
      · intro z
        rcases z with z | ⟨z1, z2⟩
        · exact Or.inl (Or.inl z)
        · by_cases e : s = k
          · rw [e] at z2
            exact Or.inr ⟨e, (key.mpr z2).2.2⟩
          · exact Or.inl (Or.inr ⟨by omega, z2⟩)
  refine pk_loop (fun f c (a : Nat → Int32) => wX_byReach__word_found_9 post (nI n) rs wl az f (nI c) rk rl ry wd t fo sg st a ag li fw bg le ls) (fun c a => ∀ x, x < c → a x = 0) 88 0 re (by omega) lt_0 ?_ ?_
  · intro f a ha
    refine br_t (nI_le (Nat.le_refl _) (by decide)) ?_
    refine pk_loop (fun f i (a : Nat → Int32) => wX_byReach__word_found_33 post (nI n) rs wl az f (nI i) rk rl ry wd t fo sg st a ag li fw bg le ls) (fun i a => ∀ s x b, s < 8 → x ≤ 10 → (bt (a (s * 11 + x)) b = true ↔ x < i ∧ s = 5 + w x ∧ b = x + 1)) n 0 a (by omega) (fun s x b hs hx => by rw [ha _ (by omega), b_0]; exact ⟨fun z => absurd z (by decide), fun z => absurd z.1 (by omega)⟩) ?_ ?_
    · intro f2 a2 hI
      refine br_t (nI_le (Nat.le_refl _) (by omega)) ?_
      have S0 : gr_S g w n a2 := fun s x b hs hx hb => by
        obtain ⟨z1, z2, z3⟩ := (hI s x b hs hx).mp hb
        rw [z2, z3]; exact gm_ml z1
      have L0 : gr_L w n a2 := fun i hi => by
        have := hw3 i
        exact (hI _ i _ (by omega) (by omega)).mpr ⟨hi, rfl, rfl⟩
      refine pk_loop (fun f c (s : Int32 × (Nat → Int32)) => wX_byReach__word_found_74 post (nI n) f s.1 (nI c) rs wl az rk rl ry wd t fo sg st s.2 ag li fw bg le ls) (fun c s => gr_S g w n s.2 ∧ gr_L w n s.2 ∧ ((s.1 = 1 ∧ c ≤ gr_n s.2) ∨ (s.1 = 0 ∧ gr_C g n s.2))) 605 0 (1, a2) (by omega) ⟨S0, L0, Or.inl ⟨rfl, Nat.zero_le _⟩⟩ ?_ ?_
      · intro f3 s ⟨S, L, A⟩
        refine br_t (nI_le (Nat.le_refl _) (by decide)) (tell s.2 S L ?_)
        rcases A with ⟨_, z⟩ | ⟨_, C⟩
        · have := gr_nS S
          omega
        · exact C
      · intro f3 c s hc ⟨S, L, A⟩ ih
        refine br_f (nI_ge hc (by decide)) ?_
        rcases A with ⟨e1, z⟩ | ⟨e1, C⟩
        · refine br_f (by rw [e1]; exact gx_10) (gx_widenReach H hn S L fun x re' R => nm_r (nI_1 c) (ih (x, re') ⟨R.1, R.2.1, ?_⟩))
          rcases R.2.2 with ⟨e2, e3, C⟩ | ⟨e2, e3⟩
          · refine Or.inr ⟨e2, ?_⟩
            rw [e3]
            exact fun r a b hr hp h1 hq => C r a b hr hp trivial h1 hq
          · exact Or.inl ⟨e2, by omega⟩
        · exact br_t e1 (tell s.2 S L C)
    · intro f2 i a2 hi hI ih
      have h3 := hw3 i
      refine br_f (nI_ge hi (by omega)) (And.intro (gx_in (by omega) (by decide)) ?_)
      rw [gx_cl (n := i) (by omega), hw i hi, gx_5, gx_c11, gx_cl (by omega), nI_1]
      refine And.intro (gx_in (by omega) (by decide)) (nm_e (nm_e (ih _ fun s x b hs hx => ?_)))
      rw [gb_u]
      by_cases e : s * 11 + x = (5 + w i) * 11 + i
      · have e1 : x = i := by omega
        have e2 : s = 5 + w i := by omega
        rw [if_pos e, gb_sg (by omega), e1, e2]
        exact ⟨fun z => ⟨by omega, rfl, z⟩, fun z => z.2.2⟩
      · rw [if_neg e, hI s x b hs hx]
        refine ⟨fun z => ⟨by omega, z.2⟩, fun z => ⟨?_, z.2⟩⟩
        by_cases e2 : x = i
        · have z2 := z.2.1
          rw [e2] at z2
          omega
        · omega
  · intro f c a hc hI ih
    refine br_f (nI_ge hc (by decide)) (And.intro (gx_in hc (by decide)) (nm_r (e' := upd a c 0) (by rw [gx_cl (by omega)]) (nm_r (nI_1 c) (ih _ ?_))))
    intro x hx
    rw [gb_u]
    split
    · rfl
    · exact hI x (by omega)
end xbyreach_found

section xbyreach_foundByOther
variable {rs wl az : Int32} {rk rl ry wd fd fo sg st re ag li fw bg le ls : Nat → Int32} {g : gm_G} {w : Nat → Nat} {n : Nat}
theorem gx_tellReach_foundByOther {post : SX → Prop} (hn : n ≤ 10) {k : Nat} (hk : k < 5) (h : ∀ t, (∀ s a b, a ≤ b → b ≤ n → (bt (t (a * 11 + b)) s = true ↔ bt (fo (a * 11 + b)) s = true ∨ (s = k ∧ bt (re (k * 11 + a)) b = true))) → post (rs, wl, az, rk, rl, ry, wd, fd, t, sg, st, re, ag, li, fw, bg, le, ls)) : wpX_tellReach__foundByOther post (rs, wl, az, rk, rl, ry, wd, fd, fo, sg, st, re, ag, li, fw, bg, le, ls) (nI k) (nI n) := by
  refine pk_loop (fun f i (t : Nat → Int32) => wX_tellReach__foundByOther_3 post (nI k) (nI n) rs wl az f (nI i) rk rl ry wd fd t sg st re ag li fw bg le ls) (fun i t => ∀ s a b, a ≤ b → b ≤ n → (bt (t (a * 11 + b)) s = true ↔ bt (fo (a * 11 + b)) s = true ∨ (a < i ∧ s = k ∧ bt (re (k * 11 + a)) b = true))) (n + 1) 0 fo (by omega) (fun s a b _ _ => ⟨Or.inl, fun z => z.resolve_right fun y => absurd y.1 (by omega)⟩) ?_ ?_
  · intro f t hI
    refine br_t (nI_lt (Nat.lt_succ_self n) (by omega)) (h t fun s a b h1 h2 => ?_)
    rw [hI s a b h1 h2]
    exact ⟨fun z => z.imp id fun y => y.2, fun z => z.imp id fun y => ⟨by omega, y⟩⟩
  · intro f i t hi hI ih
    refine br_f (nI_nlt (by omega) (by omega)) ?_
    refine pk_loop (fun f2 j (t : Nat → Int32) => wX_tellReach__foundByOther_13 post (wX_tellReach__foundByOther_3 post (nI k) (nI n) rs wl az f) (nI k) (nI n) (nI i) rs wl az f2 (nI j) rk rl ry wd fd t sg st re ag li fw bg le ls) (fun j t => i ≤ j ∧ ∀ s a b, a ≤ b → b ≤ n → (bt (t (a * 11 + b)) s = true ↔ bt (fo (a * 11 + b)) s = true ∨ ((a < i ∨ (a = i ∧ b < j)) ∧ s = k ∧ bt (re (k * 11 + a)) b = true))) (n + 1) i t (by omega) ⟨Nat.le_refl _, fun s a b h1 h2 => ?_⟩ ?_ ?_
    · rw [hI s a b h1 h2]
      exact ⟨fun z => z.imp id fun y => ⟨Or.inl y.1, y.2⟩, fun z => z.imp id fun y => ⟨by omega, y.2⟩⟩
    · intro f2 t2 ⟨_, hI2⟩
      refine br_t (nI_lt (Nat.lt_succ_self n) (by omega)) (nm_r (nI_1 i) (ih t2 fun s a b h1 h2 => ?_))
      rw [hI2 s a b h1 h2]
      exact ⟨fun z => z.imp id fun y => ⟨by omega, y.2⟩, fun z => z.imp id fun y => ⟨by omega, y.2⟩⟩
    · intro f2 j t2 hj ⟨hij, hI2⟩ ih2
      refine br_f (nI_nlt (by omega) (by omega)) ?_
      rw [gx_c11, gx_c11, gx_cl (by omega), gx_cl (by omega)]
      refine And.intro (gx_in (by omega) (by decide)) (gx_bit (by omega) (fun hb => And.intro (gx_in (by omega) (by decide)) (And.intro (gx_in (by omega) (by decide)) (nm_e (nm_r (nI_1 j) (ih2 _ ⟨by omega, fun s a b h1 h2 => ?_⟩))))) (fun hb => nm_r (nI_1 j) (ih2 _ ⟨by omega, fun s a b h1 h2 => ?_⟩)))
      · rw [gb_u]
        by_cases e : a * 11 + b = i * 11 + j
        · have e1 : a = i := by omega
          have e2 : b = j := by omega
          rw [if_pos e, gb_add _ (by omega), e1, e2, hI2 s i j hij (by omega)]
          constructor
          · intro z
            rcases z with (z | z) | z
            · exact Or.inl z
            · exact absurd z.1 (by omega)
            · exact Or.inr ⟨by omega, z, hb⟩
          · intro z
            rcases z with z | z
            · exact Or.inl (Or.inl z)
            · exact Or.inr z.2.1
        · rw [if_neg e, hI2 s a b h1 h2]
          exact ⟨fun z => z.imp id fun y => ⟨by omega, y.2⟩, fun z => z.imp id fun y => ⟨by omega, y.2⟩⟩
      · rw [hI2 s a b h1 h2]
        refine ⟨fun z => z.imp id fun y => ⟨by omega, y.2⟩, fun z => z.imp id fun y => ⟨?_, y.2⟩⟩
        by_cases e : a = i ∧ b = j
        · have y3 := y.2.2
          rw [e.1, e.2, hb] at y3
          exact absurd y3 (by decide)
        · omega
theorem gx_byReach_foundByOther {post : SX → Prop} (H : gx_G g rs rk rl ry) (hw : ∀ i, i < n → wd i = nI (w i)) (hw3 : ∀ i, w i < 3) (hn : n ≤ 10) (h : ∀ t re', gt_ok g w n t → post (rs, wl, az, rk, rl, ry, wd, fd, t, sg, st, re', ag, li, fw, bg, le, ls)) : wpX_byReach__word_foundByOther post (rs, wl, az, rk, rl, ry, wd, fd, fo, sg, st, re, ag, li, fw, bg, le, ls) (nI n) := by
  unfold wpX_byReach__word_foundByOther
  refine gx_putLetters_word_foundByOther hw hw3 hn fun t P => ?_
  have tell : ∀ re', gr_S g w n re' → gr_L w n re' → gr_C g n re' → ∃ f, wX_byReach__word_foundByOther_103 post (nI n) f 0 rs wl az rk rl ry wd fd t sg st re' ag li fw bg le ls := by
    intro re' S L C
    refine pk_loop (fun f k (t : Nat → Int32) => wX_byReach__word_foundByOther_103 post (nI n) f (nI k) rs wl az rk rl ry wd fd t sg st re' ag li fw bg le ls) (fun k t => ∀ s a b, a ≤ b → b ≤ n → (bt (t (a * 11 + b)) s = true ↔ (a < n ∧ b = a + 1 ∧ s = 5 + w a) ∨ (s < k ∧ gm_mk g w n s a b))) 5 0 t (by omega) (fun s a b h1 h2 => (P s a b (by omega) (by omega)).trans ⟨Or.inl, fun z => z.resolve_right fun y => absurd y.1 (by omega)⟩) ?_ ?_
    · intro f t2 hI
      refine br_t (nI_le (Nat.le_refl _) (by decide)) (h t2 re' fun s i j => ?_)
      constructor
      · intro ⟨h1, h2, h3⟩
        rcases (hI s i j h1 h2).mp h3 with z | z
        · rw [z.2.1, z.2.2]; exact gm_ml z.1
        · exact z.2
      · intro z
        have hb := gm_mb z
        refine ⟨hb.1, hb.2, (hI s i j hb.1 hb.2).mpr ?_⟩
        rcases Nat.lt_or_ge s 5 with y | y
        · exact Or.inr ⟨y, z⟩
        · exact Or.inl (gm_mlet H.1 z y)
    · intro f k t2 hk hI ih
      refine br_f (nI_ge hk (by decide)) (gx_tellReach_foundByOther hn hk fun t3 h3 => nm_r (nI_1 k) (ih t3 fun s a b h1 h2 => ?_))
      rw [h3 s a b h1 h2, hI s a b h1 h2]
      have key := gr_mk hn S L C (s := k) (i := a) (j := b) (by omega)
      constructor
      · intro z
        rcases z with (z | z) | ⟨z1, z2⟩
        · exact Or.inl z
        · exact Or.inr ⟨by omega, z.2⟩
        · exact Or.inr ⟨by omega, by rw [z1]; exact key.mp ⟨h1, h2, z2⟩⟩
      · intro z
        rcases z with z | ⟨z1, z2⟩
        · exact Or.inl (Or.inl z)
        · by_cases e : s = k
          · rw [e] at z2
            exact Or.inr ⟨e, (key.mpr z2).2.2⟩
          · exact Or.inl (Or.inr ⟨by omega, z2⟩)
  refine pk_loop (fun f c (a : Nat → Int32) => wX_byReach__word_foundByOther_9 post (nI n) rs wl az f (nI c) rk rl ry wd fd t sg st a ag li fw bg le ls) (fun c a => ∀ x, x < c → a x = 0) 88 0 re (by omega) lt_0 ?_ ?_
  · intro f a ha
    refine br_t (nI_le (Nat.le_refl _) (by decide)) ?_
    refine pk_loop (fun f i (a : Nat → Int32) => wX_byReach__word_foundByOther_33 post (nI n) rs wl az f (nI i) rk rl ry wd fd t sg st a ag li fw bg le ls) (fun i a => ∀ s x b, s < 8 → x ≤ 10 → (bt (a (s * 11 + x)) b = true ↔ x < i ∧ s = 5 + w x ∧ b = x + 1)) n 0 a (by omega) (fun s x b hs hx => by rw [ha _ (by omega), b_0]; exact ⟨fun z => absurd z (by decide), fun z => absurd z.1 (by omega)⟩) ?_ ?_
    · intro f2 a2 hI
      refine br_t (nI_le (Nat.le_refl _) (by omega)) ?_
      have S0 : gr_S g w n a2 := fun s x b hs hx hb => by
        obtain ⟨z1, z2, z3⟩ := (hI s x b hs hx).mp hb
        rw [z2, z3]; exact gm_ml z1
      have L0 : gr_L w n a2 := fun i hi => by
        have := hw3 i
        exact (hI _ i _ (by omega) (by omega)).mpr ⟨hi, rfl, rfl⟩
      refine pk_loop (fun f c (s : Int32 × (Nat → Int32)) => wX_byReach__word_foundByOther_74 post (nI n) f s.1 (nI c) rs wl az rk rl ry wd fd t sg st s.2 ag li fw bg le ls) (fun c s => gr_S g w n s.2 ∧ gr_L w n s.2 ∧ ((s.1 = 1 ∧ c ≤ gr_n s.2) ∨ (s.1 = 0 ∧ gr_C g n s.2))) 605 0 (1, a2) (by omega) ⟨S0, L0, Or.inl ⟨rfl, Nat.zero_le _⟩⟩ ?_ ?_
      · intro f3 s ⟨S, L, A⟩
        refine br_t (nI_le (Nat.le_refl _) (by decide)) (tell s.2 S L ?_)
        rcases A with ⟨_, z⟩ | ⟨_, C⟩
        · have := gr_nS S
          omega
        · exact C
      · intro f3 c s hc ⟨S, L, A⟩ ih
        refine br_f (nI_ge hc (by decide)) ?_
        rcases A with ⟨e1, z⟩ | ⟨e1, C⟩
        · refine br_f (by rw [e1]; exact gx_10) (gx_widenReach H hn S L fun x re' R => nm_r (nI_1 c) (ih (x, re') ⟨R.1, R.2.1, ?_⟩))
          rcases R.2.2 with ⟨e2, e3, C⟩ | ⟨e2, e3⟩
          · refine Or.inr ⟨e2, ?_⟩
            rw [e3]
            exact fun r a b hr hp h1 hq => C r a b hr hp trivial h1 hq
          · exact Or.inl ⟨e2, by omega⟩
        · exact br_t e1 (tell s.2 S L C)
    · intro f2 i a2 hi hI ih
      have h3 := hw3 i
      refine br_f (nI_ge hi (by omega)) (And.intro (gx_in (by omega) (by decide)) ?_)
      rw [gx_cl (n := i) (by omega), hw i hi, gx_5, gx_c11, gx_cl (by omega), nI_1]
      refine And.intro (gx_in (by omega) (by decide)) (nm_e (nm_e (ih _ fun s x b hs hx => ?_)))
      rw [gb_u]
      by_cases e : s * 11 + x = (5 + w i) * 11 + i
      · have e1 : x = i := by omega
        have e2 : s = 5 + w i := by omega
        rw [if_pos e, gb_sg (by omega), e1, e2]
        exact ⟨fun z => ⟨by omega, rfl, z⟩, fun z => z.2.2⟩
      · rw [if_neg e, hI s x b hs hx]
        refine ⟨fun z => ⟨by omega, z.2⟩, fun z => ⟨?_, z.2⟩⟩
        by_cases e2 : x = i
        · have z2 := z.2.1
          rw [e2] at z2
          omega
        · omega
  · intro f c a hc hI ih
    refine br_f (nI_ge hc (by decide)) (And.intro (gx_in hc (by decide)) (nm_r (e' := upd a c 0) (by rw [gx_cl (by omega)]) (nm_r (nI_1 c) (ih _ ?_))))
    intro x hx
    rw [gb_u]
    split
    · rfl
    · exact hI x (by omega)
end xbyreach_foundByOther
end
section
/-! engine 2: starts; Z st p r d i: the place i is among the starts of point d of rule r at place p -/
def gq_Z (st : Nat → Int32) (p r d i : Nat) : Prop := bt (st (p * 64 + r * 4 + d)) i = true
def gq_S (g : gm_G) (w : Nat → Nat) (n q : Nat) (st : Nat → Int32) : Prop := ∀ p r d i, p < q → r < 16 → d < 4 → gq_Z st p r d i → gm_p g r = true ∧ i ≤ p ∧ gm_q g (gm_mk g w n) r d i p
theorem gq_full {g : gm_G} {w : Nat → Nat} {n p : Nat} {st : Nat → Int32} (S : gq_S g w n (p + 1) st) : gq_n st p < 704 := by
  apply Classical.byContradiction
  intro h
  have f := gc_nfull 704 (Nat.le_of_not_lt h)
  rcases Nat.eq_zero_or_pos p with z | z
  · have h1 : bt (st (p * 64 + 1 / 11)) (1 % 11) = true := f 1 (by decide)
    have h2 : p = 1 := ((S p 0 0 1 (by omega) (by decide) (by decide) h1).2.2).symm
    omega
  · have h1 : bt (st (p * 64 + 0 / 11)) (0 % 11) = true := f 0 (by decide)
    have h2 : p = 0 := ((S p 0 0 0 (by omega) (by decide) (by decide) h1).2.2).symm
    omega
theorem gx_i64 (p r d : Nat) : nI p * 64 + nI r * 4 + nI d = nI (p * 64 + r * 4 + d) := by
  rw [show (64 : Int32) = nI 64 from rfl, show (4 : Int32) = nI 4 from rfl, pk_mul, pk_mul, nI_add, nI_add]
theorem gx_i64r (p r : Nat) : nI p * 64 + nI r * 4 = nI (p * 64 + r * 4) := by
  rw [show (64 : Int32) = nI 64 from rfl, show (4 : Int32) = nI 4 from rfl, pk_mul, pk_mul, nI_add]
theorem gx_i64p (p c : Nat) : nI p * 64 + nI c = nI (p * 64 + c) := by
  rw [show (64 : Int32) = nI 64 from rfl, pk_mul, nI_add]
/-- what passing symbol s from m to p may do to the starts -/
def gq_R (g : gm_G) (w : Nat → Nat) (n p s m : Nat) (st0 : Nat → Int32) (D : Nat → Nat → Prop) (u : Int32 × (Nat → Int32)) : Prop :=
  gq_S g w n (p + 1) u.2 ∧ (∀ c, c < p * 64 → u.2 c = st0 c) ∧ (∀ c i, bt (st0 c) i = true → bt (u.2 c) i = true) ∧
  (m < p → ∀ r d i, r < 16 → d < gm_l g r → D r d → gm_y g r d = s → gq_Z st0 m r d i → gq_Z u.2 p r (d + 1) i) ∧
  ((u.1 = 0 ∧ u.2 = st0 ∧ ∀ r d i, r < 16 → d < gm_l g r → D r d → gm_y g r d = s → gq_Z st0 m r d i → gq_Z st0 p r (d + 1) i) ∨ (u.1 = 1 ∧ gq_n st0 p < gq_n u.2 p))
theorem gq_Rw {g : gm_G} {w : Nat → Nat} {n p s m : Nat} {st0 : Nat → Int32} {D D' : Nat → Nat → Prop} {u : Int32 × (Nat → Int32)} (h : ∀ r d, r < 16 → d < gm_l g r → D' r d → gm_y g r d = s → D r d) (I : gq_R g w n p s m st0 D u) : gq_R g w n p s m st0 D' u :=
  ⟨I.1, I.2.1, I.2.2.1, fun hm r d i hr hd hD hy => I.2.2.2.1 hm r d i hr hd (h r d hr hd hD hy) hy, I.2.2.2.2.imp (fun z => ⟨z.1, z.2.1, fun r d i hr hd hD hy => z.2.2 r d i hr hd (h r d hr hd hD hy) hy⟩) id⟩
theorem gq_Rs {g : gm_G} (G : gm_ok g) {w : Nat → Nat} {n p s m r d : Nat} {st0 st : Nat → Int32} {D D' : Nat → Nat → Prop} {x : Int32} (hp : p ≤ 10) (hmp : m ≤ p) (hmk : gm_mk g w n s m p) (hr : r < 16) (hd : d < gm_l g r) (hy : gm_y g r d = s) (I : gq_R g w n p s m st0 D (x, st)) (hD : ∀ c e, D' c e → D c e ∨ (c = r ∧ e = d)) :
    ((st (m * 64 + r * 4 + d) &&& (st (p * 64 + r * 4 + d + 1) ^^^ (-1))) = 0 → gq_R g w n p s m st0 D' (x, st)) ∧
    (¬ (st (m * 64 + r * 4 + d) &&& (st (p * 64 + r * 4 + d + 1) ^^^ (-1))) = 0 → gq_R g w n p s m st0 D' (1, upd st (p * 64 + r * 4 + d + 1) (st (p * 64 + r * 4 + d + 1) ||| st (m * 64 + r * 4 + d)))) := by
  have h3 := G.2.1 r
  obtain ⟨S, hlo, hmo, hlet, A⟩ := I
  have S : gq_S g w n (p + 1) st := S
  have hlo : ∀ c, c < p * 64 → st c = st0 c := hlo
  have hmo : ∀ c i, bt (st0 c) i = true → bt (st c) i = true := hmo
  constructor
  · intro h0
    have key : ∀ i, gq_Z st m r d i → gq_Z st p r (d + 1) i := fun i hi => by
      have h5 := congrArg (fun z => bt z i) (gt_or0 h0)
      show bt (st (p * 64 + r * 4 + d + 1)) i = true
      rw [← h5, gb_or]
      exact Or.inr hi
    refine ⟨S, hlo, hmo, fun hm c e i hc he hDc hyc hz => ?_, A.imp (fun z => ⟨z.1, z.2.1, fun c e i hc he hDc hyc hz => ?_⟩) id⟩
    · rcases hD c e hDc with y | ⟨y1, y2⟩
      · exact hlet hm c e i hc he y hyc hz
      · subst y1 y2
        exact key i (hmo _ _ hz)
    · have e2 : st = st0 := z.2.1
      rcases hD c e hDc with y | ⟨y1, y2⟩
      · exact z.2.2 c e i hc he y hyc hz
      · subst y1 y2
        rw [← e2] at hz ⊢
        exact key i hz
  · intro h1
    have M : ∀ c i, bt (st c) i = true → bt (upd st (p * 64 + r * 4 + d + 1) (st (p * 64 + r * 4 + d + 1) ||| st (m * 64 + r * 4 + d)) c) i = true := fun c i h => gt_orM c i h
    refine ⟨?_, fun c hc => ?_, fun c i h => M c i (hmo c i h), fun hm c e i hc he hDc hyc hz => ?_, Or.inr ⟨rfl, ?_⟩⟩
    · intro q c e i hq hc he hz
      have hz : bt (upd st (p * 64 + r * 4 + d + 1) (st (p * 64 + r * 4 + d + 1) ||| st (m * 64 + r * 4 + d)) (q * 64 + c * 4 + e)) i = true := hz
      rw [gb_u] at hz
      by_cases e1 : q * 64 + c * 4 + e = p * 64 + r * 4 + d + 1
      · have a1 : q = p := by omega
        have a2 : c = r := by omega
        have a3 : e = d + 1 := by omega
        rw [if_pos e1, gb_or] at hz
        rcases hz with z | z
        · exact S q c e i hq hc he (by unfold gq_Z; rw [e1]; exact z)
        · obtain ⟨b1, b2, b3⟩ := S m r d i (by omega) hr (by omega) z
          rw [a1, a2, a3]
          refine ⟨b1, by omega, m, b3, ?_⟩
          rw [hy]
          exact hmk
      · rw [if_neg e1] at hz
        exact S q c e i hq hc he hz
    · show upd st (p * 64 + r * 4 + d + 1) _ c = st0 c
      rw [gb_u, if_neg (by omega)]
      exact hlo c hc
    · show bt (upd st (p * 64 + r * 4 + d + 1) _ (p * 64 + c * 4 + (e + 1))) i = true
      rcases hD c e hDc with y | ⟨y1, y2⟩
      · exact M _ _ (hlet hm c e i hc he y hyc hz)
      · subst y1 y2
        rw [gb_us (by omega), gb_or]
        exact Or.inr (hmo _ _ hz)
    · obtain ⟨i, hi, b1, b2⟩ := (gb_new _ _).mp h1
      obtain ⟨c1, c2, c3⟩ := S m r d i (by omega) hr (by omega) b1
      have h6 : gq_n st p < gq_n (upd st (p * 64 + r * 4 + d + 1) (st (p * 64 + r * 4 + d + 1) ||| st (m * 64 + r * 4 + d))) p := gq_nlt M (c := r * 4 + d + 1) (i := i) (by omega) (by omega) (by rw [← Nat.add_assoc, ← Nat.add_assoc]; exact b2) (by rw [gb_us (by omega), gb_or]; exact Or.inr b1)
      rcases A with ⟨_, e2, _⟩ | ⟨_, e2⟩
      · have e2 : st = st0 := e2
        rw [← e2]; exact h6
      · exact Nat.lt_trans e2 h6
section xstarts
variable {rs wl az : Int32} {rk rl ry wd fd fo sg st re ag li fw bg le ls : Nat → Int32} {g : gm_G} {w : Nat → Nat} {n : Nat}
theorem gx_beginRulesAt {post : SX → Prop} (H : gx_G g rs rk rl ry) {p : Nat} (hp : p ≤ 10) (h : ∀ st', (∀ c, c < p * 64 → st' c = st c) → (∀ r d i, r < 16 → d < 4 → (gq_Z st' p r d i ↔ d = 0 ∧ gm_p g r = true ∧ i = p)) → post (rs, wl, az, rk, rl, ry, wd, fd, fo, sg, st', re, ag, li, fw, bg, le, ls)) : wpX_beginRulesAt post (rs, wl, az, rk, rl, ry, wd, fd, fo, sg, st, re, ag, li, fw, bg, le, ls) (nI p) := by
  refine pk_loop (fun f c (a : Nat → Int32) => wX_beginRulesAt_2 post (nI p) rs wl az f (nI c) rk rl ry wd fd fo sg a re ag li fw bg le ls) (fun c a => (∀ x, x < p * 64 → a x = st x) ∧ ∀ x, x < c → a (p * 64 + x) = 0) 64 0 st (by omega) ⟨fun _ _ => rfl, lt_0⟩ ?_ ?_
  · intro f a ⟨h1, h2⟩
    refine br_t (nI_le (Nat.le_refl _) (by decide)) ?_
    refine pk_loop (fun f r (a : Nat → Int32) => wX_beginRulesAt_28 post (nI p) rs wl az f (nI r) rk rl ry wd fd fo sg a re ag li fw bg le ls) (fun r a => (∀ x, x < p * 64 → a x = st x) ∧ ∀ c d i, c < 16 → d < 4 → (gq_Z a p c d i ↔ c < r ∧ d = 0 ∧ gm_p g c = true ∧ i = p)) 16 0 a (by omega) ⟨h1, fun c d i hc hd => ?_⟩ ?_ ?_
    · unfold gq_Z
      rw [Nat.add_assoc, h2 (c * 4 + d) (by omega), b_0]
      exact ⟨fun z => absurd z (by decide), fun z => absurd z.1 (by omega)⟩
    · intro f2 a2 ⟨h3, h4⟩
      refine br_t (nI_le (Nat.le_refl _) (by decide)) (h a2 h3 fun r d i hr hd => ?_)
      rw [h4 r d i hr hd]
      exact ⟨fun z => z.2, fun z => ⟨hr, z⟩⟩
    · intro f2 r a2 hr ⟨h3, h4⟩ ih
      refine br_f (nI_ge hr (by decide)) (gx_hasRule H hr (fun hpr => br_f gx_10 ?_) (fun hpr => br_t rfl (nm_r (nI_1 r) (ih a2 ⟨h3, fun c d i hc hd => ?_⟩))))
      · rw [gx_i64r, gx_cl (by omega)]
        refine And.intro (gx_in (by omega) (by decide)) (nm_e (nm_r (nI_1 r) (ih _ ⟨fun x hx => ?_, fun c d i hc hd => ?_⟩)))
        · rw [gb_u, if_neg (by omega)]
          exact h3 x hx
        · unfold gq_Z
          rw [gb_u]
          by_cases e : p * 64 + c * 4 + d = p * 64 + r * 4
          · have e1 : c = r := by omega
            have e2 : d = 0 := by omega
            rw [if_pos e, gb_sg (by omega), e1, e2]
            exact ⟨fun z => ⟨by omega, rfl, hpr, z⟩, fun z => z.2.2.2⟩
          · rw [if_neg e]
            refine (h4 c d i hc hd).trans ⟨fun z => ⟨by omega, z.2⟩, fun z => ⟨?_, z.2⟩⟩
            have := z.2.1
            omega
      · refine (h4 c d i hc hd).trans ⟨fun z => ⟨by omega, z.2⟩, fun z => ⟨?_, z.2⟩⟩
        by_cases e : c = r
        · have z2 := z.2.2.1
          rw [e, hpr] at z2
          exact absurd z2 (by decide)
        · omega
  · intro f c a hc ⟨h1, h2⟩ ih
    refine br_f (nI_ge hc (by decide)) ?_
    rw [gx_i64p, gx_cl (by omega)]
    refine And.intro (gx_in (by omega) (by decide)) (nm_e (nm_r (nI_1 c) (ih _ ⟨fun x hx => ?_, fun x hx => ?_⟩)))
    · rw [gb_u, if_neg (by omega)]
      exact h1 x hx
    · rw [gb_u]
      by_cases e : x = c
      · rw [if_pos (by omega)]
      · rw [if_neg (by omega)]
        exact h2 x (by omega)
theorem gx_passSymbol {post : Int32 → SX → Prop} (H : gx_G g rs rk rl ry) {p s m : Nat} (hp : p ≤ 10) (hmp : m ≤ p) (hs : s < 8) (hmk : gm_mk g w n s m p) (S : gq_S g w n (p + 1) st) (h : ∀ x st', gq_R g w n p s m st (fun _ _ => True) (x, st') → post x (rs, wl, az, rk, rl, ry, wd, fd, fo, sg, st', re, ag, li, fw, bg, le, ls)) : wpX_passSymbol post (rs, wl, az, rk, rl, ry, wd, fd, fo, sg, st, re, ag, li, fw, bg, le, ls) (nI s) (nI m) (nI p) := by
  refine pk_loop (fun f r (u : Int32 × (Nat → Int32)) => wX_passSymbol_6 post (nI s) (nI m) (nI p) rs wl az f u.1 (nI r) rk rl ry wd fd fo sg u.2 re ag li fw bg le ls) (fun r u => gq_R g w n p s m st (fun c _ => c < r) u) 16 0 (0, st) (by omega) ⟨S, fun _ _ => rfl, fun _ _ z => z, fun _ r d i _ _ z => absurd z (by omega), Or.inl ⟨rfl, rfl, fun r d i _ _ z => absurd z (by omega)⟩⟩ ?_ ?_
  · intro f ⟨x, st1⟩ I
    refine br_t (nI_le (Nat.le_refl _) (by decide)) (And.intro (gy_nar ?_) (h x st1 (gq_Rw (fun r d hr _ _ _ => hr) I)))
    rcases I.2.2.2.2 with ⟨e, _⟩ | ⟨e, _⟩
    · exact Or.inl e
    · exact Or.inr e
  · intro f r u hr I ih
    have h3 := H.1.2.1 r
    have el := gx_Gl H hr
    refine br_f (nI_ge hr (by decide)) ?_
    refine pk_loop (fun f2 d (u : Int32 × (Nat → Int32)) => wX_passSymbol_16 post (wX_passSymbol_6 post (nI s) (nI m) (nI p) rs wl az f) (nI s) (nI m) (nI p) (nI r) rs wl az f2 u.1 (nI d) rk rl ry wd fd fo sg u.2 re ag li fw bg le ls) (fun d u => gq_R g w n p s m st (fun c e => c < r ∨ (c = r ∧ e < d)) u) (gm_l g r) 0 u (by omega) (gq_Rw (fun c e _ _ z _ => by omega) I) ?_ ?_
    · intro f2 u2 I2
      refine And.intro (gx_in hr (by decide)) (br_t (by rw [el]; exact nI_le (Nat.le_refl _) (by omega)) (nm_r (nI_1 r) (ih u2 (gq_Rw (fun c e hc he z _ => ?_) I2))))
      by_cases e1 : c = r
      · subst e1; exact Or.inr ⟨rfl, he⟩
      · exact Or.inl (by omega)
    · intro f2 d ⟨x2, st2⟩ hd I2 ih2
      refine And.intro (gx_in hr (by decide)) (br_f (by rw [el]; exact nI_ge hd (by omega)) (gx_symbolAt H hr (by omega) ?_))
      have h8 := H.1.2.2 r d
      rw [gx_i64, gx_i64, nI_1, gx_cl (n := m * 64 + r * 4 + d) (by omega)]
      refine And.intro (gx_in (by omega) (by decide)) (nm_e (nm_e (pk_eq (gm_y g r d) s (fun hy => ?_) (fun hy => nm_r (nI_1 d) (ih2 (x2, st2) (gq_Rw (fun c e hc he z hyc => ?_) I2))))))
      · rw [gx_cl (by omega)]
        obtain ⟨a1, a2⟩ := gq_Rs H.1 hp hmp hmk hr hd hy I2 (D' := fun c e => c < r ∨ (c = r ∧ e < d + 1)) (fun c e z => by omega)
        have v : vp_in (nI (p * 64 + r * 4 + d + 1)) 704 := gx_in (by omega) (by decide)
        exact And.intro v (br_c (fun y0 => nm_r (nI_1 d) (ih2 (x2, st2) (a1 y0))) (fun y0 => And.intro v (And.intro v (nm_e (nm_r (nI_1 d) (ih2 (1, _) (a2 y0)))))))
      · by_cases e1 : c = r ∧ e = d
        · rw [e1.1, e1.2] at hyc
          exact absurd hyc hy
        · omega
def gq_F (g : gm_G) (w : Nat → Nat) (n p : Nat) (st0 : Nat → Int32) (D : Nat → Nat → Prop) (u : Int32 × (Nat → Int32)) : Prop :=
  gq_S g w n (p + 1) u.2 ∧ (∀ c, c < p * 64 → u.2 c = st0 c) ∧ (∀ c i, bt (st0 c) i = true → bt (u.2 c) i = true) ∧
  ((u.1 = 0 ∧ u.2 = st0 ∧ ∀ c m, D c m → c < 16 → m ≤ p → gq_Z st0 p c (gm_l g c) m → ∀ r d i, r < 16 → d < gm_l g r → gm_y g r d = gm_k g c → gq_Z st0 m r d i → gq_Z st0 p r (d + 1) i) ∨ (u.1 = 1 ∧ gq_n st0 p < gq_n u.2 p))
theorem gq_Fw {g : gm_G} {w : Nat → Nat} {n p : Nat} {st0 : Nat → Int32} {D D' : Nat → Nat → Prop} {u : Int32 × (Nat → Int32)} (h : ∀ c m, c < 16 → m ≤ p → D' c m → D c m) (I : gq_F g w n p st0 D u) : gq_F g w n p st0 D' u :=
  ⟨I.1, I.2.1, I.2.2.1, I.2.2.2.imp (fun z => ⟨z.1, z.2.1, fun c m hD hc hm hz => z.2.2 c m (h c m hc hm hD) hc hm hz⟩) id⟩
theorem gx_passFinished {post : Int32 → SX → Prop} (H : gx_G g rs rk rl ry) {p : Nat} (hn : n ≤ 10) (hp : p ≤ n) (S : gq_S g w n (p + 1) st) (h : ∀ x st', gq_F g w n p st (fun _ _ => True) (x, st') → post x (rs, wl, az, rk, rl, ry, wd, fd, fo, sg, st', re, ag, li, fw, bg, le, ls)) : wpX_passFinished post (rs, wl, az, rk, rl, ry, wd, fd, fo, sg, st, re, ag, li, fw, bg, le, ls) (nI p) := by
  refine pk_loop (fun f r (u : Int32 × (Nat → Int32)) => wX_passFinished_4 post (nI p) f u.1 (nI r) rs wl az rk rl ry wd fd fo sg u.2 re ag li fw bg le ls) (fun r u => gq_F g w n p st (fun c _ => c < r) u) 16 0 (0, st) (by omega) ⟨S, fun _ _ => rfl, fun _ _ z => z, Or.inl ⟨rfl, rfl, fun c m z => absurd z (by omega)⟩⟩ ?_ ?_
  · intro f ⟨x, st1⟩ I
    refine br_t (nI_le (Nat.le_refl _) (by decide)) (And.intro (gy_nar ?_) (h x st1 (gq_Fw (fun c m hc _ _ => hc) I)))
    rcases I.2.2.2 with ⟨e, _⟩ | ⟨e, _⟩
    · exact Or.inl e
    · exact Or.inr e
  · intro f r u hr I ih
    have h3 := H.1.2.1 r
    have hk := H.1.1 r
    refine br_f (nI_ge hr (by decide)) (And.intro (gx_in hr (by decide)) (nm_r (e' := nI (p * 64 + r * 4 + gm_l g r)) (by rw [gx_Gl H hr, gx_i64]) ?_))
    refine pk_loop (fun f2 m (u : Int32 × (Nat → Int32)) => wX_passFinished_30 post (wX_passFinished_4 post (nI p) f) (nI p) (nI r) (nI (p * 64 + r * 4 + gm_l g r)) f2 u.1 (nI m) rs wl az rk rl ry wd fd fo sg u.2 re ag li fw bg le ls) (fun m u => gq_F g w n p st (fun c x => c < r ∨ (c = r ∧ x < m)) u) (p + 1) 0 u (by omega) (gq_Fw (fun c x _ _ z => by omega) I) ?_ ?_
    · intro f2 u2 I2
      exact br_t (nI_lt (Nat.lt_succ_self p) (by omega)) (nm_r (nI_1 r) (ih u2 (gq_Fw (fun c x _ _ z => by omega) I2)))
    · intro f2 m ⟨x2, st2⟩ hm I2 ih2
      refine br_f (nI_nlt (by omega) (by omega)) (And.intro (gx_in (by omega) (by decide)) ?_)
      rw [gx_cl (n := p * 64 + r * 4 + gm_l g r) (by omega)]
      refine gx_bit (by omega) (fun hb => And.intro (gx_in hr (by decide)) ?_) (fun hb => nm_r (nI_1 m) (ih2 (x2, st2) ⟨I2.1, I2.2.1, I2.2.2.1, I2.2.2.2.imp (fun z => ⟨z.1, z.2.1, fun c x hD hc hx hz => ?_⟩) id⟩))
      · rw [gx_Gk H hr]
        obtain ⟨S2, lo2, mo2, A2⟩ := I2
        have S2 : gq_S g w n (p + 1) st2 := S2
        have hz2 := S2 p r (gm_l g r) m (by omega) hr (by omega) hb
        refine gx_passSymbol H (by omega) (by omega) (by omega) (gm_mr hr hz2.1 hz2.2.1 hp hz2.2.2) S2 fun x3 st3 R3 => ?_
        obtain ⟨S3, lo3, mo3, _, A3⟩ := R3
        have keep1 : gq_n st p < gq_n st3 p → gq_F g w n p st (fun c x => c < r ∨ (c = r ∧ x < m + 1)) (1, st3) := fun z => ⟨S3, fun c hc => (lo3 c hc).trans (lo2 c hc), fun c i hi => mo3 c i (mo2 c i hi), Or.inr ⟨rfl, z⟩⟩
        refine br_c (fun x0 => br_c (fun y0 => nm_r (nI_1 m) (ih2 (0, st3) ?_)) (fun y0 => nm_r (nI_1 m) (ih2 (1, st3) (keep1 ?_)))) (fun x0 => nm_r (nI_1 m) (ih2 (1, st3) (keep1 ?_)))
        · rcases A3 with ⟨_, e3, C3⟩ | ⟨e3, _⟩
          · have e3 : st3 = st2 := e3
            rcases A2 with ⟨_, e2, C2⟩ | ⟨e2, _⟩
            · have e2 : st2 = st := e2
              subst e3 e2
              refine ⟨S3, fun c hc => lo3 c hc, fun c i hi => mo3 c i hi, Or.inl ⟨rfl, rfl, fun c x hD hc hx hz => ?_⟩⟩
              rcases hD with y | ⟨y1, y2⟩
              · exact C2 c x (Or.inl y) hc hx hz
              · by_cases e4 : x = m
                · subst y1 e4
                  exact fun r d i hr hd hy hz => C3 r d i hr hd trivial hy hz
                · exact C2 c x (Or.inr ⟨y1, by omega⟩) hc hx hz
            · have e2 : x2 = 1 := e2
              have x0 : x2 = 0 := x0
              rw [x0] at e2
              exact absurd e2 (by decide)
          · have e3 : x3 = 1 := e3
            rw [y0] at e3
            exact absurd e3 (by decide)
        · rcases A3 with ⟨e3, _, _⟩ | ⟨_, e3⟩
          · exact absurd e3 y0
          · have e3 : gq_n st2 p < gq_n st3 p := e3
            rcases A2 with ⟨_, e2, _⟩ | ⟨_, e2⟩
            · have e2 : st2 = st := e2
              rw [← e2]; exact e3
            · exact Nat.lt_trans e2 e3
        · rcases A2 with ⟨e2, _, _⟩ | ⟨_, e2⟩
          · exact absurd e2 x0
          · exact Nat.lt_of_lt_of_le e2 (gq_nle mo3)
      · have e2 : st2 = st := z.2.1
        rcases hD with y | ⟨y1, y2⟩
        · exact z.2.2 c x (Or.inl y) hc hx hz
        · by_cases e4 : x = m
          · subst y1 e4
            unfold gq_Z at hz
            have hb : bt (st2 (p * 64 + c * 4 + gm_l g c)) x = false := hb
            rw [← e2, hb] at hz
            exact absurd hz (by decide)
          · exact z.2.2 c x (Or.inr ⟨y1, by omega⟩) hc hx hz
end xstarts
end
section
def gq_C (g : gm_G) (p : Nat) (st : Nat → Int32) : Prop := ∀ c m, c < 16 → m ≤ p → gq_Z st p c (gm_l g c) m → ∀ r d i, r < 16 → d < gm_l g r → gm_y g r d = gm_k g c → gq_Z st m r d i → gq_Z st p r (d + 1) i
def gq_I (g : gm_G) (w : Nat → Nat) (n p : Nat) (st t : Nat → Int32) : Prop :=
  gq_S g w n p st ∧ (∀ q r, q < p → r < 16 → gm_p g r = true → gq_Z st q r 0 q) ∧
  (∀ q r d i, q + 1 < p → r < 16 → d < gm_l g r → gm_y g r d = 5 + w q → gq_Z st q r d i → gq_Z st (q + 1) r (d + 1) i) ∧
  (∀ q, q < p → gq_C g q st) ∧
  ∀ s a b, a ≤ 10 → b ≤ 10 → (bt (t (a * 11 + b)) s = true ↔ (a < n ∧ b = a + 1 ∧ s = 5 + w a) ∨ (b < p ∧ a ≤ b ∧ ∃ r, r < 16 ∧ s = gm_k g r ∧ gq_Z st b r (gm_l g r) a))
theorem gq_lo {st st' : Nat → Int32} {p q r d i : Nat} (h : ∀ c, c < p * 64 → st' c = st c) (hq : q < p) (hr : r < 16) (hd : d < 4) : gq_Z st' q r d i ↔ gq_Z st q r d i := by
  unfold gq_Z
  rw [h _ (by omega)]
theorem gq_next {g : gm_G} (G : gm_ok g) {w : Nat → Nat} {n p : Nat} {st0 st1 st2 st3 t t' : Nat → Int32} (I : gq_I g w n p st0 t)
    (lo1 : ∀ c, c < p * 64 → st1 c = st0 c) (b1 : ∀ r d i, r < 16 → d < 4 → (gq_Z st1 p r d i ↔ d = 0 ∧ gm_p g r = true ∧ i = p))
    (lo2 : ∀ c, c < p * 64 → st2 c = st1 c) (mo2 : ∀ c i, bt (st1 c) i = true → bt (st2 c) i = true)
    (let2 : ∀ q, q + 1 = p → ∀ r d i, r < 16 → d < gm_l g r → gm_y g r d = 5 + w q → gq_Z st1 q r d i → gq_Z st2 p r (d + 1) i)
    (S3 : gq_S g w n (p + 1) st3) (lo3 : ∀ c, c < p * 64 → st3 c = st2 c) (mo3 : ∀ c i, bt (st2 c) i = true → bt (st3 c) i = true) (C3 : gq_C g p st3)
    (ht : ∀ s a b, a ≤ 10 → b ≤ 10 → (bt (t' (a * 11 + b)) s = true ↔ bt (t (a * 11 + b)) s = true ∨ (b = p ∧ a ≤ p ∧ ∃ r, r < 16 ∧ s = gm_k g r ∧ gq_Z st3 p r (gm_l g r) a))) : gq_I g w n (p + 1) st3 t' := by
  have lo : ∀ c, c < p * 64 → st3 c = st0 c := fun c hc => (lo3 c hc).trans ((lo2 c hc).trans (lo1 c hc))
  obtain ⟨i1, i2, i3, i4, i5⟩ := I
  refine ⟨S3, fun q r hq hr hp => ?_, fun q r d i hq hr hd hy hz => ?_, fun q hq => ?_, fun s a b ha hb => ?_⟩
  · by_cases e : q = p
    · subst e
      exact mo3 _ _ (mo2 _ _ ((b1 r 0 q hr (by decide)).mpr ⟨rfl, hp, rfl⟩))
    · exact (gq_lo lo (by omega) hr (by decide)).mpr (i2 q r (by omega) hr hp)
  · have h3 := G.2.1 r
    by_cases e : q + 1 = p
    · have hz1 : gq_Z st1 q r d i := (gq_lo lo1 (by omega) hr (by omega)).mpr ((gq_lo lo (by omega) hr (by omega)).mp hz)
      rw [e]
      exact mo3 _ _ (let2 q e r d i hr hd hy hz1)
    · exact (gq_lo lo (by omega) hr (by omega)).mpr (i3 q r d i (by omega) hr hd hy ((gq_lo lo (by omega) hr (by omega)).mp hz))
  · by_cases e : q = p
    · subst e; exact C3
    · intro c m hc hm hz r d i hr hd hy hz2
      have h3 := G.2.1 r
      have h4 := G.2.1 c
      exact (gq_lo lo (by omega) hr (by omega)).mpr (i4 q (by omega) c m hc hm ((gq_lo lo (by omega) hc (by omega)).mp hz) r d i hr hd hy ((gq_lo lo (by omega) hr (by omega)).mp hz2))
  · rw [ht s a b ha hb, i5 s a b ha hb]
    constructor
    · intro z
      rcases z with (z | ⟨z1, z2, r, hr, z3, z4⟩) | ⟨z1, z2, z3⟩
      · exact Or.inl z
      · have h3 := G.2.1 r
        exact Or.inr ⟨by omega, z2, r, hr, z3, (gq_lo lo z1 hr (by omega)).mpr z4⟩
      · subst z1
        exact Or.inr ⟨by omega, z2, z3⟩
    · intro z
      rcases z with z | ⟨z1, z2, r, hr, z3, z4⟩
      · exact Or.inl (Or.inl z)
      · have h3 := G.2.1 r
        by_cases e : b = p
        · subst e
          exact Or.inr ⟨rfl, z2, r, hr, z3, z4⟩
        · exact Or.inl (Or.inr ⟨by omega, z2, r, hr, z3, (gq_lo lo (by omega) hr (by omega)).mp z4⟩)
theorem gq_end {g : gm_G} (G : gm_ok g) {w : Nat → Nat} {n : Nat} {st t : Nat → Int32} (hn : n ≤ 10) (I : gq_I g w n (n + 1) st t) : gt_ok g w n t := by
  obtain ⟨i1, i2, i3, i4, i5⟩ := I
  intro s a b
  constructor
  · intro ⟨h1, h2, h3⟩
    rcases (i5 s a b (by omega) (by omega)).mp h3 with z | ⟨z1, z2, r, hr, z3, z4⟩
    · rw [z.2.1, z.2.2]; exact gm_ml z.1
    · have h5 := G.2.1 r
      have h6 := i1 b r (gm_l g r) a z1 hr (by omega) z4
      rw [z3]
      exact gm_mr hr h6.1 h1 h2 h6.2.2
  · intro h
    have hb := gm_mb h
    refine ⟨hb.1, hb.2, (i5 s a b (by omega) (by omega)).mpr ?_⟩
    rcases Nat.lt_or_ge s 5 with y | y
    · obtain ⟨r, hr, _, hk, hz⟩ := ge_two G (Z := gq_Z st) (fun p r hp hr hpr => i2 p r (by omega) hr hpr) (fun p r d i hp hr hd hy hz => i3 p r d i (by omega) hr hd hy hz) (fun p r' m r d i hp hr' hr hm hz hd hy hz2 => i4 p (by omega) r' m hr' hm hz r d i hr hd hy hz2) h y
      exact Or.inr ⟨by omega, hb.1, r, hr, hk.symm, hz⟩
    · exact Or.inl (gm_mlet G h y)
end
section
section xleft_found
variable {rs wl az : Int32} {rk rl ry wd fd fo sg st re ag li fw bg le ls : Nat → Int32} {g : gm_G} {w : Nat → Nat} {n : Nat}
theorem gx_tellFinished_found {post : SX → Prop} (H : gx_G g rs rk rl ry) {p : Nat} (hp : p ≤ 10) (h : ∀ t, (∀ s a b, a ≤ 10 → b ≤ 10 → (bt (t (a * 11 + b)) s = true ↔ bt (fd (a * 11 + b)) s = true ∨ (b = p ∧ a ≤ p ∧ ∃ r, r < 16 ∧ s = gm_k g r ∧ gq_Z st p r (gm_l g r) a))) → post (rs, wl, az, rk, rl, ry, wd, t, fo, sg, st, re, ag, li, fw, bg, le, ls)) : wpX_tellFinished__found post (rs, wl, az, rk, rl, ry, wd, fd, fo, sg, st, re, ag, li, fw, bg, le, ls) (nI p) := by
  refine pk_loop (fun f r (t : Nat → Int32) => wX_tellFinished__found_2 post (nI p) rs wl az f (nI r) rk rl ry wd t fo sg st re ag li fw bg le ls) (fun r t => ∀ s a b, a ≤ 10 → b ≤ 10 → (bt (t (a * 11 + b)) s = true ↔ bt (fd (a * 11 + b)) s = true ∨ (b = p ∧ a ≤ p ∧ ∃ c, c < r ∧ s = gm_k g c ∧ gq_Z st p c (gm_l g c) a))) 16 0 fd (by omega) (fun s a b _ _ => ⟨Or.inl, fun z => z.resolve_right fun ⟨_, _, c, y, _⟩ => absurd y (by omega)⟩) ?_ ?_
  · intro f t hI
    exact br_t (nI_le (Nat.le_refl _) (by decide)) (h t hI)
  · intro f r t hr hI ih
    have h3 := H.1.2.1 r
    have hk := H.1.1 r
    refine br_f (nI_ge hr (by decide)) (And.intro (gx_in hr (by decide)) (nm_r (e' := nI (p * 64 + r * 4 + gm_l g r)) (by rw [gx_Gl H hr, gx_i64]) ?_))
    refine pk_loop (fun f2 m (t : Nat → Int32) => wX_tellFinished__found_28 post (wX_tellFinished__found_2 post (nI p) rs wl az f) (nI p) (nI r) (nI (p * 64 + r * 4 + gm_l g r)) rs wl az f2 (nI m) rk rl ry wd t fo sg st re ag li fw bg le ls) (fun m t => ∀ s a b, a ≤ 10 → b ≤ 10 → (bt (t (a * 11 + b)) s = true ↔ bt (fd (a * 11 + b)) s = true ∨ (b = p ∧ a ≤ p ∧ ∃ c, (c < r ∨ (c = r ∧ a < m)) ∧ s = gm_k g c ∧ gq_Z st p c (gm_l g c) a))) (p + 1) 0 t (by omega) (fun s a b ha hb => ?_) ?_ ?_
    · rw [hI s a b ha hb]
      exact ⟨fun z => z.imp id fun ⟨y1, y2, c, y3, y4⟩ => ⟨y1, y2, c, Or.inl y3, y4⟩, fun z => z.imp id fun ⟨y1, y2, c, y3, y4⟩ => ⟨y1, y2, c, by omega, y4⟩⟩
    · intro f2 t2 hI2
      refine br_t (nI_lt (Nat.lt_succ_self p) (by omega)) (nm_r (nI_1 r) (ih t2 fun s a b ha hb => ?_))
      rw [hI2 s a b ha hb]
      exact ⟨fun z => z.imp id fun ⟨y1, y2, c, y3, y4⟩ => ⟨y1, y2, c, by omega, y4⟩, fun z => z.imp id fun ⟨y1, y2, c, y3, y4⟩ => ⟨y1, y2, c, by omega, y4⟩⟩
    · intro f2 m t2 hm hI2 ih2
      refine br_f (nI_nlt (by omega) (by omega)) (And.intro (gx_in (by omega) (by decide)) ?_)
      rw [gx_cl (n := p * 64 + r * 4 + gm_l g r) (by omega)]
      refine gx_bit (by omega) (fun hb => ?_) (fun hb => nm_r (nI_1 m) (ih2 t2 fun s a b ha hb10 => ?_))
      · rw [gx_c11, gx_cl (n := m * 11 + p) (by omega), gx_Gk H hr]
        refine And.intro (gx_in (by omega) (by decide)) (And.intro (gx_in hr (by decide)) (And.intro (gx_in (by omega) (by decide)) (nm_e (nm_r (nI_1 m) (ih2 _ fun s a b ha hb10 => ?_)))))
        rw [gb_u]
        by_cases e : a * 11 + b = m * 11 + p
        · have e1 : a = m := by omega
          have e2 : b = p := by omega
          rw [if_pos e, gb_add _ (by omega), e1, e2, hI2 s m p (by omega) hp]
          constructor
          · intro z
            rcases z with (z | ⟨y1, y2, c, y3, y4⟩) | z
            · exact Or.inl z
            · exact Or.inr ⟨y1, y2, c, by omega, y4⟩
            · exact Or.inr ⟨rfl, by omega, r, by omega, z, hb⟩
          · intro z
            rcases z with z | ⟨y1, y2, c, y3, y4, y5⟩
            · exact Or.inl (Or.inl z)
            · by_cases e3 : c = r
              · rw [e3] at y4; exact Or.inr y4
              · exact Or.inl (Or.inr ⟨y1, y2, c, by omega, y4, y5⟩)
        · rw [if_neg e, hI2 s a b ha hb10]
          exact ⟨fun z => z.imp id fun ⟨y1, y2, c, y3, y4⟩ => ⟨y1, y2, c, by omega, y4⟩, fun z => z.imp id fun ⟨y1, y2, c, y3, y4⟩ => ⟨y1, y2, c, by omega, y4⟩⟩
      · rw [hI2 s a b ha hb10]
        refine ⟨fun z => z.imp id fun ⟨y1, y2, c, y3, y4⟩ => ⟨y1, y2, c, by omega, y4⟩, fun z => z.imp id fun ⟨y1, y2, c, y3, y4, y5⟩ => ⟨y1, y2, c, ?_, y4, y5⟩⟩
        by_cases e3 : c = r ∧ a = m
        · unfold gq_Z at y5
          rw [e3.1, e3.2, hb] at y5
          exact absurd y5 (by decide)
        · omega
theorem gx_rounds2_found {post : SX → Prop} {J : Int32 → Int32 → Int32 → Int32 → (Nat → Int32) → (Nat → Int32) → (Nat → Int32) → (Nat → Int32) → (Nat → Int32) → (Nat → Int32) → (Nat → Int32) → (Nat → Int32) → (Nat → Int32) → (Nat → Int32) → (Nat → Int32) → (Nat → Int32) → (Nat → Int32) → (Nat → Int32) → (Nat → Int32) → Prop} (H : gx_G g rs rk rl ry) {p : Nat} (hn : n ≤ 10) (hp : p ≤ n) (S : gq_S g w n (p + 1) st)
    (h : ∀ st3, gq_S g w n (p + 1) st3 → (∀ c, c < p * 64 → st3 c = st c) → (∀ c i, bt (st c) i = true → bt (st3 c) i = true) → gq_C g p st3 → wX_leftToRight__word_found_78 post J (nI n) (nI p) rs wl az rk rl ry wd fd fo sg st3 re ag li fw bg le ls) : ∃ f, wX_leftToRight__word_found_51 post J (nI n) (nI p) f 1 0 rs wl az rk rl ry wd fd fo sg st re ag li fw bg le ls := by
  refine pk_loop (fun f c (u : Int32 × (Nat → Int32)) => wX_leftToRight__word_found_51 post J (nI n) (nI p) f u.1 (nI c) rs wl az rk rl ry wd fd fo sg u.2 re ag li fw bg le ls) (fun c u => gq_S g w n (p + 1) u.2 ∧ (∀ c, c < p * 64 → u.2 c = st c) ∧ (∀ c i, bt (st c) i = true → bt (u.2 c) i = true) ∧ ((u.1 = 1 ∧ c ≤ gq_n u.2 p) ∨ (u.1 = 0 ∧ gq_C g p u.2))) 704 0 (1, st) (by omega) ⟨S, fun _ _ => rfl, fun _ _ z => z, Or.inl ⟨rfl, Nat.zero_le _⟩⟩ ?_ ?_
  · intro f u ⟨S1, lo, mo, A⟩
    refine br_t (nI_le (Nat.le_refl _) (by decide)) (h u.2 S1 lo mo ?_)
    rcases A with ⟨_, z⟩ | ⟨_, C⟩
    · have := gq_full S1
      omega
    · exact C
  · intro f c u hc ⟨S1, lo, mo, A⟩ ih
    refine br_f (nI_ge hc (by decide)) ?_
    rcases A with ⟨e1, z⟩ | ⟨e1, C⟩
    · refine br_f (by rw [e1]; exact gx_10) (gx_passFinished H hn hp S1 fun x st' F => nm_r (nI_1 c) (ih (x, st') ⟨F.1, fun c hc => (F.2.1 c hc).trans (lo c hc), fun c i hi => F.2.2.1 c i (mo c i hi), ?_⟩))
      rcases F.2.2.2 with ⟨e2, e3, C⟩ | ⟨e2, e3⟩
      · refine Or.inr ⟨e2, ?_⟩
        rw [e3]
        exact fun c m hc hm hz => C c m trivial hc hm hz
      · exact Or.inl ⟨e2, by omega⟩
    · exact br_t e1 (h u.2 S1 lo mo C)
theorem gx_left_found {post : SX → Prop} (H : gx_G g rs rk rl ry) (hw : ∀ i, i < n → wd i = nI (w i)) (hw3 : ∀ i, w i < 3) (hn : n ≤ 10) (h : ∀ t st', gt_ok g w n t → post (rs, wl, az, rk, rl, ry, wd, t, fo, sg, st', re, ag, li, fw, bg, le, ls)) : wpX_leftToRight__word_found post (rs, wl, az, rk, rl, ry, wd, fd, fo, sg, st, re, ag, li, fw, bg, le, ls) (nI n) := by
  unfold wpX_leftToRight__word_found
  refine gx_putLetters_word_found hw hw3 hn fun t P => ?_
  refine pk_loop (fun f p (u : (Nat → Int32) × (Nat → Int32)) => wX_leftToRight__word_found_9 post (nI n) f (nI p) rs wl az rk rl ry wd u.2 fo sg u.1 re ag li fw bg le ls) (fun p u => gq_I g w n p u.1 u.2) (n + 1) 0 (st, t) (by omega) ⟨fun p r d i z => absurd z (by omega), fun q r z => absurd z (by omega), fun q r d i z => absurd z (by omega), fun q z => absurd z (by omega), fun s a b ha hb => (P s a b ha hb).trans ⟨Or.inl, fun z => z.resolve_right fun y => absurd y.1 (by omega)⟩⟩ ?_ ?_
  · intro f u I
    exact br_t (nI_lt (Nat.lt_succ_self n) (by omega)) (h u.2 u.1 (gq_end H.1 hn I))
  · intro f p u hp I ih
    refine br_f (nI_nlt (by omega) (by omega)) (gx_beginRulesAt H (by omega) fun st1 lo1 b1 => ?_)
    have S1 : gq_S g w n (p + 1) st1 := by
      intro q r d i hq hr hd hz
      by_cases e : q = p
      · subst e
        obtain ⟨e1, e2, e3⟩ := (b1 r d i hr hd).mp hz
        subst e1 e3
        exact ⟨e2, Nat.le_refl _, rfl⟩
      · exact I.1 q r d i (by omega) hr hd ((gq_lo lo1 (by omega) hr hd).mp hz)
    refine pk_le p 0 (fun hp0 => ?_) (fun hp0 => ?_)
    · refine gx_rounds2_found H hn (by omega) S1 fun st3 S3 lo3 mo3 C3 => ?_
      refine gx_tellFinished_found H (by omega) fun t3 ht3 => nm_r (nI_1 p) (ih (st3, t3) ?_)
      exact gq_next H.1 I lo1 b1 (fun _ _ => rfl) (fun _ _ z => z) (fun q e => absurd e (by omega)) S3 lo3 mo3 C3 ht3
    · have hsub : nI p - 1 = nI (p - 1) := pk_sub (b := 1) (by omega)
      rw [hsub, gx_cl (by omega), hw (p - 1) (by omega), gx_5]
      have h3 := hw3 (p - 1)
      have hmk : gm_mk g w n (5 + w (p - 1)) (p - 1) p := by
        have z := gm_ml (g := g) (w := w) (n := n) (i := p - 1) (by omega)
        rw [Nat.sub_add_cancel hp0] at z
        exact z
      refine And.intro (gx_in (by omega) (by decide)) (gx_passSymbol H (by omega) (by omega) (by omega) hmk S1 fun x st2 R2 => ?_)
      refine gx_rounds2_found H hn (by omega) R2.1 fun st3 S3 lo3 mo3 C3 => ?_
      refine gx_tellFinished_found H (by omega) fun t3 ht3 => nm_r (nI_1 p) (ih (st3, t3) ?_)
      refine gq_next H.1 I lo1 b1 R2.2.1 R2.2.2.1 (fun q e r d i hr hd hy hz => ?_) S3 lo3 mo3 C3 ht3
      have e2 : p - 1 = q := by omega
      rw [e2] at R2
      exact R2.2.2.2.1 (by omega) r d i hr hd trivial hy hz
end xleft_found

section xleft_foundByOther
variable {rs wl az : Int32} {rk rl ry wd fd fo sg st re ag li fw bg le ls : Nat → Int32} {g : gm_G} {w : Nat → Nat} {n : Nat}
theorem gx_tellFinished_foundByOther {post : SX → Prop} (H : gx_G g rs rk rl ry) {p : Nat} (hp : p ≤ 10) (h : ∀ t, (∀ s a b, a ≤ 10 → b ≤ 10 → (bt (t (a * 11 + b)) s = true ↔ bt (fo (a * 11 + b)) s = true ∨ (b = p ∧ a ≤ p ∧ ∃ r, r < 16 ∧ s = gm_k g r ∧ gq_Z st p r (gm_l g r) a))) → post (rs, wl, az, rk, rl, ry, wd, fd, t, sg, st, re, ag, li, fw, bg, le, ls)) : wpX_tellFinished__foundByOther post (rs, wl, az, rk, rl, ry, wd, fd, fo, sg, st, re, ag, li, fw, bg, le, ls) (nI p) := by
  refine pk_loop (fun f r (t : Nat → Int32) => wX_tellFinished__foundByOther_2 post (nI p) rs wl az f (nI r) rk rl ry wd fd t sg st re ag li fw bg le ls) (fun r t => ∀ s a b, a ≤ 10 → b ≤ 10 → (bt (t (a * 11 + b)) s = true ↔ bt (fo (a * 11 + b)) s = true ∨ (b = p ∧ a ≤ p ∧ ∃ c, c < r ∧ s = gm_k g c ∧ gq_Z st p c (gm_l g c) a))) 16 0 fo (by omega) (fun s a b _ _ => ⟨Or.inl, fun z => z.resolve_right fun ⟨_, _, c, y, _⟩ => absurd y (by omega)⟩) ?_ ?_
  · intro f t hI
    exact br_t (nI_le (Nat.le_refl _) (by decide)) (h t hI)
  · intro f r t hr hI ih
    have h3 := H.1.2.1 r
    have hk := H.1.1 r
    refine br_f (nI_ge hr (by decide)) (And.intro (gx_in hr (by decide)) (nm_r (e' := nI (p * 64 + r * 4 + gm_l g r)) (by rw [gx_Gl H hr, gx_i64]) ?_))
    refine pk_loop (fun f2 m (t : Nat → Int32) => wX_tellFinished__foundByOther_28 post (wX_tellFinished__foundByOther_2 post (nI p) rs wl az f) (nI p) (nI r) (nI (p * 64 + r * 4 + gm_l g r)) rs wl az f2 (nI m) rk rl ry wd fd t sg st re ag li fw bg le ls) (fun m t => ∀ s a b, a ≤ 10 → b ≤ 10 → (bt (t (a * 11 + b)) s = true ↔ bt (fo (a * 11 + b)) s = true ∨ (b = p ∧ a ≤ p ∧ ∃ c, (c < r ∨ (c = r ∧ a < m)) ∧ s = gm_k g c ∧ gq_Z st p c (gm_l g c) a))) (p + 1) 0 t (by omega) (fun s a b ha hb => ?_) ?_ ?_
    · rw [hI s a b ha hb]
      exact ⟨fun z => z.imp id fun ⟨y1, y2, c, y3, y4⟩ => ⟨y1, y2, c, Or.inl y3, y4⟩, fun z => z.imp id fun ⟨y1, y2, c, y3, y4⟩ => ⟨y1, y2, c, by omega, y4⟩⟩
    · intro f2 t2 hI2
      refine br_t (nI_lt (Nat.lt_succ_self p) (by omega)) (nm_r (nI_1 r) (ih t2 fun s a b ha hb => ?_))
      rw [hI2 s a b ha hb]
      exact ⟨fun z => z.imp id fun ⟨y1, y2, c, y3, y4⟩ => ⟨y1, y2, c, by omega, y4⟩, fun z => z.imp id fun ⟨y1, y2, c, y3, y4⟩ => ⟨y1, y2, c, by omega, y4⟩⟩
    · intro f2 m t2 hm hI2 ih2
      refine br_f (nI_nlt (by omega) (by omega)) (And.intro (gx_in (by omega) (by decide)) ?_)
      rw [gx_cl (n := p * 64 + r * 4 + gm_l g r) (by omega)]
      refine gx_bit (by omega) (fun hb => ?_) (fun hb => nm_r (nI_1 m) (ih2 t2 fun s a b ha hb10 => ?_))
      · rw [gx_c11, gx_cl (n := m * 11 + p) (by omega), gx_Gk H hr]
        refine And.intro (gx_in (by omega) (by decide)) (And.intro (gx_in hr (by decide)) (And.intro (gx_in (by omega) (by decide)) (nm_e (nm_r (nI_1 m) (ih2 _ fun s a b ha hb10 => ?_)))))
        rw [gb_u]
        by_cases e : a * 11 + b = m * 11 + p
        · have e1 : a = m := by omega
          have e2 : b = p := by omega
          rw [if_pos e, gb_add _ (by omega), e1, e2, hI2 s m p (by omega) hp]
          constructor
          · intro z
            rcases z with (z | ⟨y1, y2, c, y3, y4⟩) | z
            · exact Or.inl z
            · exact Or.inr ⟨y1, y2, c, by omega, y4⟩
            · exact Or.inr ⟨rfl, by omega, r, by omega, z, hb⟩
          · intro z
            rcases z with z | ⟨y1, y2, c, y3, y4, y5⟩
            · exact Or.inl (Or.inl z)
            · by_cases e3 : c = r
              · rw [e3] at y4; exact Or.inr y4
              · exact Or.inl (Or.inr ⟨y1, y2, c, by omega, y4, y5⟩)
        · rw [if_neg e, hI2 s a b ha hb10]
          exact ⟨fun z => z.imp id fun ⟨y1, y2, c, y3, y4⟩ => ⟨y1, y2, c, by omega, y4⟩, fun z => z.imp id fun ⟨y1, y2, c, y3, y4⟩ => ⟨y1, y2, c, by omega, y4⟩⟩
      · rw [hI2 s a b ha hb10]
        refine ⟨fun z => z.imp id fun ⟨y1, y2, c, y3, y4⟩ => ⟨y1, y2, c, by omega, y4⟩, fun z => z.imp id fun ⟨y1, y2, c, y3, y4, y5⟩ => ⟨y1, y2, c, ?_, y4, y5⟩⟩
        by_cases e3 : c = r ∧ a = m
        · unfold gq_Z at y5
          rw [e3.1, e3.2, hb] at y5
          exact absurd y5 (by decide)
        · omega
theorem gx_rounds2_foundByOther {post : SX → Prop} {J : Int32 → Int32 → Int32 → Int32 → (Nat → Int32) → (Nat → Int32) → (Nat → Int32) → (Nat → Int32) → (Nat → Int32) → (Nat → Int32) → (Nat → Int32) → (Nat → Int32) → (Nat → Int32) → (Nat → Int32) → (Nat → Int32) → (Nat → Int32) → (Nat → Int32) → (Nat → Int32) → (Nat → Int32) → Prop} (H : gx_G g rs rk rl ry) {p : Nat} (hn : n ≤ 10) (hp : p ≤ n) (S : gq_S g w n (p + 1) st)
    (h : ∀ st3, gq_S g w n (p + 1) st3 → (∀ c, c < p * 64 → st3 c = st c) → (∀ c i, bt (st c) i = true → bt (st3 c) i = true) → gq_C g p st3 → wX_leftToRight__word_foundByOther_78 post J (nI n) (nI p) rs wl az rk rl ry wd fd fo sg st3 re ag li fw bg le ls) : ∃ f, wX_leftToRight__word_foundByOther_51 post J (nI n) (nI p) f 1 0 rs wl az rk rl ry wd fd fo sg st re ag li fw bg le ls := by
  refine pk_loop (fun f c (u : Int32 × (Nat → Int32)) => wX_leftToRight__word_foundByOther_51 post J (nI n) (nI p) f u.1 (nI c) rs wl az rk rl ry wd fd fo sg u.2 re ag li fw bg le ls) (fun c u => gq_S g w n (p + 1) u.2 ∧ (∀ c, c < p * 64 → u.2 c = st c) ∧ (∀ c i, bt (st c) i = true → bt (u.2 c) i = true) ∧ ((u.1 = 1 ∧ c ≤ gq_n u.2 p) ∨ (u.1 = 0 ∧ gq_C g p u.2))) 704 0 (1, st) (by omega) ⟨S, fun _ _ => rfl, fun _ _ z => z, Or.inl ⟨rfl, Nat.zero_le _⟩⟩ ?_ ?_
  · intro f u ⟨S1, lo, mo, A⟩
    refine br_t (nI_le (Nat.le_refl _) (by decide)) (h u.2 S1 lo mo ?_)
    rcases A with ⟨_, z⟩ | ⟨_, C⟩
    · have := gq_full S1
      omega
    · exact C
  · intro f c u hc ⟨S1, lo, mo, A⟩ ih
    refine br_f (nI_ge hc (by decide)) ?_
    rcases A with ⟨e1, z⟩ | ⟨e1, C⟩
    · refine br_f (by rw [e1]; exact gx_10) (gx_passFinished H hn hp S1 fun x st' F => nm_r (nI_1 c) (ih (x, st') ⟨F.1, fun c hc => (F.2.1 c hc).trans (lo c hc), fun c i hi => F.2.2.1 c i (mo c i hi), ?_⟩))
      rcases F.2.2.2 with ⟨e2, e3, C⟩ | ⟨e2, e3⟩
      · refine Or.inr ⟨e2, ?_⟩
        rw [e3]
        exact fun c m hc hm hz => C c m trivial hc hm hz
      · exact Or.inl ⟨e2, by omega⟩
    · exact br_t e1 (h u.2 S1 lo mo C)
theorem gx_left_foundByOther {post : SX → Prop} (H : gx_G g rs rk rl ry) (hw : ∀ i, i < n → wd i = nI (w i)) (hw3 : ∀ i, w i < 3) (hn : n ≤ 10) (h : ∀ t st', gt_ok g w n t → post (rs, wl, az, rk, rl, ry, wd, fd, t, sg, st', re, ag, li, fw, bg, le, ls)) : wpX_leftToRight__word_foundByOther post (rs, wl, az, rk, rl, ry, wd, fd, fo, sg, st, re, ag, li, fw, bg, le, ls) (nI n) := by
  unfold wpX_leftToRight__word_foundByOther
  refine gx_putLetters_word_foundByOther hw hw3 hn fun t P => ?_
  refine pk_loop (fun f p (u : (Nat → Int32) × (Nat → Int32)) => wX_leftToRight__word_foundByOther_9 post (nI n) f (nI p) rs wl az rk rl ry wd fd u.2 sg u.1 re ag li fw bg le ls) (fun p u => gq_I g w n p u.1 u.2) (n + 1) 0 (st, t) (by omega) ⟨fun p r d i z => absurd z (by omega), fun q r z => absurd z (by omega), fun q r d i z => absurd z (by omega), fun q z => absurd z (by omega), fun s a b ha hb => (P s a b ha hb).trans ⟨Or.inl, fun z => z.resolve_right fun y => absurd y.1 (by omega)⟩⟩ ?_ ?_
  · intro f u I
    exact br_t (nI_lt (Nat.lt_succ_self n) (by omega)) (h u.2 u.1 (gq_end H.1 hn I))
  · intro f p u hp I ih
    refine br_f (nI_nlt (by omega) (by omega)) (gx_beginRulesAt H (by omega) fun st1 lo1 b1 => ?_)
    have S1 : gq_S g w n (p + 1) st1 := by
      intro q r d i hq hr hd hz
      by_cases e : q = p
      · subst e
        obtain ⟨e1, e2, e3⟩ := (b1 r d i hr hd).mp hz
        subst e1 e3
        exact ⟨e2, Nat.le_refl _, rfl⟩
      · exact I.1 q r d i (by omega) hr hd ((gq_lo lo1 (by omega) hr hd).mp hz)
    refine pk_le p 0 (fun hp0 => ?_) (fun hp0 => ?_)
    · refine gx_rounds2_foundByOther H hn (by omega) S1 fun st3 S3 lo3 mo3 C3 => ?_
      refine gx_tellFinished_foundByOther H (by omega) fun t3 ht3 => nm_r (nI_1 p) (ih (st3, t3) ?_)
      exact gq_next H.1 I lo1 b1 (fun _ _ => rfl) (fun _ _ z => z) (fun q e => absurd e (by omega)) S3 lo3 mo3 C3 ht3
    · have hsub : nI p - 1 = nI (p - 1) := pk_sub (b := 1) (by omega)
      rw [hsub, gx_cl (by omega), hw (p - 1) (by omega), gx_5]
      have h3 := hw3 (p - 1)
      have hmk : gm_mk g w n (5 + w (p - 1)) (p - 1) p := by
        have z := gm_ml (g := g) (w := w) (n := n) (i := p - 1) (by omega)
        rw [Nat.sub_add_cancel hp0] at z
        exact z
      refine And.intro (gx_in (by omega) (by decide)) (gx_passSymbol H (by omega) (by omega) (by omega) hmk S1 fun x st2 R2 => ?_)
      refine gx_rounds2_foundByOther H hn (by omega) R2.1 fun st3 S3 lo3 mo3 C3 => ?_
      refine gx_tellFinished_foundByOther H (by omega) fun t3 ht3 => nm_r (nI_1 p) (ih (st3, t3) ?_)
      refine gq_next H.1 I lo1 b1 R2.2.1 R2.2.2.1 (fun q e r d i hr hd hy hz => ?_) S3 lo3 mo3 C3 ht3
      have e2 : p - 1 = q := by omega
      rw [e2] at R2
      exact R2.2.2.2.1 (by omega) r d i hr hd trivial hy hz
end xleft_foundByOther
end
section
/-! engine 4: the agenda; s = (how many, agenda, listed); an item is 121 p + 11 i + j for a point p = 4 r + d -/
def gg_A (s : Nat × (Nat → Int32) × (Nat → Int32)) : Prop :=
  (∀ e, e < 7744 → s.2.2 e = 0 ∨ s.2.2 e = 1) ∧ s.1 = gc_n (fun e => s.2.2 e = 1) 7744 ∧ (∀ q, q < s.1 → ∃ e, e < 7744 ∧ s.2.1 q = nI e ∧ s.2.2 e = 1) ∧ ∀ e, e < 7744 → s.2.2 e = 1 → ∃ q, q < s.1 ∧ s.2.1 q = nI e
def gg_F (g : gm_G) (w : Nat → Nat) (n p i j : Nat) : Prop := gm_p g (p / 4) = true ∧ p % 4 ≤ gm_l g (p / 4) ∧ i ≤ j ∧ j ≤ n ∧ gm_q g (gm_mk g w n) (p / 4) (p % 4) i j
def gg_S (g : gm_G) (w : Nat → Nat) (n : Nat) (li : Nat → Int32) : Prop := ∀ p i j, p < 64 → i ≤ 10 → j ≤ 10 → li (p * 121 + i * 11 + j) = 1 → gg_F g w n p i j
def gg_R (g : gm_G) (w : Nat → Nat) (n : Nat) (s s' : Nat × (Nat → Int32) × (Nat → Int32)) : Prop :=
  gg_A s' ∧ gg_S g w n s'.2.2 ∧ s.1 ≤ s'.1 ∧ (∀ q, q < s.1 → s'.2.1 q = s.2.1 q) ∧ ∀ e, e < 7744 → s.2.2 e = 1 → s'.2.2 e = 1
theorem gg_rf {g : gm_G} {w : Nat → Nat} {n : Nat} {s : Nat × (Nat → Int32) × (Nat → Int32)} (A : gg_A s) (S : gg_S g w n s.2.2) : gg_R g w n s s := ⟨A, S, Nat.le_refl _, fun _ _ => rfl, fun _ _ h => h⟩
theorem gg_tr {g : gm_G} {w : Nat → Nat} {n : Nat} {s s' s'' : Nat × (Nat → Int32) × (Nat → Int32)} (h1 : gg_R g w n s s') (h2 : gg_R g w n s' s'') : gg_R g w n s s'' :=
  ⟨h2.1, h2.2.1, Nat.le_trans h1.2.2.1 h2.2.2.1, fun q hq => (h2.2.2.2.1 q (Nat.lt_of_lt_of_le hq h1.2.2.1)).trans (h1.2.2.2.1 q hq), fun e he h => h2.2.2.2.2 e he (h1.2.2.2.2 e he h)⟩
theorem gg_7744 {s : Nat × (Nat → Int32) × (Nat → Int32)} (A : gg_A s) : s.1 ≤ 7744 := by
  rw [A.2.1]
  exact gc_nle _ _
theorem gx_i121 (p i j : Nat) : nI p * 121 + nI i * 11 + nI j = nI (p * 121 + i * 11 + j) := by
  rw [show (121 : Int32) = nI 121 from rfl, show (11 : Int32) = nI 11 from rfl, pk_mul, pk_mul, nI_add, nI_add]
theorem gg_add {g : gm_G} {w : Nat → Nat} {n m e : Nat} {ag li : Nat → Int32} (A : gg_A (m, ag, li)) (he : e < 7744) (hl : li e = 0) : m < 7744 ∧ gg_A (m + 1, upd ag m (nI e), upd li e 1) := by
  obtain ⟨a1, a2, a3, a4⟩ := A
  have a1 : ∀ e, e < 7744 → li e = 0 ∨ li e = 1 := a1
  have a2 : m = gc_n (fun e => li e = 1) 7744 := a2
  have hne : ¬ li e = 1 := by rw [hl]; decide
  have hm : m < 7744 := by
    rcases Nat.lt_or_ge m 7744 with z | z
    · exact z
    · rw [a2] at z
      exact absurd (gc_nfull 7744 z e he) hne
  refine ⟨hm, fun x hx => ?_, ?_, fun q hq => ?_, fun x hx h => ?_⟩
  · show upd li e 1 x = 0 ∨ upd li e 1 x = 1
    rw [gb_u]
    split
    · exact Or.inr rfl
    · exact a1 x hx
  · show m + 1 = gc_n (fun x => upd li e 1 x = 1) 7744
    rw [a2, ← gc_nadd (P := fun e => li e = 1) hne he]
    apply gc_neq
    intro x _
    rw [gb_u]
    by_cases z : x = e
    · rw [if_pos z]
      exact ⟨fun _ => rfl, fun _ => Or.inr z⟩
    · rw [if_neg z]
      exact ⟨fun y => y.resolve_right z, Or.inl⟩
  · show ∃ x, x < 7744 ∧ upd ag m (nI e) q = nI x ∧ upd li e 1 x = 1
    by_cases z : q = m
    · exact ⟨e, he, gb_us z, gb_us rfl⟩
    · have hq : q < m + 1 := hq
      obtain ⟨x, h1, h2, h3⟩ := a3 q (by show q < m; omega)
      refine ⟨x, h1, by rw [gb_u, if_neg z]; exact h2, ?_⟩
      rw [gb_u]
      split
      · rfl
      · exact h3
  · have h : upd li e 1 x = 1 := h
    show ∃ q, q < m + 1 ∧ upd ag m (nI e) q = nI x
    by_cases z : x = e
    · exact ⟨m, by omega, by rw [gb_us rfl, z]⟩
    · rw [gb_u, if_neg z] at h
      obtain ⟨q, h1, h2⟩ := a4 x hx h
      have h1 : q < m := h1
      exact ⟨q, by omega, by rw [gb_u, if_neg (by omega)]; exact h2⟩
theorem gg_Su {g : gm_G} {w : Nat → Nat} {n p i j : Nat} {li : Nat → Int32} (S : gg_S g w n li) (hp : p < 64) (hi : i ≤ 10) (hj : j ≤ 10) (hF : gg_F g w n p i j) : gg_S g w n (upd li (p * 121 + i * 11 + j) 1) := by
  intro q a b hq ha hb h
  rw [gb_u] at h
  by_cases z : q * 121 + a * 11 + b = p * 121 + i * 11 + j
  · have e1 : q = p := by omega
    have e2 : a = i := by omega
    have e3 : b = j := by omega
    rw [e1, e2, e3]; exact hF
  · rw [if_neg z] at h
    exact S q a b hq ha hb h
theorem gg_Fn {g : gm_G} (G : gm_ok g) {w : Nat → Nat} {n p i m j : Nat} (hd : p % 4 < gm_l g (p / 4)) (h : gg_F g w n p i m) (hk : gm_mk g w n (gm_y g (p / 4) (p % 4)) m j) : gg_F g w n (p + 1) i j := by
  have h3 := G.2.1 (p / 4)
  have e1 : (p + 1) / 4 = p / 4 := by omega
  have e2 : (p + 1) % 4 = p % 4 + 1 := by omega
  obtain ⟨h1, h2, h4, h5, h6⟩ := h
  have hb := gm_mb hk
  unfold gg_F
  rw [e1, e2]
  exact ⟨h1, hd, by omega, hb.2, m, h6, hk⟩
section xagenda
variable {rs wl : Int32} {rk rl ry wd fd fo sg st re fw bg le ls : Nat → Int32} {g : gm_G} {w : Nat → Nat} {n : Nat}
theorem gx_listItem {post : SX → Prop} {m : Nat} {ag li : Nat → Int32} (A : gg_A (m, ag, li)) (S : gg_S g w n li) {p i j : Nat} (hp : p < 64) (hi : i ≤ 10) (hj : j ≤ 10) (hF : gg_F g w n p i j)
    (h : ∀ s, gg_R g w n (m, ag, li) s → s.2.2 (p * 121 + i * 11 + j) = 1 → post (rs, wl, nI s.1, rk, rl, ry, wd, fd, fo, sg, st, re, s.2.1, s.2.2, fw, bg, le, ls)) : wpX_listItem post (rs, wl, nI m, rk, rl, ry, wd, fd, fo, sg, st, re, ag, li, fw, bg, le, ls) (nI p) (nI i) (nI j) := by
  refine nm_r (gx_i121 p i j) ?_
  have he : p * 121 + i * 11 + j < 7744 := by omega
  have v : vp_in (nI (p * 121 + i * 11 + j)) 7744 := gx_in he (by decide)
  rw [gx_cl (n := p * 121 + i * 11 + j) (by omega)]
  refine And.intro v ?_
  rcases A.1 _ he with z | z
  · obtain ⟨hm, A'⟩ := gg_add (g := g) (w := w) (n := n) A he z
    refine br_t z (br_f (nI_ge hm (by decide)) (And.intro v (nm_r (e' := upd li (p * 121 + i * 11 + j) 1) rfl (And.intro (gx_in hm (by decide)) (nm_r (e' := upd ag m (nI (p * 121 + i * 11 + j))) (by rw [gx_cl (by omega)]) (nm_r (nI_1 m) (h (m + 1, upd ag m (nI (p * 121 + i * 11 + j)), upd li (p * 121 + i * 11 + j) 1) ⟨A', gg_Su S hp hi hj hF, Nat.le_succ _, fun q hq => ?_, fun x hx y => ?_⟩ (gb_us rfl))))))))
    · have hq : q < m := hq
      exact pk_un (by omega)
    · show upd li _ 1 x = 1
      rw [gb_u]
      split
      · rfl
      · exact y
  · have z' : li (p * 121 + i * 11 + j) = 1 := z
    exact br_f (by rw [z']; exact gx_10) (h (m, ag, li) (gg_rf A S) z)
theorem gx_goOnWaiting {post : SX → Prop} (H : gx_G g rs rk rl ry) {m : Nat} {ag li : Nat → Int32} (A : gg_A (m, ag, li)) (S : gg_S g w n li) {p c j : Nat} (hn : n ≤ 10) (hp : p < 64) (hd : p % 4 < gm_l g (p / 4)) (hk : gm_mk g w n (gm_y g (p / 4) (p % 4)) c j)
    (h : ∀ s, gg_R g w n (m, ag, li) s → (∀ a, a ≤ c → li (p * 121 + a * 11 + c) = 1 → s.2.2 ((p + 1) * 121 + a * 11 + j) = 1) → post (rs, wl, nI s.1, rk, rl, ry, wd, fd, fo, sg, st, re, s.2.1, s.2.2, fw, bg, le, ls)) : wpX_goOnWaiting post (rs, wl, nI m, rk, rl, ry, wd, fd, fo, sg, st, re, ag, li, fw, bg, le, ls) (nI p) (nI c) (nI j) := by
  have hb := gm_mb hk
  have h3 := H.1.2.1 (p / 4)
  refine pk_loop (fun f i (s : Nat × (Nat → Int32) × (Nat → Int32)) => wX_goOnWaiting_3 post (nI p) (nI c) (nI j) f (nI i) rs wl (nI s.1) rk rl ry wd fd fo sg st re s.2.1 s.2.2 fw bg le ls) (fun i s => gg_R g w n (m, ag, li) s ∧ ∀ a, a < i → li (p * 121 + a * 11 + c) = 1 → s.2.2 ((p + 1) * 121 + a * 11 + j) = 1) (c + 1) 0 (m, ag, li) (by omega) ⟨gg_rf A S, lt_0⟩ ?_ ?_
  · intro f s ⟨R, hI⟩
    exact br_t (nI_lt (Nat.lt_succ_self c) (by omega)) (h s R fun a ha => hI a (by omega))
  · intro f i s hi ⟨R, hI⟩ ih
    obtain ⟨m1, ag1, li1⟩ := s
    refine br_f (nI_nlt (by omega) (by omega)) ?_
    rw [gx_i121, gx_cl (n := p * 121 + i * 11 + c) (by omega)]
    refine And.intro (gx_in (by omega) (by decide)) ?_
    rcases R.1.1 (p * 121 + i * 11 + c) (by omega) with z | z
    · refine br_t z (nm_r (nI_1 i) (ih (m1, ag1, li1) ⟨R, lt_s hI fun y => ?_⟩))
      have y2 := R.2.2.2.2 _ (by omega) y
      rw [z] at y2
      exact absurd y2 (by decide)
    · have z' : li1 (p * 121 + i * 11 + c) = 1 := z
      refine br_f (by rw [z]; exact gx_10) ?_
      rw [nI_1 p]
      refine gx_listItem R.1 R.2.1 (p := p + 1) (i := i) (j := j) (by omega) (by omega) (by omega) (gg_Fn H.1 hd (R.2.1 p i c hp (by omega) (by omega) z') hk) fun s2 R2 e2 => nm_r (nI_1 i) (ih s2 ⟨gg_tr R R2, lt_s (fun a ha y => R2.2.2.2.2 _ (by omega) (hI a ha y)) fun _ => e2⟩)
def gg_0 : ∀ N, gc_n (fun _ => False) N = 0
  | 0 => rfl
  | N + 1 => by
    simp only [gc_n, gg_0 N]
    rw [gc_b_f (fun z => z)]
theorem gx_beginAgenda {post : SX → Prop} {az : Int32} {ag li : Nat → Int32} (H : gx_G g rs rk rl ry) (hn : n ≤ 10)
    (h : ∀ s, gg_A s → gg_S g w n s.2.2 → (∀ r i, r < 16 → gm_p g r = true → i ≤ n → s.2.2 (r * 4 * 121 + i * 11 + i) = 1) → post (rs, wl, nI s.1, rk, rl, ry, wd, fd, fo, sg, st, re, s.2.1, s.2.2, fw, bg, le, ls)) : wpX_beginAgenda post (rs, wl, az, rk, rl, ry, wd, fd, fo, sg, st, re, ag, li, fw, bg, le, ls) (nI n) := by
  refine pk_loop (fun f e (l : Nat → Int32) => wX_beginAgenda_7 post (nI n) rs wl 0 f (nI e) rk rl ry wd fd fo sg st re ag l fw bg le ls) (fun e l => ∀ x, x < e → l x = 0) 7744 0 li (by omega) lt_0 ?_ ?_
  · intro f l hl
    refine br_t (nI_le (Nat.le_refl _) (by decide)) ?_
    have A0 : gg_A (0, ag, l) := by
      refine ⟨fun e he => Or.inl (hl e he), ?_, fun q hq => absurd hq (Nat.not_lt_zero q), fun e he z => ?_⟩
      · show 0 = gc_n (fun e => l e = 1) 7744
        rw [← gg_0 7744]
        apply gc_neq
        intro x hx
        rw [hl x hx]
        exact ⟨fun z => z.elim, fun z => absurd z (by decide)⟩
      · have z : l e = 1 := z
        rw [hl e he] at z
        exact absurd z (by decide)
    have S0 : gg_S g w n l := fun p i j hp hi hj z => by
      rw [hl _ (by omega)] at z
      exact absurd z (by decide)
    refine pk_loop (fun f r (s : Nat × (Nat → Int32) × (Nat → Int32)) => wX_beginAgenda_29 post (nI n) f (nI r) rs wl (nI s.1) rk rl ry wd fd fo sg st re s.2.1 s.2.2 fw bg le ls) (fun r s => gg_A s ∧ gg_S g w n s.2.2 ∧ ∀ c i, c < r → gm_p g c = true → i ≤ n → s.2.2 (c * 4 * 121 + i * 11 + i) = 1) 16 0 (0, ag, l) (by omega) ⟨A0, S0, fun c i z => absurd z (by omega)⟩ ?_ ?_
    · intro f2 s ⟨A, S, hI⟩
      exact br_t (nI_le (Nat.le_refl _) (by decide)) (h s A S fun r i hr => hI r i hr)
    · intro f2 r s hr ⟨A, S, hI⟩ ih
      refine br_f (nI_ge hr (by decide)) (gx_hasRule H hr (fun hp => br_f gx_10 ?_) (fun hp => br_t rfl (nm_r (nI_1 r) (ih s ⟨A, S, fun c i hc hpc => ?_⟩))))
      · refine pk_loop (fun f3 i (s : Nat × (Nat → Int32) × (Nat → Int32)) => wX_beginAgenda_45 post (wX_beginAgenda_29 post (nI n) f2) (nI n) (nI r) f3 (nI i) rs wl (nI s.1) rk rl ry wd fd fo sg st re s.2.1 s.2.2 fw bg le ls) (fun i s => gg_A s ∧ gg_S g w n s.2.2 ∧ ∀ c x, (c < r ∨ (c = r ∧ x < i)) → gm_p g c = true → x ≤ n → s.2.2 (c * 4 * 121 + x * 11 + x) = 1) (n + 1) 0 s (by omega) ⟨A, S, fun c x z => hI c x (by omega)⟩ ?_ ?_
        · intro f3 s3 ⟨A3, S3, hI3⟩
          exact br_t (nI_lt (Nat.lt_succ_self n) (by omega)) (nm_r (nI_1 r) (ih s3 ⟨A3, S3, fun c x z hpc hx => hI3 c x (by omega) hpc hx⟩))
        · intro f3 i s3 hi ⟨A3, S3, hI3⟩ ih3
          obtain ⟨m3, ag3, li3⟩ := s3
          refine br_f (nI_nlt (by omega) (by omega)) ?_
          have e4 : nI r * 4 = nI (r * 4) := pk_mul r 4
          rw [e4]
          have d1 : r * 4 / 4 = r := by omega
          have d2 : r * 4 % 4 = 0 := by omega
          refine gx_listItem A3 S3 (p := r * 4) (i := i) (j := i) (by omega) (by omega) (by omega) (by unfold gg_F; rw [d1, d2]; exact ⟨hp, Nat.zero_le _, Nat.le_refl _, by omega, rfl⟩) fun s4 R4 e5 => nm_r (nI_1 i) (ih3 s4 ⟨R4.1, R4.2.1, fun c x z hpc hx => ?_⟩)
          by_cases e6 : c = r ∧ x = i
          · rw [e6.1, e6.2]; exact e5
          · exact R4.2.2.2.2 _ (by omega) (hI3 c x (by omega) hpc hx)
      · by_cases e : c = r
        · subst e; rw [hpc] at hp; exact absurd hp (by decide)
        · exact hI c i (by omega) hpc
  · intro f e l he hl ih
    refine br_f (nI_ge he (by decide)) (And.intro (gx_in he (by decide)) (nm_r (e' := upd l e 0) (by rw [gx_cl (by omega)]; rfl) (nm_r (nI_1 e) (ih _ ?_))))
    intro x hx
    rw [gb_u]
    split
    · rfl
    · exact hl x (by omega)
end xagenda
end
section
def gg_H (g : gm_G) (n : Nat) (li t : Nat → Int32) (p i j : Nat) : Prop :=
  (p % 4 = gm_l g (p / 4) → bt (t (i * 11 + j)) (gm_k g (p / 4)) = true) ∧ (p % 4 < gm_l g (p / 4) → ∀ b, j ≤ b → b ≤ n → bt (t (j * 11 + b)) (gm_y g (p / 4) (p % 4)) = true → li ((p + 1) * 121 + i * 11 + b) = 1)
def gg_I (g : gm_G) (w : Nat → Nat) (n q : Nat) (u : (Nat × (Nat → Int32) × (Nat → Int32)) × (Nat → Int32)) : Prop :=
  gg_A u.1 ∧ gg_S g w n u.1.2.2 ∧ gt_S g w n u.2 ∧ gt_L w n u.2 ∧ (∀ r i, r < 16 → gm_p g r = true → i ≤ n → u.1.2.2 (r * 4 * 121 + i * 11 + i) = 1) ∧ q ≤ u.1.1 ∧ ∀ x p i j, x < q → p < 64 → i ≤ 10 → j ≤ 10 → u.1.2.1 x = nI (p * 121 + i * 11 + j) → gg_H g n u.1.2.2 u.2 p i j
theorem gg_end {g : gm_G} (G : gm_ok g) {w : Nat → Nat} {n q : Nat} {u : (Nat × (Nat → Int32) × (Nat → Int32)) × (Nat → Int32)} (hn : n ≤ 10) (I : gg_I g w n q u) (hq : u.1.1 ≤ q) : gt_ok g w n u.2 := by
  obtain ⟨A, S, TS, TL, hb, _, hH⟩ := I
  have all : ∀ p i j, p < 64 → i ≤ 10 → j ≤ 10 → u.1.2.2 (p * 121 + i * 11 + j) = 1 → gg_H g n u.1.2.2 u.2 p i j := fun p i j hp hi hj h => by
    obtain ⟨x, h1, h2⟩ := A.2.2.2 _ (by omega) h
    exact hH x p i j (by omega) hp hi hj h2
  have hf : ∀ r i j, r < 16 → (i ≤ 10 ∧ j ≤ 10 ∧ u.1.2.2 ((r * 4 + gm_l g r) * 121 + i * 11 + j) = 1) → gt_T u.2 n (gm_k g r) i j := by
    intro r i j hr ⟨h1, h2, h3⟩
    have h5 := G.2.1 r
    have e1 : (r * 4 + gm_l g r) / 4 = r := by omega
    have e2 : (r * 4 + gm_l g r) % 4 = gm_l g r := by omega
    have f := S _ i j (by omega) h1 h2 h3
    have z := (all _ i j (by omega) h1 h2 h3).1
    rw [e1, e2] at z
    exact ⟨f.2.2.1, f.2.2.2.1, z rfl⟩
  have hg : ∀ r d i m j, r < 16 → d < gm_l g r → (i ≤ 10 ∧ m ≤ 10 ∧ u.1.2.2 ((r * 4 + d) * 121 + i * 11 + m) = 1) → gt_T u.2 n (gm_y g r d) m j → (i ≤ 10 ∧ j ≤ 10 ∧ u.1.2.2 ((r * 4 + (d + 1)) * 121 + i * 11 + j) = 1) := by
    intro r d i m j hr hd ⟨h1, h2, h3⟩ h4
    have h5 := G.2.1 r
    have e1 : (r * 4 + d) / 4 = r := by omega
    have e2 : (r * 4 + d) % 4 = d := by omega
    have z := (all _ i m (by omega) h1 h2 h3).2
    rw [e1, e2] at z
    exact ⟨h1, by have := h4.2.1; omega, z hd j h4.1 h4.2.1 h4.2.2⟩
  intro s i j
  exact ⟨gt_sT hn TS, fun h => ge_four (L := fun r d i j => i ≤ 10 ∧ j ≤ 10 ∧ u.1.2.2 ((r * 4 + d) * 121 + i * 11 + j) = 1) (T := gt_T u.2 n) (fun r i hr hp hi => ⟨by omega, by omega, hb r i hr hp hi⟩) hf hg (fun i hi => ⟨by omega, by omega, TL i hi⟩) h⟩
theorem gg_goon {g : gm_G} {w : Nat → Nat} {n q p i j : Nat} {s s' : Nat × (Nat → Int32) × (Nat → Int32)} {t : Nat → Int32} (G : gm_ok g) (I : gg_I g w n q (s, t)) (hn : n ≤ 10) (hq : q < s.1) (hp : p < 64) (hi : i ≤ 10) (hj : j ≤ 10) (e : s.2.1 q = nI (p * 121 + i * 11 + j)) (hd : p % 4 < gm_l g (p / 4)) (R : gg_R g w n s s')
    (h : ∀ b, j ≤ b → b ≤ n → bt (t (j * 11 + b)) (gm_y g (p / 4) (p % 4)) = true → s'.2.2 ((p + 1) * 121 + i * 11 + b) = 1) : gg_I g w n (q + 1) (s', t) := by
  obtain ⟨A, S, TS, TL, hb, hqm, hH⟩ := I
  refine ⟨R.1, R.2.1, TS, TL, fun r i hr hpr hi => R.2.2.2.2 _ (by omega) (hb r i hr hpr hi), ?_, fun x p2 i2 j2 hx hp2 hi2 hj2 ex => ?_⟩
  · have := R.2.2.1
    show q + 1 ≤ s'.1
    omega
  · have ex : s'.2.1 x = nI (p2 * 121 + i2 * 11 + j2) := ex
    rw [R.2.2.2.1 x (by omega)] at ex
    by_cases e1 : x = q
    · rw [e1, e] at ex
      have e2 := (nI_eq (by omega) (by omega)).mp ex
      have a1 : p2 = p := by omega
      have a2 : i2 = i := by omega
      have a3 : j2 = j := by omega
      rw [a1, a2, a3]
      exact ⟨fun z => absurd z (by omega), fun _ => h⟩
    · have z := hH x p2 i2 j2 (by omega) hp2 hi2 hj2 ex
      refine ⟨z.1, fun h1 b h2 h3 h4 => ?_⟩
      have h5 := G.2.1 (p2 / 4)
      exact R.2.2.2.2 _ (by omega) (z.2 h1 b h2 h3 h4)
theorem gg_fin {g : gm_G} {w : Nat → Nat} {n q p i j : Nat} {s s' : Nat × (Nat → Int32) × (Nat → Int32)} {t t' : Nat → Int32} (G : gm_ok g) (I : gg_I g w n q (s, t)) (hn : n ≤ 10) (hq : q < s.1) (hp : p < 64) (hi : i ≤ 10) (hj : j ≤ 10) (e : s.2.1 q = nI (p * 121 + i * 11 + j)) (hd : p % 4 = gm_l g (p / 4)) (hmk : gm_mk g w n (gm_k g (p / 4)) i j) (R : gg_R g w n s s')
    (h : (t' = t ∧ bt (t (i * 11 + j)) (gm_k g (p / 4)) = true) ∨ (t' = upd t (i * 11 + j) (t (i * 11 + j) ||| ((1 : Int32) <<< (nI (gm_k g (p / 4)) &&& 31))) ∧ ∀ x, x < 64 → x % 4 < gm_l g (x / 4) → gm_y g (x / 4) (x % 4) = gm_k g (p / 4) → ∀ a, a ≤ i → s.2.2 (x * 121 + a * 11 + i) = 1 → s'.2.2 ((x + 1) * 121 + a * 11 + j) = 1)) : gg_I g w n (q + 1) (s', t') := by
  obtain ⟨A, S, TS, TL, hb, hqm, hH⟩ := I
  have hk := G.1 (p / 4)
  have TS : gt_S g w n t := TS
  have TL : gt_L w n t := TL
  have t1 : gt_S g w n t' := by
    rcases h with ⟨e1, _⟩ | ⟨e1, _⟩
    · rw [e1]; exact TS
    · rw [e1]
      exact gt_orS TS hi hj fun s hs => by
        rw [(gb_sg (by omega) s).mp hs]; exact hmk
  have mo : ∀ c s, bt (t c) s = true → bt (t' c) s = true := by
    intro c s hc
    rcases h with ⟨e1, _⟩ | ⟨e1, _⟩
    · rw [e1]; exact hc
    · rw [e1]; exact gt_orM c s hc
  have bit : bt (t' (i * 11 + j)) (gm_k g (p / 4)) = true := by
    rcases h with ⟨e1, e2⟩ | ⟨e1, _⟩
    · rw [e1]; exact e2
    · rw [e1, gb_us rfl, gb_add _ (by omega)]; exact Or.inr rfl
  refine ⟨R.1, R.2.1, t1, fun a ha => mo _ _ (TL a ha), fun r i hr hpr hi => R.2.2.2.2 _ (by omega) (hb r i hr hpr hi), ?_, fun x p2 i2 j2 hx hp2 hi2 hj2 ex => ?_⟩
  · have := R.2.2.1
    show q + 1 ≤ s'.1
    omega
  · have ex : s'.2.1 x = nI (p2 * 121 + i2 * 11 + j2) := ex
    rw [R.2.2.2.1 x (by omega)] at ex
    by_cases e1 : x = q
    · rw [e1, e] at ex
      have e2 := (nI_eq (by omega) (by omega)).mp ex
      have a1 : p2 = p := by omega
      have a2 : i2 = i := by omega
      have a3 : j2 = j := by omega
      rw [a1, a2, a3]
      exact ⟨fun _ => bit, fun z => absurd z (by omega)⟩
    · have z := hH x p2 i2 j2 (by omega) hp2 hi2 hj2 ex
      refine ⟨fun h1 => mo _ _ (z.1 h1), fun h1 b h2 h3 h4 => ?_⟩
      have h5 := G.2.1 (p2 / 4)
      rcases h with ⟨e3, _⟩ | ⟨e3, hnew⟩
      · have h4 : bt (t' (j2 * 11 + b)) (gm_y g (p2 / 4) (p2 % 4)) = true := h4
        rw [e3] at h4
        exact R.2.2.2.2 _ (by omega) (z.2 h1 b h2 h3 h4)
      · have h4 : bt (t' (j2 * 11 + b)) (gm_y g (p2 / 4) (p2 % 4)) = true := h4
        rw [e3, gb_u] at h4
        by_cases e4 : j2 * 11 + b = i * 11 + j
        · have b1 : j2 = i := by omega
          have b2 : b = j := by omega
          rw [if_pos e4, gb_add _ (by omega), ← e4] at h4
          rcases h4 with h4 | h4
          · exact R.2.2.2.2 _ (by omega) (z.2 h1 b h2 h3 h4)
          · obtain ⟨y, y1, y2, y3⟩ := A.2.2.1 x (by show x < s.1; omega)
            rw [ex] at y2
            have y4 := (nI_eq (by omega) (by omega)).mp y2
            rw [← y4] at y3
            have F := S p2 i2 j2 hp2 hi2 hj2 y3
            have y3 : s.2.2 (p2 * 121 + i2 * 11 + j2) = 1 := y3
            rw [b1] at y3
            rw [b2]
            exact hnew p2 hp2 h1 h4 i2 (by have := F.2.2.1; omega) y3
        · rw [if_neg e4] at h4
          exact R.2.2.2.2 _ (by omega) (z.2 h1 b h2 h3 h4)
end
section
section xbyagenda_found
variable {rs wl : Int32} {rk rl ry wd fd fo sg st re fw bg le ls : Nat → Int32} {g : gm_G} {w : Nat → Nat} {n : Nat}
theorem gx_goOn_found {post : SX → Prop} (H : gx_G g rs rk rl ry) {m : Nat} {ag li : Nat → Int32} (A : gg_A (m, ag, li)) (S : gg_S g w n li) (TS : gt_S g w n fd) {p i c : Nat} (hn : n ≤ 10) (hp : p < 64) (hi : i ≤ 10) (hc : c ≤ 10) (hd : p % 4 < gm_l g (p / 4)) (hF : gg_F g w n p i c)
    (h : ∀ s, gg_R g w n (m, ag, li) s → (∀ b, c ≤ b → b ≤ n → bt (fd (c * 11 + b)) (gm_y g (p / 4) (p % 4)) = true → s.2.2 ((p + 1) * 121 + i * 11 + b) = 1) → post (rs, wl, nI s.1, rk, rl, ry, wd, fd, fo, sg, st, re, s.2.1, s.2.2, fw, bg, le, ls)) : wpX_goOn__found post (rs, wl, nI m, rk, rl, ry, wd, fd, fo, sg, st, re, ag, li, fw, bg, le, ls) (nI p) (nI (i * 11 + c)) (nI n) := by
  have h3 := H.1.2.1 (p / 4)
  have h8 := H.1.2.2 (p / 4) (p % 4)
  have hr : p / 4 < 16 := by omega
  have e1 : nI (i * 11 + c) / 11 = nI i := (pk_div (a := i * 11 + c) (d := 11) (by omega) (by decide) (by decide)).trans (congrArg nI (by omega))
  have e2 : nI (i * 11 + c) - nI (i * 11 + c) / 11 * 11 = nI c := (pk_rem (a := i * 11 + c) (d := 11) (by omega) (by decide) (by decide)).trans (congrArg nI (by omega))
  refine And.intro (by decide) (nm_r e1 (And.intro (by decide) (nm_r e2 (And.intro (by decide) (And.intro (by decide) ?_)))))
  rw [gx_rem4 p (by omega), gx_div4 p (by omega)]
  refine gx_symbolAt H hr (by omega) ?_
  have hFn := hF.2.2.2.1
  refine pk_loop (fun f b (s : Nat × (Nat → Int32) × (Nat → Int32)) => wX_goOn__found_28 post (nI p) (nI n) (nI i) (nI c) (nI (gm_y g (p / 4) (p % 4))) f (nI b) rs wl (nI s.1) rk rl ry wd fd fo sg st re s.2.1 s.2.2 fw bg le ls) (fun b s => c ≤ b ∧ gg_R g w n (m, ag, li) s ∧ ∀ x, x < b → c ≤ x → bt (fd (c * 11 + x)) (gm_y g (p / 4) (p % 4)) = true → s.2.2 ((p + 1) * 121 + i * 11 + x) = 1) (n + 1) c (m, ag, li) (by omega) ⟨Nat.le_refl _, gg_rf A S, fun x hx hcx => absurd hx (by omega)⟩ ?_ ?_
  · intro f s ⟨_, R, hI⟩
    exact br_t (nI_lt (Nat.lt_succ_self n) (by omega)) (h s R fun b h1 h2 h4 => hI b (by omega) h1 h4)
  · intro f b s hb ⟨hcb, R, hI⟩ ih
    obtain ⟨m1, ag1, li1⟩ := s
    refine br_f (nI_nlt (by omega) (by omega)) ?_
    rw [gx_c11, gx_cl (n := c * 11 + b) (by omega)]
    refine And.intro (gx_in (by omega) (by decide)) (gx_bit (by omega) (fun hbt => ?_) (fun hbt => nm_r (nI_1 b) (ih (m1, ag1, li1) ⟨by omega, R, lt_s hI fun _ z => ?_⟩)))
    · rw [nI_1 p]
      exact gx_listItem R.1 R.2.1 (p := p + 1) (i := i) (j := b) (by omega) hi (by omega) (gg_Fn H.1 hd hF (TS _ c b hc (by omega) hbt)) fun s2 R2 e5 => nm_r (nI_1 b) (ih s2 ⟨by omega, gg_tr R R2, lt_s (fun x hx h1 h2 => R2.2.2.2.2 _ (by omega) (hI x hx h1 h2)) fun _ _ => e5⟩)
    · rw [hbt] at z
      exact absurd z (by decide)
theorem gx_finish_found {post : SX → Prop} (H : gx_G g rs rk rl ry) {m : Nat} {ag li : Nat → Int32} (A : gg_A (m, ag, li)) (S : gg_S g w n li) {k i j : Nat} (hn : n ≤ 10) (hk : k < 5) (hi : i ≤ 10) (hj : j ≤ 10) (hmk : gm_mk g w n k i j)
    (h : ∀ s t', gg_R g w n (m, ag, li) s → ((t' = fd ∧ bt (fd (i * 11 + j)) k = true) ∨ (t' = upd fd (i * 11 + j) (fd (i * 11 + j) ||| ((1 : Int32) <<< (nI k &&& 31))) ∧ ∀ x, x < 64 → x % 4 < gm_l g (x / 4) → gm_y g (x / 4) (x % 4) = k → ∀ a, a ≤ i → li (x * 121 + a * 11 + i) = 1 → s.2.2 ((x + 1) * 121 + a * 11 + j) = 1)) → post (rs, wl, nI s.1, rk, rl, ry, wd, t', fo, sg, st, re, s.2.1, s.2.2, fw, bg, le, ls)) : wpX_finish__found post (rs, wl, nI m, rk, rl, ry, wd, fd, fo, sg, st, re, ag, li, fw, bg, le, ls) (nI k) (nI (i * 11 + j)) := by
  have v : vp_in (nI (i * 11 + j)) 121 := gx_in (by omega) (by decide)
  have e1 : nI (i * 11 + j) / 11 = nI i := (pk_div (a := i * 11 + j) (d := 11) (by omega) (by decide) (by decide)).trans (congrArg nI (by omega))
  have e2 : nI (i * 11 + j) - nI (i * 11 + j) / 11 * 11 = nI j := (pk_rem (a := i * 11 + j) (d := 11) (by omega) (by decide) (by decide)).trans (congrArg nI (by omega))
  refine And.intro v ?_
  rw [gx_cl (n := i * 11 + j) (by omega)]
  refine gx_bit (by omega) (fun hb => h (m, ag, li) fd (gg_rf A S) (Or.inl ⟨rfl, hb⟩)) (fun hb => And.intro v (And.intro v (nm_e (And.intro (by decide) (nm_r e1 (And.intro (by decide) (nm_r e2 ?_)))))))
  refine pk_loop (fun f p (s : Nat × (Nat → Int32) × (Nat → Int32)) => wX_finish__found_35 post (nI k) (nI i) (nI j) f (nI p) rs wl (nI s.1) rk rl ry wd (upd fd (i * 11 + j) (fd (i * 11 + j) ||| ((1 : Int32) <<< (nI k &&& 31)))) fo sg st re s.2.1 s.2.2 fw bg le ls) (fun p s => gg_R g w n (m, ag, li) s ∧ ∀ x, x < p → x % 4 < gm_l g (x / 4) → gm_y g (x / 4) (x % 4) = k → ∀ a, a ≤ i → li (x * 121 + a * 11 + i) = 1 → s.2.2 ((x + 1) * 121 + a * 11 + j) = 1) 64 0 (m, ag, li) (by omega) ⟨gg_rf A S, fun x hx => absurd hx (by omega)⟩ ?_ ?_
  · intro f s ⟨R, hI⟩
    exact br_t (nI_le (Nat.le_refl _) (by decide)) (h s _ R (Or.inr ⟨rfl, hI⟩))
  · intro f p s hp ⟨R, hI⟩ ih
    obtain ⟨m1, ag1, li1⟩ := s
    have hr : p / 4 < 16 := by omega
    have h3 := H.1.2.1 (p / 4)
    have h8 := H.1.2.2 (p / 4) (p % 4)
    refine br_f (nI_ge hp (by decide)) (And.intro (by decide) (nm_r (gx_div4 p (by omega)) (And.intro (by decide) (nm_r (gx_rem4 p (by omega)) (gx_symbolAt H hr (by omega) (And.intro (gx_in hr (by decide)) ?_))))))
    rw [gx_Gl H hr]
    refine pk_le (gm_l g (p / 4)) (p % 4) (fun hl => nm_r (nI_1 p) (ih (m1, ag1, li1) ⟨R, lt_s hI fun z => absurd z (by omega)⟩)) (fun hl => pk_eq (gm_y g (p / 4) (p % 4)) k (fun hy => ?_) (fun hy => nm_r (nI_1 p) (ih (m1, ag1, li1) ⟨R, lt_s hI fun _ z => absurd z hy⟩)))
    exact gx_goOnWaiting H R.1 R.2.1 hn hp hl (by rw [hy]; exact hmk) fun s2 R2 h2 => nm_r (nI_1 p) (ih s2 ⟨gg_tr R R2, lt_s (fun x hx h5 h6 a ha h7 => R2.2.2.2.2 _ (by have := H.1.2.1 (x / 4); omega) (hI x hx h5 h6 a ha h7)) fun _ _ a ha h7 => h2 a ha (R.2.2.2.2 _ (by omega) h7)⟩)
theorem gx_byAgenda_found {post : SX → Prop} {az : Int32} {ag li : Nat → Int32} (H : gx_G g rs rk rl ry) (hw : ∀ i, i < n → wd i = nI (w i)) (hw3 : ∀ i, w i < 3) (hn : n ≤ 10) (h : ∀ t az' ag' li', gt_ok g w n t → post (rs, wl, az', rk, rl, ry, wd, t, fo, sg, st, re, ag', li', fw, bg, le, ls)) : wpX_byAgenda__word_found post (rs, wl, az, rk, rl, ry, wd, fd, fo, sg, st, re, ag, li, fw, bg, le, ls) (nI n) := by
  unfold wpX_byAgenda__word_found
  refine gx_putLetters_word_found hw hw3 hn fun t P => ?_
  refine gx_beginAgenda (w := w) H hn fun s A S hb => ?_
  refine pk_loop (fun f q (u : (Nat × (Nat → Int32) × (Nat → Int32)) × (Nat → Int32)) => wX_byAgenda__word_found_14 post (nI n) f (nI q) rs wl (nI u.1.1) rk rl ry wd u.2 fo sg st re u.1.2.1 u.1.2.2 fw bg le ls) (fun q u => gg_I g w n q u) 7744 0 (s, t) (by omega) ⟨A, S, gt_PS P, gt_PL hn P, hb, Nat.zero_le _, fun x p i j hx => absurd hx (by omega)⟩ ?_ ?_
  · intro f u I
    exact br_t (nI_le (Nat.le_refl _) (by decide)) (h _ _ _ _ (gg_end H.1 hn I (gg_7744 I.1)))
  · intro f q u hq I ih
    obtain ⟨⟨m, ag1, li1⟩, t1⟩ := u
    have hm := gg_7744 I.1
    have hm : m ≤ 7744 := hm
    refine br_f (nI_ge hq (by decide)) (pk_le m q (fun hmq => h _ _ _ _ (gg_end H.1 hn I hmq)) (fun hmq => And.intro (gx_in hq (by decide)) ?_))
    obtain ⟨e, he, ee, el⟩ := I.1.2.2.1 q hmq
    have ee : ag1 q = nI e := ee
    have el : li1 e = 1 := el
    obtain ⟨p, i, j, hp, hi, hj, e0⟩ : ∃ p i j, p < 64 ∧ i ≤ 10 ∧ j ≤ 10 ∧ e = p * 121 + i * 11 + j := ⟨e / 121, e % 121 / 11, e % 121 % 11, by omega, by omega, by omega, by omega⟩
    rw [e0] at ee el
    have hF := I.2.1 p i j hp hi hj el
    have hr : p / 4 < 16 := by omega
    have h3 := H.1.2.1 (p / 4)
    have a1 : nI (p * 121 + i * 11 + j) - nI (p * 121 + i * 11 + j) / 121 * 121 = nI (i * 11 + j) := (pk_rem (a := p * 121 + i * 11 + j) (d := 121) (by omega) (by decide) (by decide)).trans (congrArg nI (by omega))
    have a2 : nI (p * 121 + i * 11 + j) / 121 = nI p := (pk_div (a := p * 121 + i * 11 + j) (d := 121) (by omega) (by decide) (by decide)).trans (congrArg nI (by omega))
    have b1 : ag1 (nI q).toNatClampNeg - ag1 (nI q).toNatClampNeg / 121 * 121 = nI (i * 11 + j) := by rw [gx_cl (n := q) (by omega), ee]; exact a1
    have b2 : ag1 (nI q).toNatClampNeg / 121 = nI p := by rw [gx_cl (n := q) (by omega), ee]; exact a2
    refine And.intro (by decide) (nm_r b1 (And.intro (gx_in hq (by decide)) (And.intro (by decide) (nm_r b2 (And.intro (by decide) (nm_r (gx_div4 p (by omega)) (And.intro (by decide) (And.intro (gx_in hr (by decide)) ?_))))))))
    rw [gx_rem4 p (by omega), gx_Gl H hr]
    refine pk_eq (p % 4) (gm_l g (p / 4)) (fun hd => And.intro (gx_in hr (by decide)) ?_) (fun hd => ?_)
    · rw [gx_Gk H hr]
      have hq2 := hF.2.2.2.2
      rw [hd] at hq2
      have hmk := gm_mr hr hF.1 hF.2.2.1 hF.2.2.2.1 hq2
      exact gx_finish_found H I.1 I.2.1 hn (H.1.1 _) hi hj hmk fun s2 t2 R2 h2 => nm_r (nI_1 q) (ih (s2, t2) (gg_fin H.1 I hn hmq hp hi hj ee hd hmk R2 h2))
    · have hdl : p % 4 < gm_l g (p / 4) := by
        have := hF.2.1
        omega
      exact gx_goOn_found H I.1 I.2.1 I.2.2.1 hn hp hi hj hdl hF fun s2 R2 h2 => nm_r (nI_1 q) (ih (s2, t1) (gg_goon H.1 I hn hmq hp hi hj ee hdl R2 h2))
end xbyagenda_found

section xbyagenda_foundByOther
variable {rs wl : Int32} {rk rl ry wd fd fo sg st re fw bg le ls : Nat → Int32} {g : gm_G} {w : Nat → Nat} {n : Nat}
theorem gx_goOn_foundByOther {post : SX → Prop} (H : gx_G g rs rk rl ry) {m : Nat} {ag li : Nat → Int32} (A : gg_A (m, ag, li)) (S : gg_S g w n li) (TS : gt_S g w n fo) {p i c : Nat} (hn : n ≤ 10) (hp : p < 64) (hi : i ≤ 10) (hc : c ≤ 10) (hd : p % 4 < gm_l g (p / 4)) (hF : gg_F g w n p i c)
    (h : ∀ s, gg_R g w n (m, ag, li) s → (∀ b, c ≤ b → b ≤ n → bt (fo (c * 11 + b)) (gm_y g (p / 4) (p % 4)) = true → s.2.2 ((p + 1) * 121 + i * 11 + b) = 1) → post (rs, wl, nI s.1, rk, rl, ry, wd, fd, fo, sg, st, re, s.2.1, s.2.2, fw, bg, le, ls)) : wpX_goOn__foundByOther post (rs, wl, nI m, rk, rl, ry, wd, fd, fo, sg, st, re, ag, li, fw, bg, le, ls) (nI p) (nI (i * 11 + c)) (nI n) := by
  have h3 := H.1.2.1 (p / 4)
  have h8 := H.1.2.2 (p / 4) (p % 4)
  have hr : p / 4 < 16 := by omega
  have e1 : nI (i * 11 + c) / 11 = nI i := (pk_div (a := i * 11 + c) (d := 11) (by omega) (by decide) (by decide)).trans (congrArg nI (by omega))
  have e2 : nI (i * 11 + c) - nI (i * 11 + c) / 11 * 11 = nI c := (pk_rem (a := i * 11 + c) (d := 11) (by omega) (by decide) (by decide)).trans (congrArg nI (by omega))
  refine And.intro (by decide) (nm_r e1 (And.intro (by decide) (nm_r e2 (And.intro (by decide) (And.intro (by decide) ?_)))))
  rw [gx_rem4 p (by omega), gx_div4 p (by omega)]
  refine gx_symbolAt H hr (by omega) ?_
  have hFn := hF.2.2.2.1
  refine pk_loop (fun f b (s : Nat × (Nat → Int32) × (Nat → Int32)) => wX_goOn__foundByOther_28 post (nI p) (nI n) (nI i) (nI c) (nI (gm_y g (p / 4) (p % 4))) f (nI b) rs wl (nI s.1) rk rl ry wd fd fo sg st re s.2.1 s.2.2 fw bg le ls) (fun b s => c ≤ b ∧ gg_R g w n (m, ag, li) s ∧ ∀ x, x < b → c ≤ x → bt (fo (c * 11 + x)) (gm_y g (p / 4) (p % 4)) = true → s.2.2 ((p + 1) * 121 + i * 11 + x) = 1) (n + 1) c (m, ag, li) (by omega) ⟨Nat.le_refl _, gg_rf A S, fun x hx hcx => absurd hx (by omega)⟩ ?_ ?_
  · intro f s ⟨_, R, hI⟩
    exact br_t (nI_lt (Nat.lt_succ_self n) (by omega)) (h s R fun b h1 h2 h4 => hI b (by omega) h1 h4)
  · intro f b s hb ⟨hcb, R, hI⟩ ih
    obtain ⟨m1, ag1, li1⟩ := s
    refine br_f (nI_nlt (by omega) (by omega)) ?_
    rw [gx_c11, gx_cl (n := c * 11 + b) (by omega)]
    refine And.intro (gx_in (by omega) (by decide)) (gx_bit (by omega) (fun hbt => ?_) (fun hbt => nm_r (nI_1 b) (ih (m1, ag1, li1) ⟨by omega, R, lt_s hI fun _ z => ?_⟩)))
    · rw [nI_1 p]
      exact gx_listItem R.1 R.2.1 (p := p + 1) (i := i) (j := b) (by omega) hi (by omega) (gg_Fn H.1 hd hF (TS _ c b hc (by omega) hbt)) fun s2 R2 e5 => nm_r (nI_1 b) (ih s2 ⟨by omega, gg_tr R R2, lt_s (fun x hx h1 h2 => R2.2.2.2.2 _ (by omega) (hI x hx h1 h2)) fun _ _ => e5⟩)
    · rw [hbt] at z
      exact absurd z (by decide)
theorem gx_finish_foundByOther {post : SX → Prop} (H : gx_G g rs rk rl ry) {m : Nat} {ag li : Nat → Int32} (A : gg_A (m, ag, li)) (S : gg_S g w n li) {k i j : Nat} (hn : n ≤ 10) (hk : k < 5) (hi : i ≤ 10) (hj : j ≤ 10) (hmk : gm_mk g w n k i j)
    (h : ∀ s t', gg_R g w n (m, ag, li) s → ((t' = fo ∧ bt (fo (i * 11 + j)) k = true) ∨ (t' = upd fo (i * 11 + j) (fo (i * 11 + j) ||| ((1 : Int32) <<< (nI k &&& 31))) ∧ ∀ x, x < 64 → x % 4 < gm_l g (x / 4) → gm_y g (x / 4) (x % 4) = k → ∀ a, a ≤ i → li (x * 121 + a * 11 + i) = 1 → s.2.2 ((x + 1) * 121 + a * 11 + j) = 1)) → post (rs, wl, nI s.1, rk, rl, ry, wd, fd, t', sg, st, re, s.2.1, s.2.2, fw, bg, le, ls)) : wpX_finish__foundByOther post (rs, wl, nI m, rk, rl, ry, wd, fd, fo, sg, st, re, ag, li, fw, bg, le, ls) (nI k) (nI (i * 11 + j)) := by
  have v : vp_in (nI (i * 11 + j)) 121 := gx_in (by omega) (by decide)
  have e1 : nI (i * 11 + j) / 11 = nI i := (pk_div (a := i * 11 + j) (d := 11) (by omega) (by decide) (by decide)).trans (congrArg nI (by omega))
  have e2 : nI (i * 11 + j) - nI (i * 11 + j) / 11 * 11 = nI j := (pk_rem (a := i * 11 + j) (d := 11) (by omega) (by decide) (by decide)).trans (congrArg nI (by omega))
  refine And.intro v ?_
  rw [gx_cl (n := i * 11 + j) (by omega)]
  refine gx_bit (by omega) (fun hb => h (m, ag, li) fo (gg_rf A S) (Or.inl ⟨rfl, hb⟩)) (fun hb => And.intro v (And.intro v (nm_e (And.intro (by decide) (nm_r e1 (And.intro (by decide) (nm_r e2 ?_)))))))
  refine pk_loop (fun f p (s : Nat × (Nat → Int32) × (Nat → Int32)) => wX_finish__foundByOther_35 post (nI k) (nI i) (nI j) f (nI p) rs wl (nI s.1) rk rl ry wd fd (upd fo (i * 11 + j) (fo (i * 11 + j) ||| ((1 : Int32) <<< (nI k &&& 31)))) sg st re s.2.1 s.2.2 fw bg le ls) (fun p s => gg_R g w n (m, ag, li) s ∧ ∀ x, x < p → x % 4 < gm_l g (x / 4) → gm_y g (x / 4) (x % 4) = k → ∀ a, a ≤ i → li (x * 121 + a * 11 + i) = 1 → s.2.2 ((x + 1) * 121 + a * 11 + j) = 1) 64 0 (m, ag, li) (by omega) ⟨gg_rf A S, fun x hx => absurd hx (by omega)⟩ ?_ ?_
  · intro f s ⟨R, hI⟩
    exact br_t (nI_le (Nat.le_refl _) (by decide)) (h s _ R (Or.inr ⟨rfl, hI⟩))
  · intro f p s hp ⟨R, hI⟩ ih
    obtain ⟨m1, ag1, li1⟩ := s
    have hr : p / 4 < 16 := by omega
    have h3 := H.1.2.1 (p / 4)
    have h8 := H.1.2.2 (p / 4) (p % 4)
    refine br_f (nI_ge hp (by decide)) (And.intro (by decide) (nm_r (gx_div4 p (by omega)) (And.intro (by decide) (nm_r (gx_rem4 p (by omega)) (gx_symbolAt H hr (by omega) (And.intro (gx_in hr (by decide)) ?_))))))
    rw [gx_Gl H hr]
    refine pk_le (gm_l g (p / 4)) (p % 4) (fun hl => nm_r (nI_1 p) (ih (m1, ag1, li1) ⟨R, lt_s hI fun z => absurd z (by omega)⟩)) (fun hl => pk_eq (gm_y g (p / 4) (p % 4)) k (fun hy => ?_) (fun hy => nm_r (nI_1 p) (ih (m1, ag1, li1) ⟨R, lt_s hI fun _ z => absurd z hy⟩)))
    exact gx_goOnWaiting H R.1 R.2.1 hn hp hl (by rw [hy]; exact hmk) fun s2 R2 h2 => nm_r (nI_1 p) (ih s2 ⟨gg_tr R R2, lt_s (fun x hx h5 h6 a ha h7 => R2.2.2.2.2 _ (by have := H.1.2.1 (x / 4); omega) (hI x hx h5 h6 a ha h7)) fun _ _ a ha h7 => h2 a ha (R.2.2.2.2 _ (by omega) h7)⟩)
theorem gx_byAgenda_foundByOther {post : SX → Prop} {az : Int32} {ag li : Nat → Int32} (H : gx_G g rs rk rl ry) (hw : ∀ i, i < n → wd i = nI (w i)) (hw3 : ∀ i, w i < 3) (hn : n ≤ 10) (h : ∀ t az' ag' li', gt_ok g w n t → post (rs, wl, az', rk, rl, ry, wd, fd, t, sg, st, re, ag', li', fw, bg, le, ls)) : wpX_byAgenda__word_foundByOther post (rs, wl, az, rk, rl, ry, wd, fd, fo, sg, st, re, ag, li, fw, bg, le, ls) (nI n) := by
  unfold wpX_byAgenda__word_foundByOther
  refine gx_putLetters_word_foundByOther hw hw3 hn fun t P => ?_
  refine gx_beginAgenda (w := w) H hn fun s A S hb => ?_
  refine pk_loop (fun f q (u : (Nat × (Nat → Int32) × (Nat → Int32)) × (Nat → Int32)) => wX_byAgenda__word_foundByOther_14 post (nI n) f (nI q) rs wl (nI u.1.1) rk rl ry wd fd u.2 sg st re u.1.2.1 u.1.2.2 fw bg le ls) (fun q u => gg_I g w n q u) 7744 0 (s, t) (by omega) ⟨A, S, gt_PS P, gt_PL hn P, hb, Nat.zero_le _, fun x p i j hx => absurd hx (by omega)⟩ ?_ ?_
  · intro f u I
    exact br_t (nI_le (Nat.le_refl _) (by decide)) (h _ _ _ _ (gg_end H.1 hn I (gg_7744 I.1)))
  · intro f q u hq I ih
    obtain ⟨⟨m, ag1, li1⟩, t1⟩ := u
    have hm := gg_7744 I.1
    have hm : m ≤ 7744 := hm
    refine br_f (nI_ge hq (by decide)) (pk_le m q (fun hmq => h _ _ _ _ (gg_end H.1 hn I hmq)) (fun hmq => And.intro (gx_in hq (by decide)) ?_))
    obtain ⟨e, he, ee, el⟩ := I.1.2.2.1 q hmq
    have ee : ag1 q = nI e := ee
    have el : li1 e = 1 := el
    obtain ⟨p, i, j, hp, hi, hj, e0⟩ : ∃ p i j, p < 64 ∧ i ≤ 10 ∧ j ≤ 10 ∧ e = p * 121 + i * 11 + j := ⟨e / 121, e % 121 / 11, e % 121 % 11, by omega, by omega, by omega, by omega⟩
    rw [e0] at ee el
    have hF := I.2.1 p i j hp hi hj el
    have hr : p / 4 < 16 := by omega
    have h3 := H.1.2.1 (p / 4)
    have a1 : nI (p * 121 + i * 11 + j) - nI (p * 121 + i * 11 + j) / 121 * 121 = nI (i * 11 + j) := (pk_rem (a := p * 121 + i * 11 + j) (d := 121) (by omega) (by decide) (by decide)).trans (congrArg nI (by omega))
    have a2 : nI (p * 121 + i * 11 + j) / 121 = nI p := (pk_div (a := p * 121 + i * 11 + j) (d := 121) (by omega) (by decide) (by decide)).trans (congrArg nI (by omega))
    have b1 : ag1 (nI q).toNatClampNeg - ag1 (nI q).toNatClampNeg / 121 * 121 = nI (i * 11 + j) := by rw [gx_cl (n := q) (by omega), ee]; exact a1
    have b2 : ag1 (nI q).toNatClampNeg / 121 = nI p := by rw [gx_cl (n := q) (by omega), ee]; exact a2
    refine And.intro (by decide) (nm_r b1 (And.intro (gx_in hq (by decide)) (And.intro (by decide) (nm_r b2 (And.intro (by decide) (nm_r (gx_div4 p (by omega)) (And.intro (by decide) (And.intro (gx_in hr (by decide)) ?_))))))))
    rw [gx_rem4 p (by omega), gx_Gl H hr]
    refine pk_eq (p % 4) (gm_l g (p / 4)) (fun hd => And.intro (gx_in hr (by decide)) ?_) (fun hd => ?_)
    · rw [gx_Gk H hr]
      have hq2 := hF.2.2.2.2
      rw [hd] at hq2
      have hmk := gm_mr hr hF.1 hF.2.2.1 hF.2.2.2.1 hq2
      exact gx_finish_foundByOther H I.1 I.2.1 hn (H.1.1 _) hi hj hmk fun s2 t2 R2 h2 => nm_r (nI_1 q) (ih (s2, t2) (gg_fin H.1 I hn hmq hp hi hj ee hd hmk R2 h2))
    · have hdl : p % 4 < gm_l g (p / 4) := by
        have := hF.2.1
        omega
      exact gx_goOn_foundByOther H I.1 I.2.1 I.2.2.1 hn hp hi hj hdl hF fun s2 R2 h2 => nm_r (nI_1 q) (ih (s2, t1) (gg_goon H.1 I hn hmq hp hi hj ee hdl R2 h2))
end xbyagenda_foundByOther
end
section
section xfill_found
variable {rs az : Int32} {rk rl ry wd fd fo sg st re ag li fw bg le ls : Nat → Int32} {g : gm_G} {w : Nat → Nat} {n : Nat}
theorem gx_fill_found {post : SX → Prop} (H : gx_G g rs rk rl ry) (hw : ∀ i, wd i = nI (w i)) (hw3 : ∀ i, w i < 3) (hn : n ≤ 10) {k : Nat} (hk : k < 5) (h : ∀ t az' sg' st' re' ag' li', gt_ok g w n t → post (rs, nI n, az', rk, rl, ry, wd, t, fo, sg', st', re', ag', li', fw, bg, le, ls)) : wpX_fill__found post (rs, nI n, az, rk, rl, ry, wd, fd, fo, sg, st, re, ag, li, fw, bg, le, ls) (nI k) := by
  have hw' : ∀ i, i < n → wd i = nI (w i) := fun i _ => hw i
  refine br_f (nI_pos (by omega)) (pk_lt 3 k (fun hk3 => ?_) (fun hk3 => ?_))
  · exact gx_byAgenda_found H hw' hw3 hn fun t az' ag' li' ok => h t az' sg st re ag' li' ok
  · refine pk_eq k 0 (fun e => ?_) (fun e0 => pk_eq k 1 (fun e => ?_) (fun e1 => pk_eq k 2 (fun e => ?_) (fun e2 => pk_eq k 3 (fun e => ?_) (fun e3 => trivial))))
    · exact gx_byRounds_found H hw' hw3 hn fun t ok => h t az sg st re ag li ok
    · exact gx_byLength_word_found H hw' hw3 hn fun t sg' ok => h t az sg' st re ag li ok
    · exact gx_left_found H hw' hw3 hn fun t st' ok => h t az sg st' re ag li ok
    · exact gx_byReach_found H hw' hw3 hn fun t re' ok => h t az sg st re' ag li ok
end xfill_found

section xfill_foundByOther
variable {rs az : Int32} {rk rl ry wd fd fo sg st re ag li fw bg le ls : Nat → Int32} {g : gm_G} {w : Nat → Nat} {n : Nat}
theorem gx_fill_foundByOther {post : SX → Prop} (H : gx_G g rs rk rl ry) (hw : ∀ i, wd i = nI (w i)) (hw3 : ∀ i, w i < 3) (hn : n ≤ 10) {k : Nat} (hk : k < 5) (h : ∀ t az' sg' st' re' ag' li', gt_ok g w n t → post (rs, nI n, az', rk, rl, ry, wd, fd, t, sg', st', re', ag', li', fw, bg, le, ls)) : wpX_fill__foundByOther post (rs, nI n, az, rk, rl, ry, wd, fd, fo, sg, st, re, ag, li, fw, bg, le, ls) (nI k) := by
  have hw' : ∀ i, i < n → wd i = nI (w i) := fun i _ => hw i
  refine br_f (nI_pos (by omega)) (pk_lt 3 k (fun hk3 => ?_) (fun hk3 => ?_))
  · exact gx_byAgenda_foundByOther H hw' hw3 hn fun t az' ag' li' ok => h t az' sg st re ag' li' ok
  · refine pk_eq k 0 (fun e => ?_) (fun e0 => pk_eq k 1 (fun e => ?_) (fun e1 => pk_eq k 2 (fun e => ?_) (fun e2 => pk_eq k 3 (fun e => ?_) (fun e3 => trivial))))
    · exact gx_byRounds_foundByOther H hw' hw3 hn fun t ok => h t az sg st re ag li ok
    · exact gx_byLength_word_foundByOther H hw' hw3 hn fun t sg' ok => h t az sg' st re ag li ok
    · exact gx_left_foundByOther H hw' hw3 hn fun t st' ok => h t az sg st' re ag li ok
    · exact gx_byReach_foundByOther H hw' hw3 hn fun t re' ok => h t az sg st re' ag li ok
end xfill_foundByOther
end
section
/-! the relation -/
def gx_I (rs wl : Int32) (rk rl ry wd th : Nat → Int32) : Prop :=
  (∃ n, n ≤ 10 ∧ wl = nI n) ∧ (∀ i, ∃ c, c < 3 ∧ wd i = nI c) ∧ (∀ r, ∃ c, c < 5 ∧ rk r = nI c) ∧ (∀ r, ∃ c, c ≤ 3 ∧ rl r = nI c) ∧ (∀ r, ∃ c, c < 512 ∧ ry r = nI c) ∧ (∀ r, r < 16 → th r = if bt rs r = true then 1 else 0) ∧ ∀ r, 16 ≤ r → bt rs r = false
def i_Rel (_ : Nat) (u : SX) (v : SY) : Prop := match u, v with
  | (rs, wl, az, rk, rl, ry, wd, fd, fo, sg, st, re, ag, li, fw, bg, le, ls), (sz, _, _, th, kd, lg, pt, wy, _, _, _) => rk = kd ∧ rl = lg ∧ ry = pt ∧ wd = wy ∧ wl = sz ∧ gx_I rs wl rk rl ry wd th
theorem i_up {k : Nat} {u : SX} {v : SY} (h : i_Rel k u v) : i_Rel (k + 5) u v := h
theorem gx_I0 : gx_I 0 0 (fun _ => 0) (fun _ => 0) (fun _ => 0) (fun _ => 0) (fun _ => 0) :=
  ⟨⟨0, by decide, rfl⟩, fun _ => ⟨0, by decide, rfl⟩, fun _ => ⟨0, by decide, rfl⟩, fun _ => ⟨0, by decide, rfl⟩, fun _ => ⟨0, by decide, rfl⟩, fun r _ => by rw [b_0]; rfl, fun r _ => b_0 r⟩
theorem i_vc0 : wpX_init (fun u => wpY_init (fun v => i_Rel 0 u v)) := ⟨rfl, rfl, rfl, rfl, rfl, gx_I0⟩
theorem gx_data {rs wl : Int32} {rk rl ry wd th : Nat → Int32} (I : gx_I rs wl rk rl ry wd th) : ∃ (g : gm_G) (w : Nat → Nat) (n : Nat), gx_G g rs rk rl ry ∧ gy_G g th rk rl ry ∧ (∀ i, wd i = nI (w i)) ∧ (∀ i, w i < 3) ∧ n ≤ 10 ∧ wl = nI n ∧ ∀ r, r < 16 → (gm_p g r = bt rs r) := by
  obtain ⟨⟨n, hn, e⟩, h1, h2, h3, h4, h5, h6⟩ := I
  have a2 : ∀ r, (rk r).toNatClampNeg < 5 ∧ rk r = nI (rk r).toNatClampNeg := fun r => by
    obtain ⟨c, hc, e⟩ := h2 r
    rw [e, gx_cl (by omega)]; exact ⟨hc, rfl⟩
  have a3 : ∀ r, (rl r).toNatClampNeg ≤ 3 ∧ rl r = nI (rl r).toNatClampNeg := fun r => by
    obtain ⟨c, hc, e⟩ := h3 r
    rw [e, gx_cl (by omega)]; exact ⟨hc, rfl⟩
  have a4 : ∀ r d, d ≤ 3 → ((ry r) >>> ((3 * nI d) &&& 31)) &&& 7 = nI ((ry r).toNatClampNeg / 8 ^ d % 8) := fun r d hd => by
    obtain ⟨c, hc, e⟩ := h4 r
    rw [e, gx_cl (by omega)]
    exact gx_sym hc hd
  have a1 : ∀ i, (wd i).toNatClampNeg < 3 ∧ wd i = nI (wd i).toNatClampNeg := fun i => by
    obtain ⟨c, hc, e⟩ := h1 i
    rw [e, gx_cl (by omega)]; exact ⟨hc, rfl⟩
  have ok : gm_ok (fun r => bt rs r, fun r => (rk r).toNatClampNeg, fun r => (rl r).toNatClampNeg, fun r d => (ry r).toNatClampNeg / 8 ^ d % 8) := ⟨fun r => (a2 r).1, fun r => (a3 r).1, fun r d => Nat.mod_lt _ (by decide)⟩
  exact ⟨(fun r => bt rs r, fun r => (rk r).toNatClampNeg, fun r => (rl r).toNatClampNeg, fun r d => (ry r).toNatClampNeg / 8 ^ d % 8), fun i => (wd i).toNatClampNeg, n,
    ⟨ok, fun _ _ => rfl, fun r => (a2 r).2, fun r => (a3 r).2, a4⟩, ⟨ok, h5, fun r => (a2 r).2, fun r => (a3 r).2, a4⟩, fun i => (a1 i).2, fun i => (a1 i).1, hn, e, fun _ _ => rfl⟩
theorem gx_ge {x : Int32} {a : Nat} (h : nI (a + 1) ≤ x) (ha : a < 1000) : ¬ x ≤ nI a ∧ nI a < x ∧ ¬ x < nI (a + 1) ∧ ¬ x < 0 := by
  rw [Int32.le_iff_toInt_le, nI_toInt (by omega)] at h
  rw [Int32.le_iff_toInt_le, Int32.lt_iff_toInt_lt, Int32.lt_iff_toInt_lt, Int32.lt_iff_toInt_lt, nI_toInt (by omega), nI_toInt (by omega), show (0 : Int32).toInt = 0 from rfl]
  omega
/-! rule, drop, rules, write, cut -/
section simple
variable {rs wl az : Int32} {rk rl ry wd fd fo sg st re ag li fw bg le ls : Nat → Int32} {sz mn gr : Int32} {th kd lg pt md wy lsy ley : Nat → Int32}
theorem gx_rule36 {post : Int32 → SX → Prop} {x1 x2 x3 : Int32} {r : Nat} (hr : r < 16) (h1 : ∀ c, c < r → bt rs c = true) (h0 : bt rs r = false) (h : post (nI r) (rs ||| ((1 : Int32) <<< (nI r &&& 31)), wl, az, upd rk r x1, upd rl r x2, upd ry r x3, wd, fd, fo, sg, st, re, ag, li, fw, bg, le, ls)) : ∃ f, wX_rule_36 post x1 x2 x3 rs wl az rk rl ry wd fd fo sg st re ag li fw bg le ls f 0 := by
  refine pk_loop (fun f c (_ : Unit) => wX_rule_36 post x1 x2 x3 rs wl az rk rl ry wd fd fo sg st re ag li fw bg le ls f (nI c)) (fun _ _ => True) r 0 () (by omega) trivial ?_ ?_
  · intro f _ _
    have v : vp_in (nI r) 16 := gx_in hr (by decide)
    refine br_f (nI_ge hr (by decide)) (gx_bit (by omega) (fun z => ?_) (fun _ => br_t rfl (nm_e (And.intro v (nm_r (e' := upd rk r x1) (by rw [gx_cl (by omega)]) (And.intro v (nm_r (e' := upd rl r x2) (by rw [gx_cl (by omega)]) (And.intro v (nm_r (e' := upd ry r x3) (by rw [gx_cl (by omega)]) h)))))))))
    rw [h0] at z
    exact absurd z (by decide)
  · intro f c _ hc _ ih
    refine br_f (nI_ge (b := 16) (by omega) (by decide)) (gx_bit (by omega) (fun z => br_f gx_10 (nm_r (nI_1 c) (ih () trivial))) (fun z => ?_))
    rw [h1 c hc] at z
    exact absurd z (by decide)
theorem gx_rule36n {post : Int32 → SX → Prop} {x1 x2 x3 : Int32} (h1 : ∀ c, c < 16 → bt rs c = true) (h : post (-2) (rs, wl, az, rk, rl, ry, wd, fd, fo, sg, st, re, ag, li, fw, bg, le, ls)) : ∃ f, wX_rule_36 post x1 x2 x3 rs wl az rk rl ry wd fd fo sg st re ag li fw bg le ls f 0 := by
  refine pk_loop (fun f c (_ : Unit) => wX_rule_36 post x1 x2 x3 rs wl az rk rl ry wd fd fo sg st re ag li fw bg le ls f (nI c)) (fun _ _ => True) 16 0 () (by omega) trivial ?_ ?_
  · intro f _ _
    exact br_t (nI_le (Nat.le_refl _) (by decide)) h
  · intro f c _ hc _ ih
    refine br_f (nI_ge (b := 16) (by omega) (by decide)) (gx_bit (by omega) (fun z => br_f gx_10 (nm_r (nI_1 c) (ih () trivial))) (fun z => ?_))
    rw [h1 c hc] at z
    exact absurd z (by decide)
theorem gy_rule36 {post : Int32 → SY → Prop} {x1 x2 x3 : Int32} {r : Nat} (hr : r < 16) (h1 : ∀ c, c < r → th c = 1) (h0 : th r = 0) (h : post (nI r) (sz, mn, gr, upd th r 1, upd kd r x1, upd lg r x2, upd pt r x3, wy, lsy, md, ley)) : ∃ f, wY_rule_36 post x1 x2 x3 sz mn gr th kd lg pt wy lsy md ley f 0 := by
  refine pk_loop (fun f c (_ : Unit) => wY_rule_36 post x1 x2 x3 sz mn gr th kd lg pt wy lsy md ley f (nI c)) (fun _ _ => True) r 0 () (by omega) trivial ?_ ?_
  · intro f _ _
    have v : vp_in (nI r) 16 := gx_in hr (by decide)
    exact br_f (nI_ge hr (by decide)) (And.intro v (br_t (by rw [gx_cl (by omega)]; exact h0) (And.intro v (nm_r (e' := upd th r 1) (by rw [gx_cl (by omega)]; rfl) (And.intro v (nm_r (e' := upd kd r x1) (by rw [gx_cl (by omega)]) (And.intro v (nm_r (e' := upd lg r x2) (by rw [gx_cl (by omega)]) (And.intro v (nm_r (e' := upd pt r x3) (by rw [gx_cl (by omega)]) h))))))))))
  · intro f c _ hc _ ih
    exact br_f (nI_ge (b := 16) (by omega) (by decide)) (And.intro (gx_in (by omega) (by decide)) (br_f (by rw [gx_cl (by omega), h1 c hc]; exact gx_10) (nm_r (nI_1 c) (ih () trivial))))
theorem gy_rule36n {post : Int32 → SY → Prop} {x1 x2 x3 : Int32} (h1 : ∀ c, c < 16 → th c = 1) (h : post (-2) (sz, mn, gr, th, kd, lg, pt, wy, lsy, md, ley)) : ∃ f, wY_rule_36 post x1 x2 x3 sz mn gr th kd lg pt wy lsy md ley f 0 := by
  refine pk_loop (fun f c (_ : Unit) => wY_rule_36 post x1 x2 x3 sz mn gr th kd lg pt wy lsy md ley f (nI c)) (fun _ _ => True) 16 0 () (by omega) trivial ?_ ?_
  · intro f _ _
    exact br_t (nI_le (Nat.le_refl _) (by decide)) h
  · intro f c _ hc _ ih
    exact br_f (nI_ge hc (by decide)) (And.intro (gx_in (by omega) (by decide)) (br_f (by rw [gx_cl (by omega), h1 c hc]; exact gx_10) (nm_r (nI_1 c) (ih () trivial))))
theorem gx_sh8 : ∀ l, l < 4 → ¬ nI 513 ≤ (1 : Int32) <<< ((3 * nI l) &&& 31) := by decide +kernel
theorem gx_Irule {r k l s : Nat} (I : gx_I rs wl rk rl ry wd th) (hr : r < 16) (hk : k < 5) (hl : l ≤ 3) (hs : s < 512) : gx_I (rs ||| ((1 : Int32) <<< (nI r &&& 31))) wl (upd rk r (nI k)) (upd rl r (nI l)) (upd ry r (nI s)) wd (upd th r 1) := by
  obtain ⟨h0, h1, h2, h3, h4, h5, h6⟩ := I
  refine ⟨h0, h1, fun c => ?_, fun c => ?_, fun c => ?_, fun c hc => ?_, fun c hc => ?_⟩
  · rw [gb_u]
    split
    · exact ⟨k, hk, rfl⟩
    · exact h2 c
  · rw [gb_u]
    split
    · exact ⟨l, hl, rfl⟩
    · exact h3 c
  · rw [gb_u]
    split
    · exact ⟨s, hs, rfl⟩
    · exact h4 c
  · rw [gb_u]
    by_cases e : c = r
    · rw [if_pos e, if_pos ((gb_add rs (by omega) c).mpr (Or.inr e))]
    · rw [if_neg e, h5 c hc]
      by_cases z : bt rs c = true
      · rw [if_pos z, if_pos ((gb_add rs (by omega) c).mpr (Or.inl z))]
      · rw [if_neg z, if_neg fun y => ((gb_add rs (by omega) c).mp y).elim z e]
  · apply ts_nt
    intro y
    rcases (gb_add rs (by omega) c).mp y with z | z
    · rw [h6 c hc] at z; exact absurd z (by decide)
    · omega
theorem gx_Idrop {r : Nat} (I : gx_I rs wl rk rl ry wd th) (hr : r < 16) : gx_I (rs &&& (((1 : Int32) <<< (nI r &&& 31)) ^^^ (-1))) wl rk rl ry wd (upd th r 0) := by
  obtain ⟨h0, h1, h2, h3, h4, h5, h6⟩ := I
  have key : ∀ c, c < 32 → (bt (rs &&& (((1 : Int32) <<< (nI r &&& 31)) ^^^ (-1))) c = true ↔ bt rs c = true ∧ ¬ c = r) := fun c hc => by
    rw [gb_and, gb_not _ hc, gb_sh (by omega) hc]
    simp
  refine ⟨h0, h1, h2, h3, h4, fun c hc => ?_, fun c hc => ?_⟩
  · rw [gb_u]
    by_cases e : c = r
    · rw [if_pos e, if_neg fun y => ((key c (by omega)).mp y).2 e]
    · rw [if_neg e, h5 c hc]
      by_cases z : bt rs c = true
      · rw [if_pos z, if_pos ((key c (by omega)).mpr ⟨z, e⟩)]
      · rw [if_neg z, if_neg fun y => z ((key c (by omega)).mp y).1]
  · apply ts_nt
    intro y
    have := ((gb_and _ _).mp y).1
    rw [h6 c hc] at this
    exact absurd this (by decide)
end simple
end
section
theorem i_vc_rule {k : Nat} {u : SX} {v : SY} (I : i_Rel k u v) (hk : k + 5 ≤ 2560) (v1 : Int32) (v2 : Int32) (v3 : Int32) : wpX_rule (fun r u' => wpY_rule (fun r' v' => r' = r ∧ i_Rel (k + 5) u' v') v v1 v2 v3) u v1 v2 v3 := by
  obtain ⟨rs, wl, az, rk, rl, ry, wd, fd, fo, sg, st, re, ag, li, fw, bg, le, ls⟩ := u
  obtain ⟨sz, mn, gr, th, kd, lg, pt, wy, lsy, md, ley⟩ := v
  obtain ⟨rfl, rfl, rfl, rfl, rfl, I⟩ := I
  unfold wpX_rule
  rcases pk_ix v1 (n := 5) (by decide) with e | e | ⟨a, ha, rfl⟩
  · exact gx_kind0 (Or.inl e) (br_t rfl (br_t e ⟨rfl, rfl, rfl, rfl, rfl, rfl, I⟩))
  · exact gx_kind0 (Or.inr e) (br_t rfl (br_f (gx_ge e (by decide)).2.2.2 (br_t (gx_ge e (by decide)).2.1 ⟨rfl, rfl, rfl, rfl, rfl, rfl, I⟩)))
  · refine gx_kind1 ha (br_f gx_10 ?_)
    have y0 : ¬ nI a < 0 := nI_pos (by omega)
    have y1 : ¬ (4 : Int32) < nI a := nI_nlt (a := 4) (by omega) (by omega)
    rcases pk_ix v2 (n := 4) (by decide) with e | e | ⟨l, hl, rfl⟩
    · exact br_t e (br_f y0 (br_f y1 (br_t e ⟨rfl, rfl, rfl, rfl, rfl, rfl, I⟩)))
    · have z := gx_ge e (by decide)
      exact br_f z.2.2.2 (br_f z.1 (br_f y0 (br_f y1 (br_f z.2.2.2 (br_t z.2.1 ⟨rfl, rfl, rfl, rfl, rfl, rfl, I⟩)))))
    · have y2 : ¬ nI l < 0 := nI_pos (by omega)
      have y3 : nI l ≤ 3 := nI_le (b := 3) (by omega) (by decide)
      have y4 : ¬ (3 : Int32) < nI l := nI_nlt (a := 3) (by omega) (by omega)
      refine br_f y2 (br_t y3 ?_)
      by_cases e : v3 < 0
      · exact br_t e (br_f y0 (br_f y1 (br_f y2 (br_f y4 (br_t e ⟨rfl, rfl, rfl, rfl, rfl, rfl, I⟩)))))
      · refine br_f e ?_
        by_cases e2 : v3 < (1 : Int32) <<< ((3 * nI l) &&& 31)
        · refine br_t e2 ?_
          obtain ⟨s, hs, rfl⟩ := nI_of e
          have hs2 : s < 512 := by
            have h8 := gx_sh8 l hl
            rw [Int32.le_iff_toInt_le, nI_toInt (by decide)] at h8
            rw [Int32.lt_iff_toInt_lt, nI_toInt hs] at e2
            omega
          have h5 := I.2.2.2.2.2.1
          rcases Classical.em (∃ r, r < 16 ∧ bt rs r = false) with ⟨r0, hr0, z0⟩ | hn
          · obtain ⟨r, ⟨hr, z⟩, hmin⟩ := pk_least (fun r => r < 16 ∧ bt rs r = false) ⟨r0, hr0, z0⟩
            have hlt : ∀ c, c < r → bt rs c = true := fun c hc => ts_nf fun y => hmin c hc ⟨by omega, y⟩
            refine gx_rule36 hr hlt z (br_f y0 (br_f y1 (br_f y2 (br_f y4 (br_f e (br_t e2 (gy_rule36 hr (fun c hc => by rw [h5 c (by omega), if_pos (hlt c hc)]) (by rw [h5 r hr, if_neg (by rw [z]; decide)]) ⟨rfl, rfl, rfl, rfl, rfl, rfl, gx_Irule I hr ha (by omega) hs2⟩)))))))
          · have hall : ∀ c, c < 16 → bt rs c = true := fun c hc => ts_nf fun y => hn ⟨c, hc, y⟩
            exact gx_rule36n hall (br_f y0 (br_f y1 (br_f y2 (br_f y4 (br_f e (br_t e2 (gy_rule36n (fun c hc => by rw [h5 c hc, if_pos (hall c hc)]) ⟨rfl, rfl, rfl, rfl, rfl, rfl, I⟩)))))))
        · exact br_f e2 (br_f y0 (br_f y1 (br_f y2 (br_f y4 (br_f e (br_f e2 ⟨rfl, rfl, rfl, rfl, rfl, rfl, I⟩))))))
theorem i_vc_drop {k : Nat} {u : SX} {v : SY} (I : i_Rel k u v) (hk : k + 5 ≤ 2560) (v1 : Int32) : wpX_drop (fun r u' => wpY_drop (fun r' v' => r' = r ∧ i_Rel (k + 5) u' v') v v1) u v1 := by
  obtain ⟨rs, wl, az, rk, rl, ry, wd, fd, fo, sg, st, re, ag, li, fw, bg, le, ls⟩ := u
  obtain ⟨sz, mn, gr, th, kd, lg, pt, wy, lsy, md, ley⟩ := v
  obtain ⟨rfl, rfl, rfl, rfl, rfl, I⟩ := I
  rcases pk_ix v1 (n := 16) (by decide) with e | e | ⟨r, hr, rfl⟩
  · exact br_t e (br_t e ⟨rfl, rfl, rfl, rfl, rfl, rfl, I⟩)
  · have z := gx_ge e (by decide)
    exact br_f z.2.2.2 (br_t e (br_f z.2.2.2 (br_t z.2.1 ⟨rfl, rfl, rfl, rfl, rfl, rfl, I⟩)))
  · have y0 : ¬ nI r < 0 := nI_pos (by omega)
    have y1 : ¬ (15 : Int32) < nI r := nI_nlt (a := 15) (by omega) (by omega)
    have v : vp_in (nI r) 16 := gx_in hr (by decide)
    have h5 := I.2.2.2.2.2.1 r hr
    refine br_f y0 (br_f (nI_ge hr (by decide)) (gx_bit (by omega) (fun z => br_f gx_10 (nm_e (br_f y0 (br_f y1 (And.intro v (br_f ?_ (And.intro v (nm_r (e' := upd th r 0) ?_ ⟨rfl, rfl, rfl, rfl, rfl, rfl, gx_Idrop I hr⟩)))))))) (fun z => br_t rfl (br_f y0 (br_f y1 (And.intro v (br_t ?_ ⟨rfl, rfl, rfl, rfl, rfl, rfl, I⟩)))))))
    · rw [gx_cl (by omega), h5, if_pos z]; exact gx_10
    · rw [gx_cl (by omega)]; rfl
    · rw [gx_cl (by omega), h5, if_neg (by rw [z]; decide)]
theorem i_vc_rules {k : Nat} {u : SX} {v : SY} (I : i_Rel k u v) (hk : k + 5 ≤ 2560) : wpX_rules (fun r => wpY_rules (fun r' => r' = r ∧ i_Rel (k + 5) u v) v) u := by
  obtain ⟨rs, wl, az, rk, rl, ry, wd, fd, fo, sg, st, re, ag, li, fw, bg, le, ls⟩ := u
  obtain ⟨sz, mn, gr, th, kd, lg, pt, wy, lsy, md, ley⟩ := v
  obtain ⟨rfl, rfl, rfl, rfl, rfl, I⟩ := I
  have h5 := I.2.2.2.2.2.1
  have h6 := I.2.2.2.2.2.2
  refine pk_loop (fun f c (x : Int32) => wY_rules_4 (fun r' => r' = rs ∧ i_Rel (k + 5) (rs, wl, az, rk, rl, ry, wd, fd, fo, sg, st, re, ag, li, fw, bg, le, ls) (wl, mn, gr, th, rk, rl, ry, wd, lsy, md, ley)) wl mn gr th rk rl ry wd lsy md ley f x (nI c)) (fun c x => ∀ s, bt x s = true ↔ s < c ∧ bt rs s = true) 16 0 0 (by omega) (fun s => by rw [b_0]; exact ⟨fun z => absurd z (by decide), fun z => absurd z.1 (by omega)⟩) ?_ ?_
  · intro f x hI
    refine br_t (nI_le (Nat.le_refl _) (by decide)) ⟨b_ext fun i _ => ?_, rfl, rfl, rfl, rfl, rfl, I⟩
    have z := hI i
    cases h1 : bt rs i with
    | true =>
      rcases Nat.lt_or_ge i 16 with y | y
      · exact z.mpr ⟨y, h1⟩
      · rw [h6 i y] at h1; exact absurd h1 (by decide)
    | false =>
      apply ts_nt
      intro y
      have w := (z.mp y).2
      rw [h1] at w
      exact absurd w (by decide)
  · intro f c x hc hI ih
    refine br_f (nI_ge hc (by decide)) (And.intro (gx_in hc (by decide)) ?_)
    rw [gx_cl (by omega), h5 c hc]
    by_cases z : bt rs c = true
    · rw [if_pos z]
      refine br_f gx_10 (nm_e (nm_r (nI_1 c) (ih _ fun s => ?_)))
      rw [gb_add x (by omega), hI s]
      constructor
      · intro y
        rcases y with y | y
        · exact ⟨by omega, y.2⟩
        · rw [y]; exact ⟨by omega, z⟩
      · intro y
        by_cases e : s = c
        · exact Or.inr e
        · exact Or.inl ⟨by omega, y.2⟩
    · rw [if_neg z]
      refine br_t rfl (nm_r (nI_1 c) (ih _ fun s => ?_))
      rw [hI s]
      constructor
      · intro y
        exact ⟨by omega, y.2⟩
      · intro y
        by_cases e : s = c
        · rw [e] at y; exact absurd y.2 z
        · exact ⟨by omega, y.2⟩
theorem i_vc_write {k : Nat} {u : SX} {v : SY} (I : i_Rel k u v) (hk : k + 5 ≤ 2560) (v1 : Int32) : wpX_write (fun r u' => wpY_write (fun r' v' => r' = r ∧ i_Rel (k + 5) u' v') v v1) u v1 := by
  obtain ⟨rs, wl, az, rk, rl, ry, wd, fd, fo, sg, st, re, ag, li, fw, bg, le, ls⟩ := u
  obtain ⟨sz, mn, gr, th, kd, lg, pt, wy, lsy, md, ley⟩ := v
  obtain ⟨rfl, rfl, rfl, rfl, rfl, I⟩ := I
  rcases pk_ix v1 (n := 3) (by decide) with e | e | ⟨a, ha, rfl⟩
  · exact br_t e (br_t e ⟨rfl, rfl, rfl, rfl, rfl, rfl, I⟩)
  · have z := gx_ge e (by decide)
    exact br_f z.2.2.2 (br_f z.2.2.1 (br_f z.2.2.2 (br_f z.1 ⟨rfl, rfl, rfl, rfl, rfl, rfl, I⟩)))
  · have y0 : ¬ nI a < 0 := nI_pos (by omega)
    have y1 : nI a < 3 := nI_lt (b := 3) ha (by decide)
    have y2 : nI a ≤ 2 := nI_le (b := 2) (by omega) (by decide)
    obtain ⟨⟨n, hn, e⟩, h1, hr⟩ := I
    subst e
    refine br_f y0 (br_t y1 (pk_lt n 10 (fun h10 => ?_) (fun h10 => ?_)))
    · have v : vp_in (nI n) 10 := gx_in h10 (by decide)
      refine And.intro v (nm_r (e' := upd wd n (nI a)) (by rw [gx_cl (by omega)]) (nm_r (nI_1 n) (br_f y0 (br_t y2 (br_t (nI_lt (b := 10) h10 (by decide)) (And.intro v (nm_r (e' := upd wd n (nI a)) (by rw [gx_cl (by omega)]) (nm_r (nI_1 n) ⟨rfl, rfl, rfl, rfl, rfl, rfl, ⟨n + 1, by omega, rfl⟩, fun i => ?_, hr⟩))))))))
      rw [gb_u]
      split
      · exact ⟨a, ha, rfl⟩
      · exact h1 i
    · exact br_f y0 (br_t y2 (br_f (nI_nlt (b := 10) h10 (by omega)) ⟨rfl, rfl, rfl, rfl, rfl, rfl, ⟨n, hn, rfl⟩, h1, hr⟩))
theorem i_vc_cut {k : Nat} {u : SX} {v : SY} (I : i_Rel k u v) (hk : k + 5 ≤ 2560) (v1 : Int32) : wpX_cut (fun r u' => wpY_cut (fun r' v' => r' = r ∧ i_Rel (k + 5) u' v') v v1) u v1 := by
  obtain ⟨rs, wl, az, rk, rl, ry, wd, fd, fo, sg, st, re, ag, li, fw, bg, le, ls⟩ := u
  obtain ⟨sz, mn, gr, th, kd, lg, pt, wy, lsy, md, ley⟩ := v
  obtain ⟨rfl, rfl, rfl, rfl, rfl, I⟩ := I
  rcases pk_ix v1 (n := 11) (by decide) with e | e | ⟨a, ha, rfl⟩
  · exact br_t e (br_t e ⟨rfl, rfl, rfl, rfl, rfl, rfl, I⟩)
  · have z := gx_ge e (by decide)
    exact br_f z.2.2.2 (br_f z.1 (br_f z.2.2.2 (br_f z.1 ⟨rfl, rfl, rfl, rfl, rfl, rfl, I⟩)))
  · have y0 : ¬ nI a < 0 := nI_pos (by omega)
    have y1 : nI a ≤ 10 := nI_le (b := 10) (by omega) (by decide)
    obtain ⟨⟨n, hn, e⟩, hr⟩ := I
    subst e
    refine br_f y0 (br_t y1 (pk_le n a (fun h => ?_) (fun h => ?_)))
    · exact br_f y0 (br_t y1 (br_t (nI_le h (by omega)) ⟨rfl, rfl, rfl, rfl, rfl, rfl, ⟨0, by decide, rfl⟩, hr⟩))
    · exact nm_r (pk_sub (by omega)) (br_f y0 (br_t y1 (br_f (nI_ge h (by omega)) (nm_r (pk_sub (by omega)) ⟨rfl, rfl, rfl, rfl, rfl, rfl, ⟨n - a, by omega, rfl⟩, hr⟩))))
end
section
/-! makes, stretch, agree -/
section ystr
variable {sz mn gr : Int32} {th kd lg pt wd ls md le : Nat → Int32} {g : gm_G} {w : Nat → Nat} {n : Nat}
theorem gy_kind1 {post : Int32 → Prop} {k : Nat} (hk : k < 5) (h : post 1) : wpY_isKind post (sz, mn, gr, th, kd, lg, pt, wd, ls, md, le) (nI k) := br_f (nI_pos (by omega)) (br_f (nI_nlt (a := 4) (by omega) (by omega)) h)
theorem gy_kind0 {post : Int32 → Prop} {x : Int32} (hx : x < 0 ∨ nI 5 ≤ x) (h : post 0) : wpY_isKind post (sz, mn, gr, th, kd, lg, pt, wd, ls, md, le) x := br_c (fun _ => h) (fun hn => br_t (gx_ge (hx.resolve_left hn) (by decide)).2.1 h)
theorem gy_eng1 {post : Int32 → Prop} {k : Nat} (hk : k < 5) (h : post 1) : wpY_engine post (sz, mn, gr, th, kd, lg, pt, wd, ls, md, le) (nI k) := br_f (nI_pos (by omega)) (br_f (nI_nlt (a := 4) (by omega) (by omega)) h)
theorem gy_eng0 {post : Int32 → Prop} {x : Int32} (hx : x < 0 ∨ nI 5 ≤ x) (h : post 0) : wpY_engine post (sz, mn, gr, th, kd, lg, pt, wd, ls, md, le) x := br_c (fun _ => h) (fun hn => br_t (gx_ge (hx.resolve_left hn) (by decide)).2.1 h)
theorem gy_Dk {m : Nat → Int32} {s i j : Nat} (hs : s < 5) (hn : n ≤ 10) (ok : gy_ok g w n m) (hi : i ≤ j) (hj : j ≤ n) : gy_D m w s i j ↔ gm_mk g w n s i j := by
  unfold gy_D
  rw [if_pos hs]
  exact ok s i j hs (by omega) (by omega)
theorem gy_stretchV {post : Int32 → SY → Prop} (H : gy_G g th kd lg pt) (hw : ∀ i, wd i = nI (w i)) (hw3 : ∀ i, w i < 3) (hn : n ≤ 10) {a k i j : Nat} (ha : a < 5) (hk : k < 5) (hij : i ≤ j) (hj : j ≤ n)
    (h : ∀ r ls' md', (r = 1 ∧ gm_mk g w n k i j) ∨ (r = 0 ∧ ¬ gm_mk g w n k i j) → post r (nI n, nI n, 0, th, kd, lg, pt, wd, ls', md', le)) : wpY_stretch post (nI n, mn, gr, th, kd, lg, pt, wd, ls, md, le) (nI a) (nI k) (nI i) (nI j) := by
  unfold wpY_stretch
  refine gy_eng1 ha (br_f gx_10 (gy_kind1 hk (br_f gx_10 (br_f (nI_pos (by omega)) (br_f (nI_nlt hij (by omega)) (br_t (nI_le hj (by omega)) (gy_read H (fun i _ => hw i) hw3 hn fun ls' md' hl hz ok => ?_)))))))
  exact gy_covers hl hw3 hn hz (by omega) hij hj (fun D => And.intro rfl (h 1 ls' md' (Or.inl ⟨rfl, (gy_Dk hk hn ok hij hj).mp D⟩))) (fun D => And.intro rfl (h 0 ls' md' (Or.inr ⟨rfl, fun z => D ((gy_Dk hk hn ok hij hj).mpr z)⟩)))
end ystr
section xstr
variable {rs wl az : Int32} {rk rl ry wd fd fo sg st re ag li fw bg le ls : Nat → Int32} {g : gm_G} {w : Nat → Nat} {n : Nat}
theorem gx_stretchV {post : Int32 → SX → Prop} (H : gx_G g rs rk rl ry) (hw : ∀ i, wd i = nI (w i)) (hw3 : ∀ i, w i < 3) (hn : n ≤ 10) {a k i j : Nat} (ha : a < 5) (hk : k < 5) (hij : i ≤ j) (hj : j ≤ n)
    (h : ∀ r t az' sg' st' re' ag' li', (r = 1 ∧ gm_mk g w n k i j) ∨ (r = 0 ∧ ¬ gm_mk g w n k i j) → post r (rs, nI n, az', rk, rl, ry, wd, t, fo, sg', st', re', ag', li', fw, bg, le, ls)) : wpX_stretch post (rs, nI n, az, rk, rl, ry, wd, fd, fo, sg, st, re, ag, li, fw, bg, le, ls) (nI a) (nI k) (nI i) (nI j) := by
  unfold wpX_stretch
  refine gx_eng1 ha (br_f gx_10 (gx_kind1 hk (br_f gx_10 (br_f (nI_pos (by omega)) (br_f (nI_nlt hij (by omega)) (br_t (nI_le hj (by omega)) (gx_fill_found H hw hw3 hn ha fun t az' sg' st' re' ag' li' ok => ?_)))))))
  refine And.intro (by rw [gx_c11]; exact gx_in (by omega) (by decide)) ?_
  rw [gx_c11, gx_cl (by omega)]
  refine gx_bit (by omega) (fun hb => h 1 t az' sg' st' re' ag' li' (Or.inl ⟨rfl, (ok k i j).mp ⟨hij, hj, hb⟩⟩)) (fun hb => h 0 t az' sg' st' re' ag' li' (Or.inr ⟨rfl, fun z => ?_⟩))
  have y := ((ok k i j).mpr z).2.2
  rw [hb] at y
  exact absurd y (by decide)
theorem gx_makesV {post : Int32 → SX → Prop} (H : gx_G g rs rk rl ry) (hw : ∀ i, wd i = nI (w i)) (hw3 : ∀ i, w i < 3) (hn : n ≤ 10) {a k : Nat} (ha : a < 5) (hk : k < 5)
    (h : ∀ r t az' sg' st' re' ag' li', (r = 1 ∧ gm_mk g w n k 0 n) ∨ (r = 0 ∧ ¬ gm_mk g w n k 0 n) → post r (rs, nI n, az', rk, rl, ry, wd, t, fo, sg', st', re', ag', li', fw, bg, le, ls)) : wpX_makes post (rs, nI n, az, rk, rl, ry, wd, fd, fo, sg, st, re, ag, li, fw, bg, le, ls) (nI a) (nI k) := by
  unfold wpX_makes
  refine gx_eng1 ha (br_f gx_10 (gx_kind1 hk (br_f gx_10 (gx_fill_found H hw hw3 hn ha fun t az' sg' st' re' ag' li' ok => ?_))))
  refine And.intro (gx_in (by omega) (by decide)) ?_
  rw [gx_cl (by omega)]
  have e0 : 0 * 11 + n = n := by omega
  refine gx_bit (by omega) (fun hb => h 1 t az' sg' st' re' ag' li' (Or.inl ⟨rfl, (ok k 0 n).mp ⟨by omega, by omega, by rw [e0]; exact hb⟩⟩)) (fun hb => h 0 t az' sg' st' re' ag' li' (Or.inr ⟨rfl, fun z => ?_⟩))
  have y := ((ok k 0 n).mpr z).2.2
  rw [e0, hb] at y
  exact absurd y (by decide)
theorem gx_agree36 {post : Int32 → SX → Prop} (hn : n ≤ 10) (ok1 : gt_ok g w n fd) (ok2 : gt_ok g w n fo) (h : post 1 (rs, nI n, az, rk, rl, ry, wd, fd, fo, sg, st, re, ag, li, fw, bg, le, ls)) : ∃ f, wX_agree_36 post rs (nI n) az rk rl ry wd fd fo sg st re ag li fw bg le ls f 0 := by
  refine pk_loop (fun f i (_ : Unit) => wX_agree_36 post rs (nI n) az rk rl ry wd fd fo sg st re ag li fw bg le ls f (nI i)) (fun _ _ => True) (n + 1) 0 () (by omega) trivial ?_ ?_
  · intro f _ _
    exact br_t (nI_lt (Nat.lt_succ_self n) (by omega)) h
  · intro f i _ hi _ ih
    refine br_f (nI_nlt (by omega) (by omega)) ?_
    refine pk_loop (fun f2 j (_ : Unit) => wX_agree_47 post (wX_agree_36 post rs (nI n) az rk rl ry wd fd fo sg st re ag li fw bg le ls f) (nI i) rs (nI n) az rk rl ry wd fd fo sg st re ag li fw bg le ls f2 (nI j)) (fun j _ => i ≤ j) (n + 1) i () (by omega) (Nat.le_refl _) ?_ ?_
    · intro f2 _ _
      exact br_t (nI_lt (Nat.lt_succ_self n) (by omega)) (nm_r (nI_1 i) (ih () trivial))
    · intro f2 j _ hj hij ih2
      have v : vp_in (nI (i * 11 + j)) 121 := gx_in (by omega) (by decide)
      refine br_f (nI_nlt (by omega) (by omega)) (nm_r (gx_c11 i j) (And.intro v (And.intro v (br_t ?_ (nm_r (nI_1 j) (ih2 () (by omega)))))))
      rw [gx_cl (by omega), gb_z]
      intro s hs
      rw [b_and, b_xor, gb_31 s hs]
      have e : bt (fd (i * 11 + j)) s = bt (fo (i * 11 + j)) s := by
        have z : bt (fd (i * 11 + j)) s = true ↔ bt (fo (i * 11 + j)) s = true := ⟨fun z => ((ok2 s i j).mpr ((ok1 s i j).mp ⟨hij, by omega, z⟩)).2.2, fun z => ((ok1 s i j).mpr ((ok2 s i j).mp ⟨hij, by omega, z⟩)).2.2⟩
        exact Bool.eq_iff_iff.mpr z
      rw [e]
      simp
end xstr
theorem gx_ans {P : Prop} {r r' : Int32} (h : (r = 1 ∧ P) ∨ (r = 0 ∧ ¬ P)) (h' : (r' = 1 ∧ P) ∨ (r' = 0 ∧ ¬ P)) : r' = r := by
  rcases h with ⟨e, p⟩ | ⟨e, p⟩
  · rcases h' with ⟨e', q⟩ | ⟨e', q⟩
    · rw [e, e']
    · exact absurd p q
  · rcases h' with ⟨e', q⟩ | ⟨e', q⟩
    · exact absurd q p
    · rw [e, e']
theorem i_vc_stretch {k : Nat} {u : SX} {v : SY} (I : i_Rel k u v) (hk : k + 5 ≤ 2560) (v1 : Int32) (v2 : Int32) (v3 : Int32) (v4 : Int32) : wpX_stretch (fun r u' => wpY_stretch (fun r' v' => r' = r ∧ i_Rel (k + 5) u' v') v v1 v2 v3 v4) u v1 v2 v3 v4 := by
  obtain ⟨rs, wl, az, rk, rl, ry, wd, fd, fo, sg, st, re, ag, li, fw, bg, le, ls⟩ := u
  obtain ⟨sz, mn, gr, th, kd, lg, pt, wy, lsy, md, ley⟩ := v
  obtain ⟨rfl, rfl, rfl, rfl, rfl, I⟩ := I
  obtain ⟨g, w, n, HX, HY, hw, hw3, hn, e, _⟩ := gx_data I
  subst e
  have bad : ∀ x : Int32, x < 0 ∨ nI 5 ≤ x ∨ ∃ c, c < 5 ∧ x = nI c := fun x => pk_ix x (n := 5) (by decide)
  by_cases h1 : v1 < 0 ∨ nI 5 ≤ v1
  · unfold wpX_stretch wpY_stretch
    exact gx_eng0 h1 (br_t rfl (gy_eng0 h1 (br_t rfl ⟨rfl, rfl, rfl, rfl, rfl, rfl, I⟩)))
  · obtain ⟨a, ha, rfl⟩ : ∃ c, c < 5 ∧ v1 = nI c := by
      rcases bad v1 with z | z | z
      · exact absurd (Or.inl z) h1
      · exact absurd (Or.inr z) h1
      · exact z
    by_cases h2 : v2 < 0 ∨ nI 5 ≤ v2
    · unfold wpX_stretch wpY_stretch
      exact gx_eng1 ha (br_f gx_10 (gx_kind0 h2 (br_t rfl (gy_eng1 ha (br_f gx_10 (gy_kind0 h2 (br_t rfl ⟨rfl, rfl, rfl, rfl, rfl, rfl, I⟩)))))))
    · obtain ⟨c, hc, rfl⟩ : ∃ c, c < 5 ∧ v2 = nI c := by
        rcases bad v2 with z | z | z
        · exact absurd (Or.inl z) h2
        · exact absurd (Or.inr z) h2
        · exact z
      by_cases h3 : v3 < 0
      · unfold wpX_stretch wpY_stretch
        exact gx_eng1 ha (br_f gx_10 (gx_kind1 hc (br_f gx_10 (br_t h3 (gy_eng1 ha (br_f gx_10 (gy_kind1 hc (br_f gx_10 (br_t h3 ⟨rfl, rfl, rfl, rfl, rfl, rfl, I⟩)))))))))
      · by_cases h4 : v4 < v3
        · unfold wpX_stretch wpY_stretch
          exact gx_eng1 ha (br_f gx_10 (gx_kind1 hc (br_f gx_10 (br_f h3 (br_t h4 (gy_eng1 ha (br_f gx_10 (gy_kind1 hc (br_f gx_10 (br_f h3 (br_t h4 ⟨rfl, rfl, rfl, rfl, rfl, rfl, I⟩)))))))))))
        · by_cases h5 : v4 ≤ nI n
          · obtain ⟨i, hi, rfl⟩ := nI_of h3
            have h40 : ¬ v4 < 0 := fun z => by
              rw [Int32.lt_iff_toInt_lt] at z h4
              rw [nI_toInt hi] at h4
              have : (0 : Int32).toInt = 0 := rfl
              omega
            obtain ⟨j, hj, rfl⟩ := nI_of h40
            rw [nI_ltI hj hi] at h4
            rw [nI_leI hj (by omega)] at h5
            exact gx_stretchV HX hw hw3 hn ha hc (by omega) h5 fun r t az' sg' st' re' ag' li' hr => gy_stretchV HY hw hw3 hn ha hc (by omega) h5 fun r' ls' md' hr' => ⟨gx_ans hr hr', rfl, rfl, rfl, rfl, rfl, I⟩
          · unfold wpX_stretch wpY_stretch
            exact gx_eng1 ha (br_f gx_10 (gx_kind1 hc (br_f gx_10 (br_f h3 (br_f h4 (br_f h5 (gy_eng1 ha (br_f gx_10 (gy_kind1 hc (br_f gx_10 (br_f h3 (br_f h4 (br_f h5 ⟨rfl, rfl, rfl, rfl, rfl, rfl, I⟩)))))))))))))
theorem i_vc_makes {k : Nat} {u : SX} {v : SY} (I : i_Rel k u v) (hk : k + 5 ≤ 2560) (v1 : Int32) (v2 : Int32) : wpX_makes (fun r u' => wpY_makes (fun r' v' => r' = r ∧ i_Rel (k + 5) u' v') v v1 v2) u v1 v2 := by
  obtain ⟨rs, wl, az, rk, rl, ry, wd, fd, fo, sg, st, re, ag, li, fw, bg, le, ls⟩ := u
  obtain ⟨sz, mn, gr, th, kd, lg, pt, wy, lsy, md, ley⟩ := v
  obtain ⟨rfl, rfl, rfl, rfl, rfl, I⟩ := I
  obtain ⟨g, w, n, HX, HY, hw, hw3, hn, e, _⟩ := gx_data I
  subst e
  have bad : ∀ x : Int32, x < 0 ∨ nI 5 ≤ x ∨ ∃ c, c < 5 ∧ x = nI c := fun x => pk_ix x (n := 5) (by decide)
  by_cases h1 : v1 < 0 ∨ nI 5 ≤ v1
  · unfold wpX_makes wpY_makes wpY_stretch
    exact gx_eng0 h1 (br_t rfl (gy_eng0 h1 (br_t rfl ⟨rfl, rfl, rfl, rfl, rfl, rfl, rfl, I⟩)))
  · obtain ⟨a, ha, rfl⟩ : ∃ c, c < 5 ∧ v1 = nI c := by
      rcases bad v1 with z | z | z
      · exact absurd (Or.inl z) h1
      · exact absurd (Or.inr z) h1
      · exact z
    by_cases h2 : v2 < 0 ∨ nI 5 ≤ v2
    · unfold wpX_makes wpY_makes wpY_stretch
      exact gx_eng1 ha (br_f gx_10 (gx_kind0 h2 (br_t rfl (gy_eng1 ha (br_f gx_10 (gy_kind0 h2 (br_t rfl ⟨rfl, rfl, rfl, rfl, rfl, rfl, rfl, I⟩)))))))
    · obtain ⟨c, hc, rfl⟩ : ∃ c, c < 5 ∧ v2 = nI c := by
        rcases bad v2 with z | z | z
        · exact absurd (Or.inl z) h2
        · exact absurd (Or.inr z) h2
        · exact z
      refine gx_makesV HX hw hw3 hn ha hc fun r t az' sg' st' re' ag' li' hr => ?_
      unfold wpY_makes
      refine gy_stretchV HY hw hw3 hn ha hc (i := 0) (by omega) (Nat.le_refl n) fun r' ls' md' hr' => ⟨?_, gx_ans hr hr', rfl, rfl, rfl, rfl, rfl, I⟩
      exact gy_nar (hr'.elim (fun z => Or.inr z.1) (fun z => Or.inl z.1))
theorem i_vc_agree {k : Nat} {u : SX} {v : SY} (I : i_Rel k u v) (hk : k + 5 ≤ 2560) (v1 : Int32) (v2 : Int32) : wpX_agree (fun r u' => wpY_agree (fun r' => r' = r ∧ i_Rel (k + 5) u' v) v v1 v2) u v1 v2 := by
  obtain ⟨rs, wl, az, rk, rl, ry, wd, fd, fo, sg, st, re, ag, li, fw, bg, le, ls⟩ := u
  obtain ⟨sz, mn, gr, th, kd, lg, pt, wy, lsy, md, ley⟩ := v
  obtain ⟨rfl, rfl, rfl, rfl, rfl, I⟩ := I
  obtain ⟨g, w, n, HX, HY, hw, hw3, hn, e, _⟩ := gx_data I
  subst e
  have bad : ∀ x : Int32, x < 0 ∨ nI 5 ≤ x ∨ ∃ c, c < 5 ∧ x = nI c := fun x => pk_ix x (n := 5) (by decide)
  unfold wpX_agree wpY_agree
  by_cases h1 : v1 < 0 ∨ nI 5 ≤ v1
  · exact gx_eng0 h1 (br_t rfl (gy_eng0 h1 (br_t rfl ⟨rfl, rfl, rfl, rfl, rfl, rfl, I⟩)))
  · obtain ⟨a, ha, rfl⟩ : ∃ c, c < 5 ∧ v1 = nI c := by
      rcases bad v1 with z | z | z
      · exact absurd (Or.inl z) h1
      · exact absurd (Or.inr z) h1
      · exact z
    by_cases h2 : v2 < 0 ∨ nI 5 ≤ v2
    · exact gx_eng1 ha (br_f gx_10 (gx_eng0 h2 (br_t rfl (gy_eng1 ha (br_f gx_10 (gy_eng0 h2 (br_t rfl ⟨rfl, rfl, rfl, rfl, rfl, rfl, I⟩)))))))
    · obtain ⟨c, hc, rfl⟩ : ∃ c, c < 5 ∧ v2 = nI c := by
        rcases bad v2 with z | z | z
        · exact absurd (Or.inl z) h2
        · exact absurd (Or.inr z) h2
        · exact z
      refine gx_eng1 ha (br_f gx_10 (gx_eng1 hc (br_f gx_10 (gx_fill_found HX hw hw3 hn ha fun t az' sg' st' re' ag' li' ok => gx_fill_foundByOther HX hw hw3 hn hc fun t2 az2 sg2 st2 re2 ag2 li2 ok2 => gx_agree36 hn ok ok2 ?_))))
      exact gy_eng1 ha (br_f gx_10 (gy_eng1 hc (br_f gx_10 ⟨rfl, rfl, rfl, rfl, rfl, rfl, I⟩)))
end
section
/-! longest, parts -/
theorem gx_m3 {t : Nat} (h : t < 1000) : ¬ nI t = -3 := fun z => by
  have e := congrArg Int32.toInt z
  rw [nI_toInt (by omega), show (-3 : Int32).toInt = -3 from by decide] at e
  omega
theorem gx_m3l {t : Nat} (h : t < 1000) : ¬ nI t ≤ -3 := fun z => by
  rw [Int32.le_iff_toInt_le, nI_toInt (by omega), show (-3 : Int32).toInt = -3 from by decide] at z
  omega
def gl_I (P D : Nat → Nat → Prop) (x : Int32) : Prop := (x = -3 ∧ ∀ a b, P a b → ¬ D a b) ∨ ∃ a b, P a b ∧ D a b ∧ x = nI (b - a) ∧ ∀ c d, P c d → D c d → d - c ≤ b - a
theorem gl_Iw {P D D' : Nat → Nat → Prop} {x : Int32} (h : ∀ a b, P a b → (D a b ↔ D' a b)) (I : gl_I P D x) : gl_I P D' x := by
  rcases I with ⟨e, z⟩ | ⟨a, b, h1, h2, h3, h4⟩
  · exact Or.inl ⟨e, fun a b p d => z a b p ((h a b p).mpr d)⟩
  · exact Or.inr ⟨a, b, h1, (h a b h1).mp h2, h3, fun c d p q => h4 c d p ((h c d p).mpr q)⟩
theorem gl_step {P D D' : Nat → Nat → Prop} {x : Int32} {i j : Nat} (hb : ∀ a b, P a b → b ≤ 10) (hj : j ≤ 10) (hD : ∀ a b, P a b → (D' a b ↔ D a b ∨ (a = i ∧ b = j))) (I : gl_I P D x) :
    (P i j → nI (j - i) ≤ x → gl_I P D' x) ∧ (P i j → ¬ nI (j - i) ≤ x → gl_I P D' (nI (j - i))) ∧ (¬ P i j → gl_I P D' x) := by
  refine ⟨fun p hx => ?_, fun p hx => ?_, fun p => ?_⟩
  · rcases I with ⟨e, z⟩ | ⟨a, b, h1, h2, h3, h4⟩
    · rw [e] at hx
      exact absurd hx (gx_m3l (by omega))
    · have hb1 := hb a b h1
      rw [h3, nI_leI (by omega) (by omega)] at hx
      refine Or.inr ⟨a, b, h1, (hD a b h1).mpr (Or.inl h2), h3, fun c d q r => ?_⟩
      rcases (hD c d q).mp r with y | ⟨y1, y2⟩
      · exact h4 c d q y
      · rw [y1, y2]; exact hx
  · refine Or.inr ⟨i, j, p, (hD i j p).mpr (Or.inr ⟨rfl, rfl⟩), rfl, fun c d q r => ?_⟩
    rcases (hD c d q).mp r with y | ⟨y1, y2⟩
    · rcases I with ⟨e, z⟩ | ⟨a, b, h1, h2, h3, h4⟩
      · exact absurd y (z c d q)
      · have hb1 := hb a b h1
        rw [h3, nI_leI (by omega) (by omega)] at hx
        have := h4 c d q y
        omega
    · rw [y1, y2]; exact Nat.le_refl _
  · refine gl_Iw (fun a b q => ?_) I
    rw [hD a b q]
    refine ⟨Or.inl, fun y => y.resolve_right fun z => ?_⟩
    rw [z.1, z.2] at q
    exact p q
theorem gl_end {P D : Nat → Nat → Prop} {x : Int32} (h : ∀ a b, P a b → D a b) (I : gl_I P D x) : gl_F P x := by
  rcases I with ⟨e, z⟩ | ⟨a, b, h1, h2, h3, h4⟩
  · exact Or.inl ⟨e, fun a b p => z a b p (h a b p)⟩
  · exact Or.inr ⟨a, b, h1, h3, fun c d p => h4 c d p (h c d p)⟩
section xlong
variable {rs wl az : Int32} {rk rl ry wd fd fo sg st re ag li fw bg le ls : Nat → Int32} {g : gm_G} {w : Nat → Nat} {n : Nat}
theorem gx_longest30 {post : Int32 → SX → Prop} (hn : n ≤ 10) (ok : gt_ok g w n fd) {k : Nat} (hk : k < 5) (h : ∀ x, gl_F (gm_mk g w n k) x → post x (rs, nI n, az, rk, rl, ry, wd, fd, fo, sg, st, re, ag, li, fw, bg, le, ls)) : ∃ f, wX_longest_30 post (nI k) rs (nI n) az rk rl ry wd fd fo sg st re ag li fw bg le ls f (-3) 0 := by
  have hb : ∀ a b, gm_mk g w n k a b → b ≤ 10 := fun a b z => by have := gm_mb z; omega
  refine pk_loop (fun f i (x : Int32) => wX_longest_30 post (nI k) rs (nI n) az rk rl ry wd fd fo sg st re ag li fw bg le ls f x (nI i)) (fun i x => gl_I (gm_mk g w n k) (fun a _ => a < i) x) (n + 1) 0 (-3) (by omega) (Or.inl ⟨rfl, fun a b _ z => absurd z (by omega)⟩) ?_ ?_
  · intro f x I
    exact br_t (nI_lt (Nat.lt_succ_self n) (by omega)) (h x (gl_end (fun a b p => by have := gm_mb p; omega) I))
  · intro f i x hi I ih
    refine br_f (nI_nlt (by omega) (by omega)) ?_
    refine pk_loop (fun f2 j (x : Int32) => wX_longest_41 post (wX_longest_30 post (nI k) rs (nI n) az rk rl ry wd fd fo sg st re ag li fw bg le ls f) (nI k) (nI i) rs (nI n) az rk rl ry wd fd fo sg st re ag li fw bg le ls f2 x (nI j)) (fun j x => i ≤ j ∧ gl_I (gm_mk g w n k) (fun a b => a < i ∨ (a = i ∧ b < j)) x) (n + 1) i x (by omega) ⟨Nat.le_refl _, gl_Iw (fun a b p => by have := gm_mb p; omega) I⟩ ?_ ?_
    · intro f2 x2 ⟨_, I2⟩
      exact br_t (nI_lt (Nat.lt_succ_self n) (by omega)) (nm_r (nI_1 i) (ih x2 (gl_Iw (fun a b p => by have := gm_mb p; omega) I2)))
    · intro f2 j x2 hj ⟨hij, I2⟩ ih2
      refine br_f (nI_nlt (by omega) (by omega)) ?_
      have es : nI j - nI i = nI (j - i) := pk_sub hij
      rw [gx_c11, gx_cl (by omega), es]
      obtain ⟨a1, a2, a3⟩ := gl_step (D' := fun a b => a < i ∨ (a = i ∧ b < j + 1)) (i := i) (j := j) hb (by omega) (fun a b p => by omega) I2
      refine And.intro (gx_in (by omega) (by decide)) (gx_bit (by omega) (fun z => ?_) (fun z => nm_r (nI_1 j) (ih2 x2 ⟨by omega, a3 fun y => ?_⟩)))
      · have p := (ok k i j).mp ⟨hij, by omega, z⟩
        exact br_c (fun y => nm_r (nI_1 j) (ih2 x2 ⟨by omega, a1 p y⟩)) (fun y => nm_e (nm_r (nI_1 j) (ih2 _ ⟨by omega, a2 p y⟩)))
      · have y2 := ((ok k i j).mpr y).2.2
        rw [z] at y2
        exact absurd y2 (by decide)
/-! parts -/
def gp_I (P : Nat → Nat → Prop) (j i : Nat) (x : Int32) : Prop := (x = -3 ∧ ∀ c, c < i → P c j → ∀ t, ¬ gp_r P t c) ∨ ∃ t, x = nI (t + 1) ∧ (∃ c, c < i ∧ P c j ∧ gp_r P t c) ∧ ∀ c, c < i → P c j → ∀ u, gp_r P u c → t ≤ u
theorem gp_end {P : Nat → Nat → Prop} {j : Nat} {x : Int32} (hj : 0 < j) (I : gp_I P j j x) : gp_F P j x := by
  rcases I with ⟨e, z⟩ | ⟨t, e, ⟨c, h1, h2, h3⟩, h4⟩
  · refine Or.inr ⟨e, fun t => ?_⟩
    cases t with
    | zero => exact fun y => absurd (show j = 0 from y) (by omega)
    | succ t => exact fun ⟨c, h1, h2, h3⟩ => z c h1 h3 t h2
  · refine Or.inl ⟨t + 1, e, ⟨c, h1, h3, h2⟩, fun u hu => ?_⟩
    cases u with
    | zero => exact fun y => absurd (show j = 0 from y) (by omega)
    | succ u => exact fun ⟨d, d1, d2, d3⟩ => absurd (h4 d d1 d3 u d2) (by omega)
theorem gx_fewestUpTo {post : Int32 → Prop} (hn : n ≤ 10) (ok : gt_ok g w n fd) {k j : Nat} (hk : k < 5) (hj0 : 0 < j) (hj : j ≤ n) (hF : ∀ x, x < j → gp_F (gm_mk g w n k) x (fw x)) (h : ∀ x, gp_F (gm_mk g w n k) j x → post x) : wpX_fewestUpTo post (rs, wl, az, rk, rl, ry, wd, fd, fo, sg, st, re, ag, li, fw, bg, le, ls) (nI j) (nI k) := by
  refine pk_loop (fun f i (x : Int32) => wX_fewestUpTo_6 post (nI j) (nI k) rs wl az rk rl ry wd fd fo sg st re ag li fw bg le ls f x (nI i)) (fun i x => gp_I (gm_mk g w n k) j i x) j 0 (-3) (by omega) (Or.inl ⟨rfl, fun c hc => absurd hc (by omega)⟩) ?_ ?_
  · intro f x I
    exact br_t (nI_le (Nat.le_refl _) (by omega)) (h x (gp_end hj0 I))
  · intro f i x hi I ih
    refine br_f (nI_ge hi (by omega)) ?_
    have v : vp_in (nI i) 11 := gx_in (by omega) (by decide)
    have ecl : (nI i).toNatClampNeg = i := gx_cl (by omega)
    have skip : (¬ gm_mk g w n k i j ∨ ∀ t, ¬ gp_r (gm_mk g w n k) t i) → gp_I (gm_mk g w n k) j (i + 1) x := by
      intro hno
      rcases I with ⟨e, z⟩ | ⟨t, e, ⟨c, h1, h2, h3⟩, h4⟩
      · refine Or.inl ⟨e, lt_s z fun p t y => ?_⟩
        rcases hno with q | q
        · exact q p
        · exact q t y
      · refine Or.inr ⟨t, e, ⟨c, by omega, h2, h3⟩, lt_s h4 fun p u y => ?_⟩
        rcases hno with q | q
        · exact absurd p q
        · exact absurd y (q u)
    rw [gx_c11, gx_cl (by omega)]
    refine And.intro (gx_in (by omega) (by decide)) (gx_bit (by omega) (fun z => br_f gx_10 (And.intro v ?_)) (fun z => br_t rfl (nm_r (nI_1 i) (ih x (skip (Or.inl fun y => ?_))))))
    · have p := (ok k i j).mp ⟨by omega, hj, z⟩
      rw [ecl]
      rcases hF i hi with ⟨t, e, h1, h2⟩ | ⟨e, h1⟩
      · have ht := gp_le t i h1
        have low : ∀ u, gp_r (gm_mk g w n k) u i → t ≤ u := fun u y => Nat.le_of_not_lt fun q => h2 u q y
        rw [e, nI_1 t]
        have take : gp_I (gm_mk g w n k) j (i + 1) (nI (t + 1)) → wX_fewestUpTo_74 post (wX_fewestUpTo_6 post (nI j) (nI k) rs wl az rk rl ry wd fd fo sg st re ag li fw bg le ls f) (nI j) (nI k) (nI i) rs wl az rk rl ry wd fd fo sg st re ag li fw bg le ls := fun z => And.intro v (nm_r (e' := nI (t + 1)) (by rw [ecl, e, nI_1]) (nm_r (nI_1 i) (ih _ z)))
        refine br_f (gx_m3 (by omega)) (br_c (fun x0 => take ?_) (fun x0 => And.intro v (br_c (fun y => nm_r (nI_1 i) (ih x ?_)) (fun y => take ?_))))
        · rcases I with ⟨e2, z2⟩ | ⟨t2, e2, _, _⟩
          · exact Or.inr ⟨t, rfl, ⟨i, by omega, p, h1⟩, lt_s (fun c hc q u y => absurd y (z2 c hc q u)) fun _ => low⟩
          · rw [e2] at x0
            rename_i a _
            obtain ⟨c, c1, c2, c3⟩ := a
            have := gp_le t2 c c3
            exact absurd x0 (gx_m3 (by omega))
        · rcases I with ⟨e2, _⟩ | ⟨t2, e2, ⟨c, c1, c2, c3⟩, h4⟩
          · exact absurd e2 x0
          · have := gp_le t2 c c3
            rw [e2, nI_leI (by omega) (by omega)] at y
            exact Or.inr ⟨t2, e2, ⟨c, by omega, c2, c3⟩, lt_s h4 fun _ u y2 => by have := low u y2; omega⟩
        · rcases I with ⟨e2, _⟩ | ⟨t2, e2, ⟨c, c1, c2, c3⟩, h4⟩
          · exact absurd e2 x0
          · have := gp_le t2 c c3
            rw [e2, nI_leI (by omega) (by omega)] at y
            exact Or.inr ⟨t, rfl, ⟨i, by omega, p, h1⟩, lt_s (fun c hc q u y2 => by have := h4 c hc q u y2; omega) fun _ => low⟩
      · rw [e]
        exact br_t rfl (nm_r (nI_1 i) (ih x (skip (Or.inr h1))))
    · have y2 := ((ok k i j).mpr y).2.2
      rw [z] at y2
      exact absurd y2 (by decide)
theorem gx_parts34 {post : Int32 → SX → Prop} (hn : n ≤ 10) (ok : gt_ok g w n fd) {k : Nat} (hk : k < 5) (h : ∀ x fw', gp_F (gm_mk g w n k) n x → post x (rs, nI n, az, rk, rl, ry, wd, fd, fo, sg, st, re, ag, li, fw', bg, le, ls)) : ∃ f, wX_parts_34 post (nI k) rs (nI n) az f 1 rk rl ry wd fd fo sg st re ag li (upd fw 0 0) bg le ls := by
  refine pk_loop (fun f j (a : Nat → Int32) => wX_parts_34 post (nI k) rs (nI n) az f (nI j) rk rl ry wd fd fo sg st re ag li a bg le ls) (fun j a => 0 < j ∧ ∀ x, x < j → gp_F (gm_mk g w n k) x (a x)) (n + 1) 1 (upd fw 0 0) (by omega) ⟨by decide, fun x hx => ?_⟩ ?_ ?_
  · have e : x = 0 := by omega
    rw [e]
    exact Or.inl ⟨0, rfl, rfl, fun u hu => absurd hu (by omega)⟩
  · intro f a ⟨_, hI⟩
    refine br_t (nI_lt (Nat.lt_succ_self n) (by omega)) (And.intro (gx_in (by omega) (by decide)) ?_)
    rw [gx_cl (by omega)]
    exact h (a n) a (hI n (Nat.lt_succ_self n))
  · intro f j a hj ⟨hj0, hI⟩ ih
    refine br_f (nI_nlt (by omega) (by omega)) (gx_fewestUpTo hn ok hk hj0 (by omega) hI fun x hx => And.intro (gx_in (by omega) (by decide)) (nm_r (e' := upd a j x) (by rw [gx_cl (by omega)]) (nm_r (nI_1 j) (ih _ ⟨by omega, fun y hy => ?_⟩))))
    rw [gb_u]
    by_cases e : y = j
    · rw [if_pos e, e]; exact hx
    · rw [if_neg e]; exact hI y (by omega)
end xlong
section ylong
variable {sz mn gr : Int32} {th kd lg pt wd ls md le : Nat → Int32} {g : gm_G} {w : Nat → Nat} {n : Nat}
theorem gy_longest19 {post : Int32 → SY → Prop} (hn : n ≤ 10) (hl : ∀ i, i < n → ls i = nI (w i)) (hw3 : ∀ i, w i < 3) (hz : gy_Z md) (ok : gy_ok g w n md) {k : Nat} (hk : k < 5) (h : ∀ x, gl_F (gm_mk g w n k) x → post x (nI n, mn, gr, th, kd, lg, pt, wd, ls, md, le)) : ∃ f, wY_longest_19 post (nI k) (nI n) mn gr th kd lg pt wd ls md le f (-3) 0 := by
  have hb : ∀ a b, gm_mk g w n k a b → b ≤ 10 := fun a b z => by have := gm_mb z; omega
  refine pk_loop (fun f i (x : Int32) => wY_longest_19 post (nI k) (nI n) mn gr th kd lg pt wd ls md le f x (nI i)) (fun i x => gl_I (gm_mk g w n k) (fun a _ => a < i) x) (n + 1) 0 (-3) (by omega) (Or.inl ⟨rfl, fun a b _ z => absurd z (by omega)⟩) ?_ ?_
  · intro f x I
    exact br_t (nI_lt (Nat.lt_succ_self n) (by omega)) (h x (gl_end (fun a b p => by have := gm_mb p; omega) I))
  · intro f i x hi I ih
    refine br_f (nI_nlt (by omega) (by omega)) ?_
    refine pk_loop (fun f2 j (x : Int32) => wY_longest_30 post (wY_longest_19 post (nI k) (nI n) mn gr th kd lg pt wd ls md le f) (nI k) (nI i) (nI n) mn gr th kd lg pt wd ls md le f2 x (nI j)) (fun j x => i ≤ j ∧ gl_I (gm_mk g w n k) (fun a b => a < i ∨ (a = i ∧ b < j)) x) (n + 1) i x (by omega) ⟨Nat.le_refl _, gl_Iw (fun a b p => by have := gm_mb p; omega) I⟩ ?_ ?_
    · intro f2 x2 ⟨_, I2⟩
      exact br_t (nI_lt (Nat.lt_succ_self n) (by omega)) (nm_r (nI_1 i) (ih x2 (gl_Iw (fun a b p => by have := gm_mb p; omega) I2)))
    · intro f2 j x2 hj ⟨hij, I2⟩ ih2
      have es : nI j - nI i = nI (j - i) := pk_sub hij
      obtain ⟨a1, a2, a3⟩ := gl_step (D' := fun a b => a < i ∨ (a = i ∧ b < j + 1)) (i := i) (j := j) hb (by omega) (fun a b p => by omega) I2
      refine br_f (nI_nlt (by omega) (by omega)) (gy_covers hl hw3 hn hz (by omega) hij (by omega) (fun D => br_f gx_10 ?_) (fun D => br_t rfl (nm_r (nI_1 j) (ih2 x2 ⟨by omega, a3 fun y => D ((gy_Dk hk hn ok hij (by omega)).mpr y)⟩))))
      have p := (gy_Dk hk hn ok hij (by omega)).mp D
      rw [es]
      exact br_c (fun y => nm_r (nI_1 j) (ih2 x2 ⟨by omega, a1 p y⟩)) (fun y => nm_e (nm_r (nI_1 j) (ih2 _ ⟨by omega, a2 p y⟩)))
theorem gx_one {x : Int32} {s : Nat} {A B : Prop} (hs : s < 32) (h1 : bt x s = true → A) (h0 : bt x s = false → B) : (((x >>> (nI s &&& 31)) &&& 1) = 1 → A) ∧ (¬ ((x >>> (nI s &&& 31)) &&& 1) = 1 → B) := by
  rw [gb_val x hs]
  cases h : bt x s with
  | true => exact ⟨fun _ => h1 h, fun z => absurd rfl z⟩
  | false => exact ⟨fun z => absurd z (by decide), fun _ => h0 h⟩
theorem gy_behind {post : Int32 → Prop} (hn : n ≤ 10) (hl : ∀ i, i < n → ls i = nI (w i)) (hw3 : ∀ i, w i < 3) (hz : gy_Z md) (ok : gy_ok g w n md) {k : Nat} (hk : k < 5) {x : Int32} (h : ∀ y, (∀ j, bt y j = true ↔ ∃ i, i < j ∧ j ≤ n ∧ bt x i = true ∧ gm_mk g w n k i j) → post y) : wpY_behind post (nI n, mn, gr, th, kd, lg, pt, wd, ls, md, le) (nI k) x := by
  refine pk_loop (fun f c (y : Int32) => wY_behind_5 post (nI k) x (nI n) mn gr th kd lg pt wd ls md le f y (nI c)) (fun c y => ∀ j, bt y j = true ↔ ∃ i, i * 11 + j < c ∧ i < j ∧ j ≤ n ∧ bt x i = true ∧ gm_mk g w n k i j) 121 0 0 (by omega) (fun j => by rw [b_0]; exact ⟨fun z => absurd z (by decide), fun ⟨i, z, _⟩ => absurd z (by omega)⟩) ?_ ?_
  · intro f y hI
    refine br_t (nI_le (Nat.le_refl _) (by decide)) (h y fun j => ?_)
    rw [hI j]
    exact ⟨fun ⟨i, _, z⟩ => ⟨i, z⟩, fun ⟨i, z⟩ => ⟨i, by have := z.1; have := z.2.1; omega, z⟩⟩
  · intro f c y hc hI ih
    have skip : ¬ (c / 11 < c % 11 ∧ c % 11 ≤ n ∧ bt x (c / 11) = true ∧ gm_mk g w n k (c / 11) (c % 11)) → ∀ j, bt y j = true ↔ ∃ i, i * 11 + j < c + 1 ∧ i < j ∧ j ≤ n ∧ bt x i = true ∧ gm_mk g w n k i j := by
      intro hno j
      rw [hI j]
      refine ⟨fun ⟨i, z1, z2⟩ => ⟨i, by omega, z2⟩, fun ⟨i, z1, z2⟩ => ⟨i, ?_, z2⟩⟩
      rcases Nat.lt_or_ge (i * 11 + j) c with q | q
      · exact q
      · have hjn := z2.2.1
        have e1 : i = c / 11 := by omega
        have e2 : j = c % 11 := by omega
        rw [e1, e2] at z2
        exact absurd z2 hno
    have d1 : nI c / 11 = nI (c / 11) := pk_div (d := 11) (by omega) (by decide) (by decide)
    have d2 : nI c - nI c / 11 * 11 = nI (c % 11) := pk_rem (d := 11) (by omega) (by decide) (by decide)
    have off : ¬ (c / 11 < c % 11 ∧ c % 11 ≤ n ∧ bt x (c / 11) = true ∧ gm_mk g w n k (c / 11) (c % 11)) → wY_behind_68 post (wY_behind_5 post (nI k) x (nI n) mn gr th kd lg pt wd ls md le f) (nI k) x y (nI c) (nI (c % 11)) (nI n) mn gr th kd lg pt wd ls md le := fun hno => br_t rfl (nm_r (nI_1 c) (ih y (skip hno)))
    refine br_f (nI_ge hc (by decide)) (And.intro (by decide) (nm_r d1 (And.intro (by decide) (nm_r d2 ?_))))
    refine pk_le (c % 11) (c / 11) (fun q => off fun z => absurd z.1 (by omega)) (fun q => pk_lt n (c % 11) (fun q2 => off fun z => absurd z.2.1 (by omega)) (fun q2 => gx_one (by omega) (fun q3 => ?_) (fun q3 => off fun z => by rw [q3] at z; exact absurd z.2.2.1 (by decide))))
    refine gy_covers hl hw3 hn hz (by omega) (by omega) q2 (fun D => br_f gx_10 ?_) (fun D => br_t rfl (off fun z => D ((gy_Dk hk hn ok (by omega) q2).mpr z.2.2.2)))
    have p := (gy_Dk hk hn ok (by omega) q2).mp D
    refine br_f gx_10 (nm_e (nm_r (nI_1 c) (ih _ fun j => ?_)))
    rw [gb_add y (by omega), hI j]
    constructor
    · intro z
      rcases z with ⟨i, z1, z2⟩ | z
      · exact ⟨i, by omega, z2⟩
      · rw [z]
        exact ⟨c / 11, by omega, q, q2, q3, p⟩
    · intro ⟨i, z1, z2⟩
      by_cases e : j = c % 11
      · exact Or.inr e
      · refine Or.inl ⟨i, ?_, z2⟩
        have hjn := z2.2.1
        omega
theorem gy_parts18 {post : Int32 → SY → Prop} (hn : n ≤ 10) (hl : ∀ i, i < n → ls i = nI (w i)) (hw3 : ∀ i, w i < 3) (hz : gy_Z md) (ok : gy_ok g w n md) {k : Nat} (hk : k < 5) (h : ∀ x, gp_F (gm_mk g w n k) n x → post x (nI n, mn, gr, th, kd, lg, pt, wd, ls, md, le)) : ∃ f, wY_parts_18 post (nI k) (nI n) mn gr th kd lg pt wd ls md le f 1 0 := by
  refine pk_loop (fun f c (x : Int32) => wY_parts_18 post (nI k) (nI n) mn gr th kd lg pt wd ls md le f x (nI c)) (fun c x => (∀ s, bt x s = true ↔ s ≤ n ∧ gp_r (gm_mk g w n k) c s) ∧ ∀ u, u < c → ¬ gp_r (gm_mk g w n k) u n) (n + 1) 0 1 (by omega) ⟨fun s => ?_, lt_0⟩ ?_ ?_
  · rcases Nat.lt_or_ge s 32 with z | z
    · rw [gb_one s z]
      exact ⟨fun y => by have y2 := of_decide_eq_true y; exact ⟨by omega, y2⟩, fun y => decide_eq_true y.2⟩
    · rw [b_big z]
      exact ⟨fun y => absurd y (by decide), fun y => absurd y.1 (by omega)⟩
  · intro f x ⟨_, hI⟩
    exact br_t (nI_lt (Nat.lt_succ_self n) (by omega)) (h _ (Or.inr ⟨rfl, fun t z => hI t (by have := gp_le t n z; omega) z⟩))
  · intro f c x hc ⟨hx, hI⟩ ih
    refine br_f (nI_nlt (by omega) (by omega)) (gx_one (by omega) (fun z => h _ (Or.inl ⟨c, rfl, ((hx n).mp z).2, hI⟩)) (fun z => gy_behind hn hl hw3 hz ok hk fun y hy => nm_r (nI_1 c) (ih y ⟨fun s => ?_, lt_s hI fun q => ?_⟩)))
    · rw [hy s]
      constructor
      · intro ⟨i, z1, z2, z3, z4⟩
        exact ⟨z2, i, z1, ((hx i).mp z3).2, z4⟩
      · intro ⟨z1, i, z2, z3, z4⟩
        exact ⟨i, z2, z1, (hx i).mpr ⟨by omega, z3⟩, z4⟩
    · have z2 := (hx n).mpr ⟨Nat.le_refl _, q⟩
      rw [z] at z2
      exact absurd z2 (by decide)
end ylong
theorem i_vc_longest {k : Nat} {u : SX} {v : SY} (I : i_Rel k u v) (hk : k + 5 ≤ 2560) (v1 : Int32) : wpX_longest (fun r u' => wpY_longest (fun r' v' => r' = r ∧ i_Rel (k + 5) u' v') v v1) u v1 := by
  obtain ⟨rs, wl, az, rk, rl, ry, wd, fd, fo, sg, st, re, ag, li, fw, bg, le, ls⟩ := u
  obtain ⟨sz, mn, gr, th, kd, lg, pt, wy, lsy, md, ley⟩ := v
  obtain ⟨rfl, rfl, rfl, rfl, rfl, I⟩ := I
  obtain ⟨g, w, n, HX, HY, hw, hw3, hn, e, _⟩ := gx_data I
  subst e
  unfold wpX_longest wpY_longest
  by_cases h1 : v1 < 0 ∨ nI 5 ≤ v1
  · exact gx_kind0 h1 (br_t rfl (gy_kind0 h1 (br_t rfl ⟨rfl, rfl, rfl, rfl, rfl, rfl, I⟩)))
  · obtain ⟨a, ha, rfl⟩ : ∃ c, c < 5 ∧ v1 = nI c := by
      rcases pk_ix v1 (n := 5) (by decide) with z | z | z
      · exact absurd (Or.inl z) h1
      · exact absurd (Or.inr z) h1
      · exact z
    refine gx_kind1 ha (br_f gx_10 (gx_byLength_word_found HX (fun i _ => hw i) hw3 hn fun t sg' ok => gx_longest30 hn ok ha fun x hx => ?_))
    exact gy_kind1 ha (br_f gx_10 (gy_read HY (fun i _ => hw i) hw3 hn fun ls' md' hl hz ok2 => gy_longest19 hn hl hw3 hz ok2 ha fun x' hx' => ⟨gl_un hx' hx, rfl, rfl, rfl, rfl, rfl, I⟩))
theorem i_vc_parts {k : Nat} {u : SX} {v : SY} (I : i_Rel k u v) (hk : k + 5 ≤ 2560) (v1 : Int32) : wpX_parts (fun r u' => wpY_parts (fun r' v' => r' = r ∧ i_Rel (k + 5) u' v') v v1) u v1 := by
  obtain ⟨rs, wl, az, rk, rl, ry, wd, fd, fo, sg, st, re, ag, li, fw, bg, le, ls⟩ := u
  obtain ⟨sz, mn, gr, th, kd, lg, pt, wy, lsy, md, ley⟩ := v
  obtain ⟨rfl, rfl, rfl, rfl, rfl, I⟩ := I
  obtain ⟨g, w, n, HX, HY, hw, hw3, hn, e, _⟩ := gx_data I
  subst e
  unfold wpX_parts wpY_parts
  by_cases h1 : v1 < 0 ∨ nI 5 ≤ v1
  · exact gx_kind0 h1 (br_t rfl (gy_kind0 h1 (br_t rfl ⟨rfl, rfl, rfl, rfl, rfl, rfl, I⟩)))
  · obtain ⟨a, ha, rfl⟩ : ∃ c, c < 5 ∧ v1 = nI c := by
      rcases pk_ix v1 (n := 5) (by decide) with z | z | z
      · exact absurd (Or.inl z) h1
      · exact absurd (Or.inr z) h1
      · exact z
    refine gx_kind1 ha (br_f gx_10 (gx_byLength_word_found HX (fun i _ => hw i) hw3 hn fun t sg' ok => nm_e (gx_parts34 hn ok ha fun x fw' hx => ?_)))
    exact gy_kind1 ha (br_f gx_10 (gy_read HY (fun i _ => hw i) hw3 hn fun ls' md' hl hz ok2 => gy_parts18 hn hl hw3 hz ok2 ha fun x' hx' => ⟨gp_un hx' hx, rfl, rfl, rfl, rfl, rfl, I⟩))
end
section
/-! empty, able, shortest -/
theorem gw_vle (g : gm_G) (c s : Nat) : gw_v 1 (gw_i g 1 c) s ≤ 100000 := by
  unfold gw_v
  split
  · exact gw_top g 1 c s
  · omega
theorem gw_ule (g : gm_G) (c r : Nat) : ∀ d, gw_u g 1 (gw_i g 1 c) r d ≤ d * 100000
  | 0 => by simp [gw_u]
  | d + 1 => by
    have h := gw_ule g c r d
    have h2 := gw_vle g c (gm_y g r d)
    simp only [gw_u]
    omega
section yweigh
variable {sz mn gr : Int32} {th kd lg pt wd ls md le : Nat → Int32} {g : gm_G} {w : Nat → Nat} {n : Nat}
theorem gy_weigh {post : SY → Prop} (H : gy_G g th kd lg pt) (h : ∀ le', (∀ s, s < 5 → le' s = nI (gw_i g 1 96 s)) → post (sz, mn, gr, th, kd, lg, pt, wd, ls, md, le')) : wpY_weigh post (sz, mn, gr, th, kd, lg, pt, wd, ls, md, le) := by
  refine pk_loop (fun f x (a : Nat → Int32) => wY_weigh_2 post sz mn gr f (nI x) th kd lg pt wd ls md a) (fun x a => ∀ s, s < x → a s = nI 100000) 5 0 le (by omega) lt_0 ?_ ?_
  · intro f a ha
    refine br_t (nI_le (Nat.le_refl _) (by decide)) ?_
    refine pk_loop (fun f c (a : Nat → Int32) => wY_weigh_23 post sz mn gr f (nI c) th kd lg pt wd ls md a) (fun c a => ∀ s, s < 5 → a s = nI (gw_i g 1 c s)) 96 0 a (by omega) ha ?_ ?_
    · intro f2 a2 hI
      exact br_t (nI_le (Nat.le_refl _) (by decide)) (h a2 hI)
    · intro f2 c a2 hc hI ih
      have hr : c % 16 < 16 := Nat.mod_lt _ (by decide)
      have hk := H.1.1 (c % 16)
      have h3 := H.1.2.1 (c % 16)
      have vr : vp_in (nI (c % 16)) 16 := gx_in hr (by decide)
      have er : (nI (c % 16)).toNatClampNeg = c % 16 := gx_cl (by omega)
      have ek : kd (nI (c % 16)).toNatClampNeg = nI (gm_k g (c % 16)) := by rw [er]; exact H.2.2.1 _
      have el : lg (nI (c % 16)).toNatClampNeg = nI (gm_l g (c % 16)) := by rw [er]; exact H.2.2.2.1 _
      have vk : vp_in (nI (gm_k g (c % 16))) 5 := gx_in hk (by decide)
      have eck : (nI (gm_k g (c % 16))).toNatClampNeg = gm_k g (c % 16) := gx_cl (by omega)
      have htop := gw_top g 1 c (gm_k g (c % 16))
      have keep : gw_i g 1 c (gm_k g (c % 16)) ≤ gw_f g 1 (c % 16) (gw_i g 1 c) → ∀ s, s < 5 → a2 s = nI (gw_i g 1 (c + 1) s) := fun hle s hs => by
        rw [gw_step, hI s hs]
        split
        · rename_i e; rw [e, Nat.min_eq_left hle]
        · rfl
      have stay : gw_i g 1 c (gm_k g (c % 16)) ≤ gw_f g 1 (c % 16) (gw_i g 1 c) → wY_weigh_135 post (wY_weigh_23 post sz mn gr f2) (nI c) (nI (c % 16)) (nI (gm_k g (c % 16))) sz mn gr th kd lg pt wd ls md a2 := fun hle => by
        refine And.intro vr ?_
        rw [ek]
        refine And.intro vk (And.intro vk (nm_r (e' := a2) (by rw [gt_up]) (nm_r (nI_1 c) (ih a2 (keep hle)))))
      refine br_f (nI_ge hc (by decide)) (And.intro (by decide) (nm_r (pk_rem (d := 16) (by omega) (by decide) (by decide)) ?_))
      refine pk_loop (fun f3 p (x : Int32) => wY_weigh_39 post (wY_weigh_23 post sz mn gr f2) (nI c) (nI (c % 16)) sz mn gr th kd lg pt wd ls md a2 f3 x (nI p)) (fun p x => x = nI (gw_u g 1 (gw_i g 1 c) (c % 16) (min p (gm_l g (c % 16))))) 3 0 0 (by omega) (by rw [Nat.zero_min]; rfl) ?_ ?_
      · intro f3 x hx
        rw [Nat.min_eq_right h3] at hx
        subst hx
        have hu := gw_ule g c (c % 16) (gm_l g (c % 16))
        refine br_t (nI_le (Nat.le_refl _) (by decide)) (And.intro vr (And.intro vr ?_))
        have eth : th (nI (c % 16)).toNatClampNeg = if gm_p g (c % 16) = true then 1 else 0 := by rw [er]; exact H.2.1 _ hr
        rw [ek, eth, eck, hI _ hk]
        by_cases hp : gm_p g (c % 16) = true
        · have ef : gw_f g 1 (c % 16) (gw_i g 1 c) = gw_u g 1 (gw_i g 1 c) (c % 16) (gm_l g (c % 16)) := by unfold gw_f; rw [if_pos hp]
          rw [if_pos hp]
          refine br_f gx_10 (And.intro vr (And.intro vk (pk_le (gw_i g 1 c (gm_k g (c % 16))) (gw_u g 1 (gw_i g 1 c) (c % 16) (gm_l g (c % 16))) (fun hle => stay (by rw [ef]; exact hle)) (fun hlt => And.intro vk (nm_e (nm_r (nI_1 c) (ih _ fun s hs => ?_)))))))
          rw [gb_u, gw_step, ef]
          by_cases e : s = gm_k g (c % 16)
          · rw [if_pos e, if_pos e, e, Nat.min_eq_right (by omega)]
          · rw [if_neg e, if_neg e, hI s hs]
        · have ef : gw_f g 1 (c % 16) (gw_i g 1 c) = 100000 := by unfold gw_f; rw [if_neg hp]
          rw [if_neg hp]
          exact br_t rfl (stay (by rw [ef]; exact htop))
      · intro f3 p x hp hx ih3
        subst hx
        have h8 := H.1.2.2 (c % 16) p
        refine br_f (nI_ge hp (by decide)) (gy_symbol H hr (by omega) (And.intro vr ?_))
        rw [el]
        refine pk_lt p (gm_l g (c % 16)) (fun hl => pk_le 5 (gm_y g (c % 16) p) (fun h5 => nm_e (nm_r (nI_1 p) (ih3 _ ?_))) (fun h5 => And.intro (gx_in (by omega) (by decide)) (nm_e (nm_r (nI_1 p) (ih3 _ ?_))))) (fun hl => nm_r (nI_1 p) (ih3 _ ?_))
        · rw [Nat.min_eq_left (by omega), Nat.min_eq_left (by omega), nI_1]
          show nI _ = nI (_ + _)
          unfold gw_v
          rw [if_neg (by omega)]
        · rw [Nat.min_eq_left (by omega), Nat.min_eq_left (by omega), gx_cl (by omega), hI _ h5, nI_add]
          show nI _ = nI (_ + _)
          unfold gw_v
          rw [if_pos h5]
        · rw [Nat.min_eq_right (by omega), Nat.min_eq_right (by omega)]
  · intro f x a hx ha ih
    refine br_f (nI_ge hx (by decide)) (And.intro (gx_in hx (by decide)) (nm_r (e' := upd a x (nI 100000)) (by rw [gx_cl (by omega)]; rfl) (nm_r (nI_1 x) (ih _ fun s hs => ?_))))
    rw [gb_u]
    split
    · rfl
    · exact ha s (by omega)
theorem gy_able {post : Int32 → SY → Prop} (H : gy_G g th kd lg pt) (h : ∀ e le', gx_E g 1 e → post e (sz, mn, gr, th, kd, lg, pt, wd, ls, md, le')) : wpY_able post (sz, mn, gr, th, kd, lg, pt, wd, ls, md, le) := by
  unfold wpY_able
  refine gy_weigh H fun le' hl => ?_
  refine pk_loop (fun f k (x : Int32) => wY_able_8 post sz mn gr th kd lg pt wd ls md le' f x (nI k)) (fun k x => ∀ s, bt x s = true ↔ s < k ∧ gw_i g 1 80 s < 100000) 5 0 0 (by omega) (fun s => by rw [b_0]; exact ⟨fun z => absurd z (by decide), fun z => absurd z.1 (by omega)⟩) ?_ ?_
  · intro f x hI
    exact br_t (nI_le (Nat.le_refl _) (by decide)) (h x le' hI)
  · intro f k x hk hI ih
    have htop := gw_top g 1 80 k
    refine br_f (nI_ge hk (by decide)) (And.intro (gx_in hk (by decide)) ?_)
    rw [gx_cl (by omega), hl k hk, gw_96 H.1 hk]
    refine pk_le 100000 (gw_i g 1 80 k) (fun z => nm_r (nI_1 k) (ih x fun s => ?_)) (fun z => nm_e (nm_r (nI_1 k) (ih _ fun s => ?_)))
    · rw [hI s]
      refine ⟨fun y => ⟨by omega, y.2⟩, fun y => ⟨?_, y.2⟩⟩
      by_cases e : s = k
      · rw [e] at y; omega
      · omega
    · rw [gb_add x (by omega), hI s]
      constructor
      · intro y
        rcases y with y | y
        · exact ⟨by omega, y.2⟩
        · rw [y]; exact ⟨by omega, z⟩
      · intro y
        by_cases e : s = k
        · exact Or.inr e
        · exact Or.inl ⟨by omega, y.2⟩
theorem gy_empty {post : Int32 → SY → Prop} (H : gy_G g th kd lg pt) (h : ∀ e md', gx_E g 100000 e → post e (sz, 0, 0, th, kd, lg, pt, wd, ls, md', le)) : wpY_empty post (sz, mn, gr, th, kd, lg, pt, wd, ls, md, le) := by
  unfold wpY_empty
  refine gy_grow (n := 0) (w := fun _ => 0) H (fun i hi => absurd hi (by omega)) (fun _ => by decide) (by decide) fun md' hz ok => ?_
  refine pk_loop (fun f k (x : Int32) => wY_empty_13 post sz 0 0 th kd lg pt wd ls md' le f x (nI k)) (fun k x => ∀ s, bt x s = true ↔ s < k ∧ gn_e g s) 5 0 0 (by omega) (fun s => by rw [b_0]; exact ⟨fun z => absurd z (by decide), fun z => absurd z.1 (by omega)⟩) ?_ ?_
  · intro f x hI
    exact br_t (nI_le (Nat.le_refl _) (by decide)) (h x md' fun s => (hI s).trans ⟨fun y => y.2, fun y => ⟨y.1, y⟩⟩)
  · intro f k x hk hI ih
    have key : gy_D md' (fun _ => 0) k 0 0 ↔ gn_e g k := (gy_Dk hk (by decide) ok (Nat.le_refl _) (Nat.le_refl _)).trans (gn_iff H.1 (Nat.le_refl _))
    refine br_f (nI_ge hk (by decide)) (gy_covers (n := 0) (w := fun _ => 0) (i := 0) (j := 0) (fun i hi => absurd hi (by omega)) (fun _ => by decide) (by decide) hz (by omega) (Nat.le_refl _) (Nat.le_refl _) (fun D => br_f gx_10 (nm_e (nm_r (nI_1 k) (ih _ fun s => ?_)))) (fun D => br_t rfl (nm_r (nI_1 k) (ih x fun s => ?_))))
    · rw [gb_add x (by omega), hI s]
      constructor
      · intro y
        rcases y with y | y
        · exact ⟨by omega, y.2⟩
        · rw [y]; exact ⟨by omega, key.mp D⟩
      · intro y
        by_cases e : s = k
        · exact Or.inr e
        · exact Or.inl ⟨by omega, y.2⟩
    · rw [hI s]
      refine ⟨fun y => ⟨by omega, y.2⟩, fun y => ⟨?_, y.2⟩⟩
      by_cases e : s = k
      · rw [e] at y; exact absurd (key.mpr y.2) D
      · omega
end yweigh
theorem gx_Eun {g : gm_G} {lw : Nat} {e e' : Int32} (h : gx_E g lw e) (h' : gx_E g lw e') : e' = e := b_ext fun i _ => Bool.eq_iff_iff.mpr ((h' i).trans (h i).symm)
theorem i_vc_empty {k : Nat} {u : SX} {v : SY} (I : i_Rel k u v) (hk : k + 5 ≤ 2560) : wpX_empty (fun r => wpY_empty (fun r' v' => r' = r ∧ i_Rel (k + 5) u v') v) u := by
  obtain ⟨rs, wl, az, rk, rl, ry, wd, fd, fo, sg, st, re, ag, li, fw, bg, le, ls⟩ := u
  obtain ⟨sz, mn, gr, th, kd, lg, pt, wy, lsy, md, ley⟩ := v
  obtain ⟨rfl, rfl, rfl, rfl, rfl, I⟩ := I
  obtain ⟨g, w, n, HX, HY, hw, hw3, hn, e, _⟩ := gx_data I
  unfold wpX_empty
  exact gx_kmf HX gx_gv0 fun e he => gy_empty HY fun e' md' he' => ⟨gx_Eun he he', rfl, rfl, rfl, rfl, rfl, I⟩
theorem i_vc_able {k : Nat} {u : SX} {v : SY} (I : i_Rel k u v) (hk : k + 5 ≤ 2560) : wpX_able (fun r => wpY_able (fun r' v' => r' = r ∧ i_Rel (k + 5) u v') v) u := by
  obtain ⟨rs, wl, az, rk, rl, ry, wd, fd, fo, sg, st, re, ag, li, fw, bg, le, ls⟩ := u
  obtain ⟨sz, mn, gr, th, kd, lg, pt, wy, lsy, md, ley⟩ := v
  obtain ⟨rfl, rfl, rfl, rfl, rfl, I⟩ := I
  obtain ⟨g, w, n, HX, HY, hw, hw3, hn, e, _⟩ := gx_data I
  unfold wpX_able
  exact gx_kmf HX gx_gv1 fun e he => gy_able HY fun e' le' he' => ⟨gx_Eun he he', rfl, rfl, rfl, rfl, rfl, I⟩
/-! shortest -/
def gx_en (v : Nat) : Int32 := if v = 100000 then -3 else nI v
section xshort
variable {rs wl az : Int32} {rk rl ry wd fd fo sg st re ag li fw bg le ls : Nat → Int32} {g : gm_G}
theorem gx_leastOfRule {post : Int32 → Prop} (H : gx_G g rs rk rl ry) {c r : Nat} (hr : r < 16) (hl : ∀ s, s < 8 → le s = gx_en (gw_v 1 (gw_i g 1 c) s)) (h1 : (∀ d, d < gm_l g r → gw_v 1 (gw_i g 1 c) (gm_y g r d) < 100000) → post (nI (gw_u g 1 (gw_i g 1 c) r (gm_l g r)))) (h0 : (¬ ∀ d, d < gm_l g r → gw_v 1 (gw_i g 1 c) (gm_y g r d) < 100000) → post (-3)) : wpX_leastOfRule post (rs, wl, az, rk, rl, ry, wd, fd, fo, sg, st, re, ag, li, fw, bg, le, ls) (nI r) := by
  have h3 := H.1.2.1 r
  have el := gx_Gl H hr
  refine pk_loop (fun f d (x : Int32) => wX_leastOfRule_4 post (nI r) rs wl az rk rl ry wd fd fo sg st re ag li fw bg le ls f x (nI d)) (fun d x => x = nI (gw_u g 1 (gw_i g 1 c) r d) ∧ ∀ e, e < d → gw_v 1 (gw_i g 1 c) (gm_y g r e) < 100000) (gm_l g r) 0 0 (by omega) ⟨rfl, lt_0⟩ ?_ ?_
  · intro f x ⟨hx, hI⟩
    subst hx
    exact And.intro (gx_in hr (by decide)) (br_t (by rw [el]; exact nI_le (Nat.le_refl _) (by omega)) (h1 hI))
  · intro f d x hd ⟨hx, hI⟩ ih
    subst hx
    have h8 := H.1.2.2 r d
    have v8 : vp_in (nI (gm_y g r d)) 8 := gx_in h8 (by decide)
    refine And.intro (gx_in hr (by decide)) (br_f (by rw [el]; exact nI_ge hd (by omega)) (gx_symbolAt H hr (by omega) (And.intro v8 ?_)))
    rw [gx_cl (by omega), hl _ h8]
    unfold gx_en
    rcases gw_v243 (g := g) H.1 (lw := 1) (Or.inl rfl) c (gm_y g r d) with z | z
    · rw [if_pos z]
      exact br_t rfl (h0 fun y => absurd (y d hd) (by omega))
    · rw [if_neg (by omega)]
      refine br_f (gx_m3 (by omega)) (And.intro v8 (nm_e (nm_r (nI_1 d) (ih _ ⟨?_, lt_s hI (by omega)⟩))))
      rw [nI_add]
      rfl
theorem gx_shortest11 {post : Int32 → SX → Prop} (H : gx_G g rs rk rl ry) {k : Nat} (hk : k < 5) (h : ∀ le', post (gx_en (gw_i g 1 80 k)) (rs, wl, az, rk, rl, ry, wd, fd, fo, sg, st, re, ag, li, fw, bg, le', ls)) : ∃ f, wX_shortest_11 post (nI k) rs wl az f 0 rk rl ry wd fd fo sg st re ag li fw bg le ls := by
  refine pk_loop (fun f s (a : Nat → Int32) => wX_shortest_11 post (nI k) rs wl az f (nI s) rk rl ry wd fd fo sg st re ag li fw bg a ls) (fun s a => ∀ x, x < s → a x = gx_en (gw_v 1 (gw_i g 1 0) x)) 8 0 le (by omega) lt_0 ?_ ?_
  · intro f a ha
    refine br_t (nI_le (Nat.le_refl _) (by decide)) ?_
    refine pk_loop (fun f t (a : Nat → Int32) => wX_shortest_42 post (nI k) rs wl az f (nI t) rk rl ry wd fd fo sg st re ag li fw bg a ls) (fun t a => ∀ x, x < 8 → a x = gx_en (gw_v 1 (gw_i g 1 (16 * t)) x)) 5 0 a (by omega) ha ?_ ?_
    · intro f2 a2 hI
      refine br_t (nI_le (Nat.le_refl _) (by decide)) (And.intro (gx_in (by omega) (by decide)) ?_)
      rw [gx_cl (by omega), hI k (by omega)]
      have e : gw_v 1 (gw_i g 1 (16 * 5)) k = gw_i g 1 80 k := by unfold gw_v; rw [if_pos hk]
      rw [e]
      exact h a2
    · intro f2 t a2 ht hI ih
      refine br_f (nI_ge ht (by decide)) ?_
      refine pk_loop (fun f3 r (a : Nat → Int32) => wX_shortest_49 post (wX_shortest_42 post (nI k) rs wl az f2) (nI k) (nI t) rs wl az f3 (nI r) rk rl ry wd fd fo sg st re ag li fw bg a ls) (fun r a => ∀ x, x < 8 → a x = gx_en (gw_v 1 (gw_i g 1 (16 * t + r)) x)) 16 0 a2 (by omega) hI ?_ ?_
      · intro f3 a3 hI3
        exact br_t (nI_le (Nat.le_refl _) (by decide)) (nm_r (nI_1 t) (ih a3 (by rw [Nat.mul_succ]; exact hI3)))
      · intro f3 r a3 hr hI3 ih3
        have hm : (16 * t + r) % 16 = r := by omega
        have hkr := H.1.1 r
        have htop := gw_top g 1 (16 * t + r) (gm_k g r)
        have stp : ∀ x, gw_v 1 (gw_i g 1 (16 * t + (r + 1))) x = if x = gm_k g r then min (gw_i g 1 (16 * t + r) x) (gw_f g 1 r (gw_i g 1 (16 * t + r))) else gw_v 1 (gw_i g 1 (16 * t + r)) x := fun x => by
          unfold gw_v
          rw [← Nat.add_assoc, gw_step, hm]
          by_cases e : x = gm_k g r
          · rw [if_pos e, if_pos e, if_pos (by omega)]
          · rw [if_neg e, if_neg e]
        have keep : gw_i g 1 (16 * t + r) (gm_k g r) ≤ gw_f g 1 r (gw_i g 1 (16 * t + r)) → ∀ x, x < 8 → a3 x = gx_en (gw_v 1 (gw_i g 1 (16 * t + (r + 1))) x) := fun hle x hx => by
          rw [stp x, hI3 x hx]
          by_cases e : x = gm_k g r
          · rw [if_pos e, e, Nat.min_eq_left hle]
            unfold gw_v
            rw [if_pos hkr]
          · rw [if_neg e]
        refine br_f (nI_ge hr (by decide)) (gx_hasRule H hr (fun hp => br_f gx_10 ?_) (fun hp => br_t rfl (nm_r (nI_1 r) (ih3 a3 (keep ?_)))))
        · have ef : gw_f g 1 r (gw_i g 1 (16 * t + r)) = gw_u g 1 (gw_i g 1 (16 * t + r)) r (gm_l g r) := by unfold gw_f; rw [if_pos hp]
          have vr : vp_in (nI r) 16 := gx_in hr (by decide)
          have ek := gx_Gk H hr
          have vk : vp_in (nI (gm_k g r)) 8 := gx_in (by omega) (by decide)
          have eck : (nI (gm_k g r)).toNatClampNeg = gm_k g r := gx_cl (by omega)
          have ekn : a3 (gm_k g r) = gx_en (gw_i g 1 (16 * t + r) (gm_k g r)) := by
            rw [hI3 _ (by omega)]
            unfold gw_v
            rw [if_pos hkr]
          refine gx_leastOfRule H hr hI3 (fun hall => And.intro vr ?_) (fun hno => And.intro vr ?_)
          · have hlt := (gw_fin H.1 (Or.inl rfl) (16 * t + r) r).mpr ⟨hp, hall⟩
            rw [ef] at hlt
            have sv : 0 < 1 := by decide
            have hbig : gw_u g 1 (gw_i g 1 (16 * t + r)) r (gm_l g r) < 1000 := by
              rcases gw_ub (g := g) (r := r) (gw_v243 H.1 (lw := 1) (Or.inl rfl) (16 * t + r)) (gm_l g r) with ⟨z, _⟩ | ⟨_, z⟩
              · omega
              · have h3 := H.1.2.1 r
                have : gm_l g r * 243 ≤ 3 * 243 := Nat.mul_le_mul_right _ h3
                omega
            have fin : gw_u g 1 (gw_i g 1 (16 * t + r)) r (gm_l g r) < gw_i g 1 (16 * t + r) (gm_k g r) → wX_shortest_104 post (wX_shortest_42 post (nI k) rs wl az f2) (wX_shortest_49 post (wX_shortest_42 post (nI k) rs wl az f2) (nI k) (nI t) rs wl az f3) (nI k) (nI t) (nI r) (nI (gw_u g 1 (gw_i g 1 (16 * t + r)) r (gm_l g r))) rs wl az rk rl ry wd fd fo sg st re ag li fw bg a3 ls := fun hless => by
              refine And.intro vr ?_
              rw [ek, eck]
              refine And.intro vk (nm_e (nm_r (nI_1 r) (ih3 _ fun x hx => ?_)))
              rw [gb_u, stp x, ef]
              by_cases e : x = gm_k g r
              · rw [if_pos e, if_pos e, e, Nat.min_eq_right (by omega)]
                unfold gx_en
                rw [if_neg (by omega)]
              · rw [if_neg e, if_neg e]
                exact hI3 x hx
            rw [ek, eck, ekn]
            refine And.intro vk (nm_e (br_f (gx_m3 hbig) ?_))
            unfold gx_en
            rcases gw_243 (g := g) H.1 (lw := 1) (Or.inl rfl) (16 * t + r) hkr with z | z
            · rw [if_pos z]
              exact br_t rfl (fin (by omega))
            · rw [if_neg (by omega)]
              exact br_f (gx_m3 (by omega)) (pk_le _ _ (fun y => nm_r (nI_1 r) (ih3 a3 (keep (by rw [ef]; exact y)))) (fun y => fin y))
          · have hge : ¬ gw_f g 1 r (gw_i g 1 (16 * t + r)) < 100000 := fun z => hno ((gw_fin H.1 (Or.inl rfl) (16 * t + r) r).mp z).2
            rw [ek, eck]
            exact And.intro vk (nm_e (br_t rfl (nm_r (nI_1 r) (ih3 a3 (keep (by omega))))))
        · unfold gw_f
          rw [if_neg (by rw [hp]; decide)]
          exact htop
  · intro f s a hs ha ih
    have v8 : vp_in (nI s) 8 := gx_in hs (by decide)
    refine br_f (nI_ge hs (by decide)) (pk_le 5 s (fun h5 => And.intro v8 (nm_r (e' := upd a s 1) (by rw [gx_cl (by omega)]) (nm_r (nI_1 s) (ih _ fun x hx => ?_)))) (fun h5 => And.intro v8 (nm_r (e' := upd a s (-3)) (by rw [gx_cl (by omega)]) (nm_r (nI_1 s) (ih _ fun x hx => ?_)))))
    · rw [gb_u]
      by_cases e : x = s
      · rw [if_pos e]
        unfold gx_en gw_v
        rw [if_neg (by omega : ¬ x < 5)]
        rfl
      · rw [if_neg e]; exact ha x (by omega)
    · rw [gb_u]
      by_cases e : x = s
      · rw [if_pos e]
        unfold gx_en gw_v
        rw [if_pos (by omega : x < 5)]
        rfl
      · rw [if_neg e]; exact ha x (by omega)
end xshort
theorem i_vc_shortest {k : Nat} {u : SX} {v : SY} (I : i_Rel k u v) (hk : k + 5 ≤ 2560) (v1 : Int32) : wpX_shortest (fun r u' => wpY_shortest (fun r' v' => r' = r ∧ i_Rel (k + 5) u' v') v v1) u v1 := by
  obtain ⟨rs, wl, az, rk, rl, ry, wd, fd, fo, sg, st, re, ag, li, fw, bg, le, ls⟩ := u
  obtain ⟨sz, mn, gr, th, kd, lg, pt, wy, lsy, md, ley⟩ := v
  obtain ⟨rfl, rfl, rfl, rfl, rfl, I⟩ := I
  obtain ⟨g, w, n, HX, HY, hw, hw3, hn, e, _⟩ := gx_data I
  unfold wpX_shortest wpY_shortest
  by_cases h1 : v1 < 0 ∨ nI 5 ≤ v1
  · exact gx_kind0 h1 (br_t rfl (gy_weigh HY fun le' hl => gy_kind0 h1 (br_t rfl ⟨rfl, rfl, rfl, rfl, rfl, rfl, I⟩)))
  · obtain ⟨a, ha, rfl⟩ : ∃ c, c < 5 ∧ v1 = nI c := by
      rcases pk_ix v1 (n := 5) (by decide) with z | z | z
      · exact absurd (Or.inl z) h1
      · exact absurd (Or.inr z) h1
      · exact z
    refine gx_kind1 ha (br_f gx_10 (gx_shortest11 HX ha fun le1 => gy_weigh HY fun le' hl => gy_kind1 ha (br_f gx_10 (And.intro (gx_in ha (by decide)) ?_))))
    rw [gx_cl (by omega), hl a ha, gw_96 HX.1 ha]
    have htop := gw_top g 1 80 a
    unfold gx_en
    refine pk_le 100000 (gw_i g 1 80 a) (fun z => ?_) (fun z => And.intro (gx_in ha (by decide)) ?_)
    · rw [if_pos (by omega)]
      exact ⟨rfl, rfl, rfl, rfl, rfl, rfl, I⟩
    · rw [if_neg (by omega)]
      exact ⟨rfl, rfl, rfl, rfl, rfl, rfl, I⟩
end
section
/-! first -/
theorem gf_step {g : gm_G} {a c s r : Nat} (h : c % 16 = r) : gf_s g a (c + 1) s ↔ gf_s g a c s ∨ (s = gm_k g r ∧ gf_on g r ∧ gf_h g (gf_s g a c) r (gm_l g r)) := by
  subst h
  exact Iff.rfl
theorem gf_let {g : gm_G} (G : gm_ok g) {a s : Nat} (hs : 5 ≤ s) : ∀ c, gf_s g a c s ↔ s = 5 + a
  | 0 => Iff.rfl
  | c + 1 => by
    rw [gf_step rfl, gf_let G hs c]
    refine ⟨fun z => z.resolve_right fun y => ?_, Or.inl⟩
    have := G.1 (c % 16)
    omega
theorem gf_hs {g : gm_G} {S : Nat → Prop} {r d : Nat} (hd : ∀ e, e < d → gn_e g (gm_y g r e)) : gf_h g S r (d + 1) ↔ gf_h g S r d ∨ S (gm_y g r d) := by
  constructor
  · intro ⟨x, h1, h2, h3⟩
    by_cases e : x = d
    · rw [e] at h3; exact Or.inr h3
    · exact Or.inl ⟨x, by omega, h2, h3⟩
  · intro z
    rcases z with ⟨x, h1, h2, h3⟩ | z
    · exact ⟨x, by omega, h2, h3⟩
    · exact ⟨d, by omega, hd, z⟩
theorem gf_hn {g : gm_G} {S : Nat → Prop} {r d : Nat} (hd : ¬ ∀ e, e < d → gn_e g (gm_y g r e)) : gf_h g S r (d + 1) ↔ gf_h g S r d := by
  constructor
  · intro ⟨x, h1, h2, h3⟩
    by_cases e : x = d
    · rw [e] at h2; exact absurd h2 hd
    · exact ⟨x, by omega, h2, h3⟩
  · intro ⟨x, h1, h2, h3⟩
    exact ⟨x, by omega, h2, h3⟩
theorem gf_hstop {g : gm_G} {S : Nat → Prop} {r d : Nat} (hd : ¬ gn_e g (gm_y g r d)) : ∀ n, d + 1 ≤ n → (gf_h g S r n ↔ gf_h g S r (d + 1))
  | 0, h => absurd h (by omega)
  | n + 1, h => by
    by_cases e : d = n
    · rw [e]
    · rw [gf_hn (d := n) fun z => hd (z d (by omega)), gf_hstop hd n (by omega)]
theorem gf_ab {g : gm_G} {e : Int32} (E : gx_E g 1 e) {s : Nat} (hs : s < 8) : bt (e ||| 224) s = true ↔ gf_able g s := by
  rw [gb_or, E s, gb_224 s (by omega)]
  unfold gf_able
  constructor
  · intro z
    rcases z with z | z
    · exact Or.inr z.2
    · exact Or.inl (of_decide_eq_true z).1
  · intro z
    rcases z with z | z
    · exact Or.inr (decide_eq_true ⟨z, hs⟩)
    · by_cases h : s < 5
      · exact Or.inl ⟨h, z⟩
      · exact Or.inr (decide_eq_true ⟨by omega, hs⟩)
def gf_B (g : gm_G) (c : Nat) (bg : Nat → Int32) : Prop := ∀ s, s < 8 → ∀ a, bt (bg s) a = true ↔ a < 3 ∧ gf_s g a c s
section xfirst
variable {rs wl az : Int32} {rk rl ry wd fd fo sg st re ag li fw bg le ls : Nat → Int32} {g : gm_G}
theorem gx_beginsOfRule {post : Int32 → Prop} (H : gx_G g rs rk rl ry) {c r : Nat} (hr : r < 16) (B : gf_B g c bg) {e : Int32} (E : gx_E g 100000 e) (h : ∀ x, (∀ a, bt x a = true ↔ a < 3 ∧ gf_h g (gf_s g a c) r (gm_l g r)) → post x) : wpX_beginsOfRule post (rs, wl, az, rk, rl, ry, wd, fd, fo, sg, st, re, ag, li, fw, bg, le, ls) (nI r) e := by
  have hbe : ∀ s, bt e s = true ↔ gn_e g s := E
  have h3 := H.1.2.1 r
  have el := gx_Gl H hr
  refine pk_loop (fun f d (x : Int32) => wX_beginsOfRule_5 post (nI r) e rs wl az rk rl ry wd fd fo sg st re ag li fw bg le ls f x (nI d)) (fun d x => (∀ y, y < d → gn_e g (gm_y g r y)) ∧ ∀ a, bt x a = true ↔ a < 3 ∧ gf_h g (gf_s g a c) r d) (gm_l g r) 0 0 (by omega) ⟨lt_0, fun a => by rw [b_0]; exact ⟨fun z => absurd z (by decide), fun ⟨_, d, z, _⟩ => absurd z (by omega)⟩⟩ ?_ ?_
  · intro f x ⟨_, hI⟩
    exact And.intro (gx_in hr (by decide)) (br_t (by rw [el]; exact nI_le (Nat.le_refl _) (by omega)) (h x hI))
  · intro f d x hd ⟨hN, hI⟩ ih
    have h8 := H.1.2.2 r d
    have key : ∀ a, bt (x ||| bg (gm_y g r d)) a = true ↔ a < 3 ∧ gf_h g (gf_s g a c) r (d + 1) := fun a => by
      rw [gb_or, hI a, B _ h8 a, gf_hs hN]
      exact ⟨fun z => z.elim (fun y => ⟨y.1, Or.inl y.2⟩) (fun y => ⟨y.1, Or.inr y.2⟩), fun z => z.2.elim (fun y => Or.inl ⟨z.1, y⟩) (fun y => Or.inr ⟨z.1, y⟩)⟩
    refine And.intro (gx_in hr (by decide)) (br_f (by rw [el]; exact nI_ge hd (by omega)) (gx_symbolAt H hr (by omega) (And.intro (gx_in h8 (by decide)) (nm_r (e' := x ||| bg (gm_y g r d)) (by rw [gx_cl (by omega)]) (gx_bit (by omega) (fun hb => nm_r (nI_1 d) (ih _ ⟨lt_s hN ((hbe _).mp hb), key⟩)) (fun hb => h _ fun a => ?_))))))
    rw [key a, gf_hstop (fun z => by rw [(hbe _).mpr z] at hb; exact absurd hb (by decide)) (gm_l g r) (by omega)]
theorem gx_first30 {post : Int32 → SX → Prop} (H : gx_G g rs rk rl ry) {e1 e2 : Int32} (E1 : gx_E g 100000 e1) (E2 : gx_E g 1 e2) {k : Nat} (hk : k < 5) (h : ∀ x bg', (∀ a, bt x a = true ↔ a < 3 ∧ gf_s g a 80 k) → post x (rs, wl, az, rk, rl, ry, wd, fd, fo, sg, st, re, ag, li, fw, bg', le, ls)) : ∃ f, wX_first_30 post (nI k) e1 (e2 ||| 224) rs wl az f 0 rk rl ry wd fd fo sg st re ag li fw bg le ls := by
  refine pk_loop (fun f s (b : Nat → Int32) => wX_first_30 post (nI k) e1 (e2 ||| 224) rs wl az f (nI s) rk rl ry wd fd fo sg st re ag li fw b le ls) (fun s b => ∀ x, x < s → ∀ a, bt (b x) a = true ↔ a < 3 ∧ x = 5 + a) 8 0 bg (by omega) lt_0 ?_ ?_
  · intro f b hb
    refine br_t (nI_le (Nat.le_refl _) (by decide)) ?_
    refine pk_loop (fun f t (b : Nat → Int32) => wX_first_69 post (nI k) e1 (e2 ||| 224) rs wl az f (nI t) rk rl ry wd fd fo sg st re ag li fw b le ls) (fun t b => gf_B g (16 * t) b) 5 0 b (by omega) hb ?_ ?_
    · intro f2 b2 hI
      refine br_t (nI_le (Nat.le_refl _) (by decide)) (And.intro (gx_in (by omega) (by decide)) ?_)
      rw [gx_cl (by omega)]
      exact h (b2 k) b2 (hI k (by omega))
    · intro f2 t b2 ht hI ih
      refine br_f (nI_ge ht (by decide)) ?_
      refine pk_loop (fun f3 r (b : Nat → Int32) => wX_first_78 post (wX_first_69 post (nI k) e1 (e2 ||| 224) rs wl az f2) (nI k) e1 (e2 ||| 224) (nI t) rs wl az f3 (nI r) rk rl ry wd fd fo sg st re ag li fw b le ls) (fun r b => gf_B g (16 * t + r) b) 16 0 b2 (by omega) hI ?_ ?_
      · intro f3 b3 hI3
        exact br_t (nI_le (Nat.le_refl _) (by decide)) (nm_r (nI_1 t) (ih b3 (by rw [Nat.mul_succ]; exact hI3)))
      · intro f3 r b3 hr hI3 ih3
        have hm : (16 * t + r) % 16 = r := by omega
        have hkr := H.1.1 r
        have ek := gx_Gk H hr
        have vk : vp_in (nI (gm_k g r)) 8 := gx_in (by omega) (by decide)
        have skip : ¬ gf_on g r → gf_B g (16 * t + (r + 1)) b3 := fun hno s hs a => by
          rw [hI3 s hs a, ← Nat.add_assoc, gf_step hm]
          exact ⟨fun z => ⟨z.1, Or.inl z.2⟩, fun z => ⟨z.1, z.2.resolve_right fun y => hno y.2.1⟩⟩
        refine br_f (nI_ge hr (by decide)) (gx_hasRule H hr (fun hp => br_f gx_10 (gx_isWithin H hr (fun hw => br_f gx_10 (And.intro (gx_in hr (by decide)) ?_)) (fun hw => br_t rfl (nm_r (nI_1 r) (ih3 b3 (skip fun z => hw fun d hd => (gf_ab E2 (H.1.2.2 r d)).mpr (z.2 d hd))))))) (fun hp => br_t rfl (nm_r (nI_1 r) (ih3 b3 (skip fun z => by rw [z.1] at hp; exact absurd hp (by decide))))))
        have on : gf_on g r := ⟨hp, fun d hd => (gf_ab E2 (H.1.2.2 r d)).mp (hw d hd)⟩
        rw [ek, gx_cl (n := gm_k g r) (by omega)]
        refine And.intro vk (gx_beginsOfRule H hr hI3 E1 fun x hx => And.intro vk (nm_e (nm_r (nI_1 r) (ih3 _ fun s hs a => ?_))))
        rw [gb_u, ← Nat.add_assoc, gf_step hm]
        by_cases e : s = gm_k g r
        · rw [if_pos e, gb_or, e, hI3 _ (by omega) a, hx a]
          exact ⟨fun z => z.elim (fun y => ⟨y.1, Or.inl y.2⟩) (fun y => ⟨y.1, Or.inr ⟨rfl, on, y.2⟩⟩), fun z => z.2.elim (fun y => Or.inl ⟨z.1, y⟩) (fun y => Or.inr ⟨z.1, y.2.2⟩)⟩
        · rw [if_neg e, hI3 s hs a]
          exact ⟨fun z => ⟨z.1, Or.inl z.2⟩, fun z => ⟨z.1, z.2.resolve_right fun y => e y.1⟩⟩
  · intro f s b hs hb ih
    have v8 : vp_in (nI s) 8 := gx_in hs (by decide)
    refine br_f (nI_ge hs (by decide)) (pk_le 5 s (fun h5 => And.intro v8 (nm_r (e' := upd b s ((1 : Int32) <<< (nI (s - 5) &&& 31))) (by rw [gx_cl (by omega), gy_sub5 h5]) (nm_r (nI_1 s) (ih _ fun x hx a => ?_)))) (fun h5 => And.intro v8 (nm_r (e' := upd b s 0) (by rw [gx_cl (by omega)]) (nm_r (nI_1 s) (ih _ fun x hx a => ?_)))))
    · rw [gb_u]
      by_cases e : x = s
      · rw [if_pos e, gb_sg (by omega)]
        omega
      · rw [if_neg e]; exact hb x (by omega) a
    · rw [gb_u]
      by_cases e : x = s
      · rw [if_pos e, b_0]
        exact ⟨fun z => absurd z (by decide), fun z => by omega⟩
      · rw [if_neg e]; exact hb x (by omega) a
end xfirst
/-! the reference's: bit 3 k + a of a number -/
def gf_Y (g : gm_G) (c : Nat) (x : Int32) : Prop := ∀ k a, k < 5 → a < 3 → (bt x (3 * k + a) = true ↔ gf_s g a c k)
theorem gb_7 : ∀ i, i < 32 → bt 7 i = decide (i < 3) := by decide +kernel
theorem gf_cut {x : Int32} {k : Nat} (hk : k < 5) (a : Nat) : bt ((x >>> ((3 * nI k) &&& 31)) &&& 7) a = true ↔ a < 3 ∧ bt x (3 * k + a) = true := by
  rw [gx_mul3, gb_and]
  rcases Nat.lt_or_ge a 32 with z | z
  · rw [gb_7 a z, b_sshr (3 * k) (by omega) x z]
    constructor
    · intro ⟨h1, h2⟩
      have h3 := of_decide_eq_true h2
      rw [if_pos (by omega)] at h1
      exact ⟨h3, h1⟩
    · intro ⟨h1, h2⟩
      rw [if_pos (by omega)]
      exact ⟨h2, decide_eq_true h1⟩
  · rw [b_big z, b_big z]
    exact ⟨fun y => absurd y.1 (by decide), fun y => absurd y.1 (by omega)⟩
section yfirst
variable {sz mn gr : Int32} {th kd lg pt wd ls md le : Nat → Int32} {g : gm_G}
theorem gy_heads {post : Int32 → Prop} (H : gy_G g th kd lg pt) {c r : Nat} (hr : r < 16) {e x : Int32} (E : gx_E g 100000 e) (F : gf_Y g c x) (h : ∀ y, (∀ a, bt y a = true ↔ a < 3 ∧ gf_h g (gf_s g a c) r (gm_l g r)) → post y) : wpY_heads post (sz, mn, gr, th, kd, lg, pt, wd, ls, md, le) (nI r) e x := by
  have hbe : ∀ s, bt e s = true ↔ gn_e g s := E
  have h3 := H.1.2.1 r
  have el : lg (nI r).toNatClampNeg = nI (gm_l g r) := by rw [gx_cl (by omega)]; exact H.2.2.2.1 r
  refine pk_loop (fun f d (u : Int32 × Int32) => wY_heads_9 post (nI r) e x sz mn gr th kd lg pt wd ls md le f u.1 u.2 (nI d)) (fun d u => ((u.2 = 1 ∧ ∀ y, y < d → gn_e g (gm_y g r y)) ∨ (u.2 = 0 ∧ ¬ ∀ y, y < d → gn_e g (gm_y g r y))) ∧ ∀ a, bt u.1 a = true ↔ a < 3 ∧ gf_h g (gf_s g a c) r d) (gm_l g r) 0 (0, 1) (by omega) ⟨Or.inl ⟨rfl, lt_0⟩, fun a => by show bt 0 a = true ↔ _; rw [b_0]; exact ⟨fun z => absurd z (by decide), fun ⟨_, d, z, _⟩ => absurd z (by omega)⟩⟩ ?_ ?_
  · intro f u ⟨_, hI⟩
    exact And.intro (gx_in hr (by decide)) (br_t (by rw [el]; exact nI_le (Nat.le_refl _) (by omega)) (h u.1 hI))
  · intro f d u hd ⟨hM, hI⟩ ih
    obtain ⟨y, m⟩ := u
    have h8 := H.1.2.2 r d
    have hI : ∀ a, bt y a = true ↔ a < 3 ∧ gf_h g (gf_s g a c) r d := hI
    refine And.intro (gx_in hr (by decide)) (br_f (by rw [el]; exact nI_ge hd (by omega)) (gy_symbol H hr (by omega) ?_))
    have main : ∀ hd2 : Int32, (∀ a, bt hd2 a = true ↔ a < 3 ∧ gf_s g a c (gm_y g r d)) → wY_heads_53 post (wY_heads_9 post (nI r) e x sz mn gr th kd lg pt wd ls md le f) (nI r) e x y m (nI d) (nI (gm_y g r d)) hd2 sz mn gr th kd lg pt wd ls md le := by
      intro hd2 hh
      rcases hM with ⟨e1, hN⟩ | ⟨e1, hN⟩
      · have e1 : m = 1 := e1
        subst e1
        have key : ∀ a, bt (y ||| hd2) a = true ↔ a < 3 ∧ gf_h g (gf_s g a c) r (d + 1) := fun a => by
          rw [gb_or, hI a, hh a, gf_hs hN]
          exact ⟨fun z => z.elim (fun q => ⟨q.1, Or.inl q.2⟩) (fun q => ⟨q.1, Or.inr q.2⟩), fun z => z.2.elim (fun q => Or.inl ⟨z.1, q⟩) (fun q => Or.inr ⟨z.1, q⟩)⟩
        refine br_f gx_10 (br_f gx_10 (pk_le 5 (gm_y g r d) (fun h5 => nm_r (nI_1 d) (ih (y ||| hd2, 0) ⟨Or.inr ⟨rfl, fun z => absurd (z d (by omega)).1 (by omega)⟩, key⟩)) (fun h5 => gx_one (by omega) (fun hb => nm_r (nI_1 d) (ih (y ||| hd2, 1) ⟨Or.inl ⟨rfl, lt_s hN ((hbe _).mp hb)⟩, key⟩)) (fun hb => nm_r (nI_1 d) (ih (y ||| hd2, 0) ⟨Or.inr ⟨rfl, fun z => ?_⟩, key⟩)))))
        have z2 := (hbe _).mpr (z d (by omega))
        rw [hb] at z2
        exact absurd z2 (by decide)
      · have e1 : m = 0 := e1
        subst e1
        refine br_t rfl (br_t rfl (nm_r (nI_1 d) (ih (y, 0) ⟨Or.inr ⟨rfl, fun z => hN fun q hq => z q (by omega)⟩, fun a => ?_⟩)))
        show bt y a = true ↔ _
        rw [hI a, gf_hn hN]
    refine pk_le 5 (gm_y g r d) (fun h5 => main _ fun a => ?_) (fun h5 => main _ fun a => ?_)
    · rw [gy_sub5 h5, gb_sg (by omega), gf_let H.1 h5 c]
      omega
    · rw [gf_cut h5 a]
      exact ⟨fun z => ⟨z.1, (F _ a h5 z.1).mp z.2⟩, fun z => ⟨z.1, (F _ a h5 z.1).mpr z.2⟩⟩
theorem gy_first30 {post : Int32 → SY → Prop} (H : gy_G g th kd lg pt) {e1 e2 : Int32} (E1 : gx_E g 100000 e1) (E2 : gx_E g 1 e2) {k : Nat} (hk : k < 5) (h : ∀ x, (∀ a, bt x a = true ↔ a < 3 ∧ gf_s g a 320 k) → post x (sz, mn, gr, th, kd, lg, pt, wd, ls, md, le)) : ∃ f, wY_first_30 post (nI k) (e2 ||| 224) e1 sz mn gr th kd lg pt wd ls md le f 0 0 := by
  refine pk_loop (fun f c (x : Int32) => wY_first_30 post (nI k) (e2 ||| 224) e1 sz mn gr th kd lg pt wd ls md le f x (nI c)) (fun c x => gf_Y g c x) 320 0 0 (by omega) (fun s a hs ha => by rw [b_0]; exact ⟨fun z => absurd z (by decide), fun z => absurd (show s = 5 + a from z) (by omega)⟩) ?_ ?_
  · intro f x F
    refine br_t (nI_le (Nat.le_refl _) (by decide)) (h _ fun a => ?_)
    rw [gf_cut hk a]
    exact ⟨fun z => ⟨z.1, (F k a hk z.1).mp z.2⟩, fun z => ⟨z.1, (F k a hk z.1).mpr z.2⟩⟩
  · intro f c x hc F ih
    have hr : c % 16 < 16 := Nat.mod_lt _ (by decide)
    have hkr := H.1.1 (c % 16)
    have h3 := H.1.2.1 (c % 16)
    have vr : vp_in (nI (c % 16)) 16 := gx_in hr (by decide)
    have er : (nI (c % 16)).toNatClampNeg = c % 16 := gx_cl (by omega)
    have el : lg (nI (c % 16)).toNatClampNeg = nI (gm_l g (c % 16)) := by rw [er]; exact H.2.2.2.1 _
    have skip : ¬ gf_on g (c % 16) → gf_Y g (c + 1) x := fun hno s a hs ha => by
      rw [F s a hs ha, gf_step rfl]
      exact ⟨Or.inl, fun z => z.resolve_right fun y => hno y.2.1⟩
    refine br_f (nI_ge hc (by decide)) (And.intro (by decide) (nm_r (pk_rem (d := 16) (by omega) (by decide) (by decide)) (And.intro vr (nm_e ?_))))
    refine pk_loop (fun f2 d (m : Int32) => wY_first_57 post (wY_first_30 post (nI k) (e2 ||| 224) e1 sz mn gr th kd lg pt wd ls md le f) (nI k) (e2 ||| 224) e1 x (nI c) (nI (c % 16)) sz mn gr th kd lg pt wd ls md le f2 m (nI d)) (fun d m => (m = 1 ∧ gm_p g (c % 16) = true ∧ ∀ y, y < d → gf_able g (gm_y g (c % 16) y)) ∨ (m = 0 ∧ ¬ (gm_p g (c % 16) = true ∧ ∀ y, y < d → gf_able g (gm_y g (c % 16) y)))) (gm_l g (c % 16)) 0 _ (by omega) ?_ ?_ ?_
    · rw [er, H.2.1 _ hr]
      by_cases hp : gm_p g (c % 16) = true
      · rw [if_pos hp]
        exact Or.inl ⟨rfl, hp, lt_0⟩
      · rw [if_neg hp]
        exact Or.inr ⟨rfl, fun z => hp z.1⟩
    · intro f2 m hM
      refine And.intro vr (br_t (by rw [el]; exact nI_le (Nat.le_refl _) (by omega)) ?_)
      rcases hM with ⟨rfl, hp, hA⟩ | ⟨rfl, hno⟩
      · refine br_f gx_10 (gy_heads H hr E1 F fun y hy => And.intro vr (nm_r (e' := x ||| (y <<< (nI (3 * gm_k g (c % 16)) &&& 31))) (by rw [er, H.2.2.1, gx_mul3]) (nm_r (nI_1 c) (ih _ fun s a hs ha => ?_))))
        rw [gb_or, F s a hs ha, gf_step rfl, b_shl (3 * gm_k g (c % 16)) (by omega) y (by omega), Bool.and_eq_true, hy]
        constructor
        · intro z
          rcases z with z | ⟨z1, z2, z3⟩
          · exact Or.inl z
          · have z1 := of_decide_eq_true z1
            have e1 : s = gm_k g (c % 16) := by omega
            have e2 : 3 * s + a - 3 * gm_k g (c % 16) = a := by omega
            rw [e2] at z3
            exact Or.inr ⟨e1, ⟨hp, hA⟩, z3⟩
        · intro z
          rcases z with z | ⟨z1, z2, z3⟩
          · exact Or.inl z
          · have e2 : 3 * s + a - 3 * gm_k g (c % 16) = a := by omega
            rw [e2]
            exact Or.inr ⟨decide_eq_true (by omega), ha, z3⟩
      · exact br_t rfl (nm_r (nI_1 c) (ih x (skip hno)))
    · intro f2 d m hd hM ih2
      refine And.intro vr (br_f (by rw [el]; exact nI_ge hd (by omega)) ?_)
      rcases hM with ⟨rfl, hp, hA⟩ | ⟨rfl, hno⟩
      · have h8 := H.1.2.2 (c % 16) d
        refine br_f gx_10 (gy_symbol H hr (by omega) (gx_one (by omega) (fun hb => nm_r (nI_1 d) (ih2 1 (Or.inl ⟨rfl, hp, lt_s hA ((gf_ab E2 h8).mp hb)⟩))) (fun hb => nm_r (nI_1 d) (ih2 0 (Or.inr ⟨rfl, fun z => ?_⟩)))))
        have z2 := (gf_ab E2 h8).mpr (z.2 d (by omega))
        rw [hb] at z2
        exact absurd z2 (by decide)
      · exact br_t rfl (nm_r (nI_1 d) (ih2 0 (Or.inr ⟨rfl, fun z => hno ⟨z.1, fun q hq => z.2 q (by omega)⟩⟩)))
end yfirst
theorem i_vc_first {k : Nat} {u : SX} {v : SY} (I : i_Rel k u v) (hk : k + 5 ≤ 2560) (v1 : Int32) : wpX_first (fun r u' => wpY_first (fun r' v' => r' = r ∧ i_Rel (k + 5) u' v') v v1) u v1 := by
  obtain ⟨rs, wl, az, rk, rl, ry, wd, fd, fo, sg, st, re, ag, li, fw, bg, le, ls⟩ := u
  obtain ⟨sz, mn, gr, th, kd, lg, pt, wy, lsy, md, ley⟩ := v
  obtain ⟨rfl, rfl, rfl, rfl, rfl, I⟩ := I
  obtain ⟨g, w, n, HX, HY, hw, hw3, hn, e, _⟩ := gx_data I
  unfold wpX_first wpY_first
  by_cases h1 : v1 < 0 ∨ nI 5 ≤ v1
  · exact gx_kind0 h1 (br_t rfl (gy_kind0 h1 (br_t rfl ⟨rfl, rfl, rfl, rfl, rfl, rfl, I⟩)))
  · obtain ⟨a, ha, rfl⟩ : ∃ c, c < 5 ∧ v1 = nI c := by
      rcases pk_ix v1 (n := 5) (by decide) with z | z | z
      · exact absurd (Or.inl z) h1
      · exact absurd (Or.inr z) h1
      · exact z
    refine gx_kind1 ha (br_f gx_10 (gx_kmf HX gx_gv0 fun x1 E1 => gx_kmf HX gx_gv1 fun x2 E2 => nm_e (gx_first30 HX E1 E2 ha fun x bg' hx => ?_)))
    refine gy_kind1 ha (br_f gx_10 (gy_able HY fun y2 le' F2 => nm_e (gy_empty HY fun y1 md' F1 => gy_first30 HY F1 F2 ha fun y hy => ⟨?_, rfl, rfl, rfl, rfl, rfl, I⟩)))
    exact b_ext fun i _ => Bool.eq_iff_iff.mpr ((hy i).trans ⟨fun z => (hx i).mpr ⟨z.1, (gf_320 HX.1 i a).mp z.2⟩, fun z => ⟨((hx i).mp z).1, (gf_320 HX.1 i a).mpr ((hx i).mp z).2⟩⟩)
end
section
/-! count: the c-th list of n letters has the letters c / 3^i % 3 -/
def gk_w (c i : Nat) : Nat := c / 3 ^ i % 3
theorem gk_3 (c i : Nat) : gk_w c i < 3 := Nat.mod_lt _ (by decide)
theorem gk_d (c d : Nat) : c / 3 ^ d / 3 = c / 3 ^ (d + 1) := by rw [Nat.div_div_eq_div_mul, Nat.pow_succ]
noncomputable def gk_n (g : gm_G) (k n c : Nat) : Nat := gc_n (fun x => gm_mk g (gk_w x) n k 0 n) c
theorem gk_1 {g : gm_G} {k n c : Nat} (h : gm_mk g (gk_w c) n k 0 n) : gk_n g k n (c + 1) = gk_n g k n c + 1 := by
  unfold gk_n
  simp only [gc_n]
  rw [gc_b_t h]
theorem gk_0 {g : gm_G} {k n c : Nat} (h : ¬ gm_mk g (gk_w c) n k 0 n) : gk_n g k n (c + 1) = gk_n g k n c := by
  unfold gk_n
  simp only [gc_n]
  rw [gc_b_f h, Nat.add_zero]
theorem gk_81 {n : Nat} (h : n ≤ 4) : 3 ^ n ≤ 81 := Nat.pow_le_pow_right (by decide) h (n := 3)
section xcount
variable {rs wl az : Int32} {rk rl ry wd fd fo sg st re ag li fw bg le ls : Nat → Int32} {g : gm_G} {n : Nat}
theorem gx_spell {post : SX → Prop} {c : Nat} (hc : c < 100000) (hn : n ≤ 4) (h : ∀ ls', (∀ i, i < n → ls' i = nI (gk_w c i)) → post (rs, wl, az, rk, rl, ry, wd, fd, fo, sg, st, re, ag, li, fw, bg, le, ls')) : wpX_spell post (rs, wl, az, rk, rl, ry, wd, fd, fo, sg, st, re, ag, li, fw, bg, le, ls) (nI c) (nI n) := by
  refine pk_loop (fun f d (u : Int32 × (Nat → Int32)) => wX_spell_5 post (nI n) rs wl az f u.1 (nI d) rk rl ry wd fd fo sg st re ag li fw bg le u.2) (fun d u => u.1 = nI (c / 3 ^ d) ∧ ∀ i, i < d → u.2 i = nI (gk_w c i)) n 0 (nI c, ls) (by omega) ⟨by rw [Nat.pow_zero, Nat.div_one], lt_0⟩ ?_ ?_
  · intro f u ⟨_, hI⟩
    exact br_t (nI_le (Nat.le_refl _) (by omega)) (h u.2 hI)
  · intro f d ⟨x, l⟩ hd ⟨hx, hI⟩ ih
    have hx : x = nI (c / 3 ^ d) := hx
    subst hx
    have hI : ∀ i, i < d → l i = nI (gk_w c i) := hI
    have hq : c / 3 ^ d ≤ c := Nat.div_le_self _ _
    have d1 : nI (c / 3 ^ d) - nI (c / 3 ^ d) / 3 * 3 = nI (gk_w c d) := pk_rem (d := 3) (by omega) (by decide) (by decide)
    have d2 : nI (c / 3 ^ d) / 3 = nI (c / 3 ^ (d + 1)) := (pk_div (d := 3) (by omega) (by decide) (by decide)).trans (congrArg nI (gk_d c d))
    refine br_f (nI_ge hd (by omega)) (And.intro (by decide) (And.intro (gx_in (by omega) (by decide)) (nm_r (e' := upd l d (nI (gk_w c d))) (by rw [gx_cl (n := d) (by omega)]; exact congrArg (upd l d) d1) (And.intro (by decide) (nm_r d2 (nm_r (nI_1 d) (ih (nI (c / 3 ^ (d + 1)), upd l d (nI (gk_w c d))) ⟨rfl, fun i hi => ?_⟩)))))))
    show upd l d _ i = _
    rw [gb_u]
    split
    · rename_i e; rw [e]
    · exact hI i (by omega)
theorem gx_count23 {post : Int32 → SX → Prop} (H : gx_G g rs rk rl ry) {k : Nat} (hk : k < 5) (hn : n ≤ 4) (h : ∀ fd' sg' ls', post (nI (gk_n g k n (3 ^ n))) (rs, wl, az, rk, rl, ry, wd, fd', fo, sg', st, re, ag, li, fw, bg, le, ls')) : ∃ f, wX_count_23 post (nI k) (nI n) rs wl az rk rl ry wd fd fo sg st re ag li fw bg le ls f 1 0 := by
  refine pk_loop (fun f d (x : Int32) => wX_count_23 post (nI k) (nI n) rs wl az rk rl ry wd fd fo sg st re ag li fw bg le ls f x (nI d)) (fun d x => x = nI (3 ^ d)) n 0 1 (by omega) rfl ?_ ?_
  · intro f x hx
    subst hx
    have h81 := gk_81 hn
    refine br_t (nI_le (Nat.le_refl _) (by omega)) ?_
    refine pk_loop (fun f c (u : (Nat → Int32) × (Nat → Int32) × (Nat → Int32)) => wX_count_45 post (nI k) (nI n) (nI (3 ^ n)) f (nI (gk_n g k n c)) (nI c) rs wl az rk rl ry wd u.1 fo u.2.1 st re ag li fw bg le u.2.2) (fun _ _ => True) (3 ^ n) 0 (fd, sg, ls) (Nat.zero_le _) trivial ?_ ?_
    · intro f2 u _
      exact br_t (nI_le (Nat.le_refl _) (by omega)) (h u.1 u.2.1 u.2.2)
    · intro f2 c u hc _ ih
      refine br_f (nI_ge hc (by omega)) (gx_spell (by omega) hn fun ls' hl => gx_byLength_list_found H hl (gk_3 c) hn fun t sg' ok => And.intro (gx_in (by omega) (by decide)) ?_)
      rw [gx_cl (by omega), gb_val _ (by omega)]
      have e0 : 0 * 11 + n = n := by omega
      have z := ok k 0 n
      unfold gt_T at z
      rw [e0] at z
      by_cases hb : bt (t n) k = true
      · have y := z.mp ⟨by omega, by omega, hb⟩
        rw [if_pos hb]
        exact nm_r (e' := nI (gk_n g k n (c + 1))) (by rw [gk_1 y, nI_1]) (nm_r (nI_1 c) (ih (t, sg', ls') trivial))
      · rw [if_neg hb]
        exact nm_r (e' := nI (gk_n g k n (c + 1))) (by rw [gk_0 fun y => hb (z.mpr y).2.2, Int32.add_zero]) (nm_r (nI_1 c) (ih (t, sg', ls') trivial))
  · intro f d x hd hx ih
    subst hx
    exact br_f (nI_ge hd (by omega)) (nm_r (e' := nI (3 ^ (d + 1))) (by rw [Nat.pow_succ]; exact pk_mul (3 ^ d) 3) (nm_r (nI_1 d) (ih _ rfl)))
end xcount
section ycount
variable {sz mn gr : Int32} {th kd lg pt wd ls md le : Nat → Int32} {g : gm_G} {n : Nat}
theorem gy_count65 {post : Int32 → SY → Prop} (H : gy_G g th kd lg pt) {k : Nat} (hk : k < 5) (hn : n ≤ 4) (h : ∀ mn' gr' ls' md', post (nI (gk_n g k n (3 ^ n))) (sz, mn', gr', th, kd, lg, pt, wd, ls', md', le)) : ∃ f, wY_count_65 post (nI k) (nI n) (nI (3 ^ n)) f 0 0 sz mn gr th kd lg pt wd ls md le := by
  have h81 := gk_81 hn
  refine pk_loop (fun f c (u : Int32 × Int32 × (Nat → Int32) × (Nat → Int32)) => wY_count_65 post (nI k) (nI n) (nI (3 ^ n)) f (nI (gk_n g k n c)) (nI c) sz u.1 u.2.1 th kd lg pt wd u.2.2.1 u.2.2.2 le) (fun _ _ => True) (3 ^ n) 0 (mn, gr, ls, md) (Nat.zero_le _) trivial ?_ ?_
  · intro f u _
    exact br_t (nI_le (Nat.le_refl _) (by omega)) (h u.1 u.2.1 u.2.2.1 u.2.2.2)
  · intro f c u hc _ ih
    refine br_f (nI_ge hc (by omega)) ?_
    refine pk_loop (fun f2 d (v : Int32 × (Nat → Int32)) => wY_count_83 post (wY_count_65 post (nI k) (nI n) (nI (3 ^ n)) f) (nI k) (nI n) (nI (3 ^ n)) (nI (gk_n g k n c)) (nI c) sz (nI n) u.2.1 f2 v.1 (nI d) th kd lg pt wd v.2 u.2.2.2 le) (fun d v => v.1 = nI (c / 3 ^ d) ∧ ∀ i, i < d → v.2 i = nI (gk_w c i)) n 0 (nI c, u.2.2.1) (by omega) ⟨by rw [Nat.pow_zero, Nat.div_one], lt_0⟩ ?_ ?_
    · intro f2 v ⟨_, hI⟩
      refine br_t (nI_le (Nat.le_refl _) (by omega)) (gy_grow H hI (gk_3 c) (by omega) fun md' hz ok => ?_)
      refine gy_covers (i := 0) (j := n) hI (gk_3 c) (by omega) hz (by omega) (by omega) (Nat.le_refl _) (fun D => br_f gx_10 (nm_r (e' := nI (gk_n g k n (c + 1))) ?_ (nm_r (nI_1 c) (ih (nI n, 0, v.2, md') trivial)))) (fun D => br_t rfl (nm_r (nI_1 c) ?_))
      · rw [gk_1 ((gy_Dk hk (by omega) ok (Nat.zero_le _) (Nat.le_refl _)).mp D), nI_1]
      · have e := gk_0 (g := g) (k := k) (n := n) (c := c) fun y => D ((gy_Dk hk (by omega) ok (Nat.zero_le _) (Nat.le_refl _)).mpr y)
        rw [← e]
        exact ih (nI n, 0, v.2, md') trivial
    · intro f2 d ⟨x, l⟩ hd ⟨hx, hI⟩ ih2
      have hx : x = nI (c / 3 ^ d) := hx
      subst hx
      have hI : ∀ i, i < d → l i = nI (gk_w c i) := hI
      have hq : c / 3 ^ d ≤ c := Nat.div_le_self _ _
      have d1 : nI (c / 3 ^ d) - nI (c / 3 ^ d) / 3 * 3 = nI (gk_w c d) := pk_rem (d := 3) (by omega) (by decide) (by decide)
      have d2 : nI (c / 3 ^ d) / 3 = nI (c / 3 ^ (d + 1)) := (pk_div (d := 3) (by omega) (by decide) (by decide)).trans (congrArg nI (gk_d c d))
      refine br_f (nI_ge hd (by omega)) (And.intro (by decide) (And.intro (gx_in (by omega) (by decide)) (nm_r (e' := upd l d (nI (gk_w c d))) (by rw [gx_cl (n := d) (by omega)]; exact congrArg (upd l d) d1) (And.intro (by decide) (nm_r d2 (nm_r (nI_1 d) (ih2 (nI (c / 3 ^ (d + 1)), upd l d (nI (gk_w c d))) ⟨rfl, fun i hi => ?_⟩)))))))
      show upd l d _ i = _
      rw [gb_u]
      split
      · rename_i e; rw [e]
      · exact hI i (by omega)
end ycount
theorem i_vc_count {k : Nat} {u : SX} {v : SY} (I : i_Rel k u v) (hk : k + 5 ≤ 2560) (v1 : Int32) (v2 : Int32) : wpX_count (fun r u' => wpY_count (fun r' v' => r' = r ∧ i_Rel (k + 5) u' v') v v1 v2) u v1 v2 := by
  obtain ⟨rs, wl, az, rk, rl, ry, wd, fd, fo, sg, st, re, ag, li, fw, bg, le, ls⟩ := u
  obtain ⟨sz, mn, gr, th, kd, lg, pt, wy, lsy, md, ley⟩ := v
  obtain ⟨rfl, rfl, rfl, rfl, rfl, I⟩ := I
  obtain ⟨g, w, n, HX, HY, hw, hw3, hn, e, _⟩ := gx_data I
  unfold wpX_count wpY_count
  by_cases h1 : v1 < 0 ∨ nI 5 ≤ v1
  · exact gx_kind0 h1 (br_t rfl (gy_kind0 h1 (br_t rfl ⟨rfl, rfl, rfl, rfl, rfl, rfl, I⟩)))
  · obtain ⟨a, ha, rfl⟩ : ∃ c, c < 5 ∧ v1 = nI c := by
      rcases pk_ix v1 (n := 5) (by decide) with z | z | z
      · exact absurd (Or.inl z) h1
      · exact absurd (Or.inr z) h1
      · exact z
    refine gx_kind1 ha (br_f gx_10 ?_)
    rcases pk_ix v2 (n := 5) (by decide) with z | z | ⟨m, hm, rfl⟩
    · exact br_t z (gy_kind1 ha (br_f gx_10 (br_t z ⟨rfl, rfl, rfl, rfl, rfl, rfl, I⟩)))
    · have y := gx_ge z (by decide)
      exact br_f y.2.2.2 (br_f y.1 (gy_kind1 ha (br_f gx_10 (br_f y.2.2.2 (br_f y.1 ⟨rfl, rfl, rfl, rfl, rfl, rfl, I⟩)))))
    · have y0 : ¬ nI m < 0 := nI_pos (by omega)
      have y1 : nI m ≤ 4 := nI_le (b := 4) (by omega) (by decide)
      refine br_f y0 (br_t y1 (gx_count23 HX ha (by omega) fun fd' sg' ls' => gy_kind1 ha (br_f gx_10 (br_f y0 (br_t y1 ?_)))))
      have main := gy_count65 (post := fun r' v' => r' = nI (gk_n g a m (3 ^ m)) ∧ i_Rel (k + 5) (rs, wl, az, rk, rl, ry, wd, fd', fo, sg', st, re, ag, li, fw, bg, le, ls') v') (sz := wl) (mn := mn) (gr := gr) (wd := wd) (ls := lsy) (md := md) (le := ley) HY ha (n := m) (by omega) fun mn' gr' ls' md' => ⟨rfl, rfl, rfl, rfl, rfl, rfl, I⟩
      refine pk_eq m 0 (fun e => ?_) (fun e0 => pk_eq m 1 (fun e => ?_) (fun e1 => pk_eq m 2 (fun e => ?_) (fun e2 => pk_eq m 3 (fun e => ?_) (fun e3 => ?_))))
      · subst e; exact main
      · subst e; exact main
      · subst e; exact main
      · subst e; exact main
      · have e : m = 4 := by omega
        subst e; exact main
end

/-! index arithmetic -/
theorem gx_c11 (i j : Nat) : nI i * 11 + nI j = nI (i * 11 + j) := by
  rw [show (11 : Int32) = nI 11 from rfl, pk_mul, nI_add]
theorem gx_y121 (s i j : Nat) : 121 * nI s + 11 * nI i + nI j = nI (121 * s + 11 * i + j) := by
  rw [show (11 : Int32) = nI 11 from rfl, show (121 : Int32) = nI 121 from rfl, pk_mul, pk_mul, nI_add, nI_add]
theorem gx_cl {n : Nat} (h : n < 100000) : (nI n).toNatClampNeg = n := nI_clamp (by omega)
theorem gx_in {n N : Nat} (h : n < N) (hN : N < 100000) : vp_in (nI n) N := vp_in_nI h (by omega)
theorem gx_b1 : vp_nar .boolean 1 = 1 := rfl
theorem gx_b0 : vp_nar .boolean 0 = 0 := rfl
theorem gx_mul3 (d : Nat) : 3 * nI d = nI (3 * d) := by
  rw [show (3 : Int32) = nI 3 from rfl, pk_mul]
theorem gx_sym {q d : Nat} (hq : q < 512) (hd : d ≤ 3) : ((nI q) >>> ((3 * nI d) &&& 31)) &&& 7 = nI (q / 8 ^ d % 8) := by
  rw [gx_mul3, pk_shrN (by omega) (nI (3 * d) &&& 31) (3 * d) (s_l (3 * d) (by omega)), pk_andN (n := q / 2 ^ (3 * d)) (Nat.lt_of_le_of_lt (Nat.div_le_self _ _) (by omega)) 3 (by decide), Nat.pow_mul]
theorem gx_ne {a b : Nat} (ha : a < 100000) (hb : b < 100000) (h : a ≠ b) : ¬ nI a = nI b := fun z => h ((nI_eq (by omega) (by omega)).mp z)
/-! the grammar that the arrays hold -/
def gx_G (g : gm_G) (rs : Int32) (rk rl ry : Nat → Int32) : Prop :=
  gm_ok g ∧ (∀ r, r < 16 → bt rs r = gm_p g r) ∧ (∀ r, rk r = nI (gm_k g r)) ∧ (∀ r, rl r = nI (gm_l g r)) ∧ ∀ r d, d ≤ 3 → ((ry r) >>> ((3 * nI d) &&& 31)) &&& 7 = nI (gm_y g r d)
theorem gx_Gk {g : gm_G} {rs : Int32} {rk rl ry : Nat → Int32} (H : gx_G g rs rk rl ry) {r : Nat} (hr : r < 16) : rk (nI r).toNatClampNeg = nI (gm_k g r) := by
  rw [gx_cl (by omega)]; exact H.2.2.1 r
theorem gx_Gl {g : gm_G} {rs : Int32} {rk rl ry : Nat → Int32} (H : gx_G g rs rk rl ry) {r : Nat} (hr : r < 16) : rl (nI r).toNatClampNeg = nI (gm_l g r) := by
  rw [gx_cl (by omega)]; exact H.2.2.2.1 r
theorem gx_Gy {g : gm_G} {rs : Int32} {rk rl ry : Nat → Int32} (H : gx_G g rs rk rl ry) {r d : Nat} (hr : r < 16) (hd : d ≤ 3) : ((ry (nI r).toNatClampNeg) >>> ((3 * nI d) &&& 31)) &&& 7 = nI (gm_y g r d) := by
  rw [gx_cl (by omega)]; exact H.2.2.2.2 r d hd
theorem gx_10 : ¬ (1 : Int32) = 0 := by decide
theorem gx_5 (k : Nat) : 5 + nI k = nI (5 + k) := nI_add 5 k

/-! counting what a table holds: every round that finds something counts one more -/
noncomputable def gt_n (t : Nat → Int32) : Nat := gc_n (fun e => bt (t (e % 121)) (e / 121) = true) 605
theorem gt_nle {t t' : Nat → Int32} (hm : ∀ c s, c < 121 → bt (t c) s = true → bt (t' c) s = true) : gt_n t ≤ gt_n t' := gc_nmono fun e _ h => hm _ _ (Nat.mod_lt _ (by decide)) h
theorem gt_nlt {t t' : Nat → Int32} (hm : ∀ c s, c < 121 → bt (t c) s = true → bt (t' c) s = true) {c s : Nat} (hc : c < 121) (hs : s < 5) (h0 : bt (t c) s = false) (h1 : bt (t' c) s = true) : gt_n t < gt_n t' := by
  have e1 : (s * 121 + c) % 121 = c := by omega
  have e2 : (s * 121 + c) / 121 = s := by omega
  refine gc_nlt (a := s * 121 + c) ?_ ?_ (fun e _ h => hm _ _ (Nat.mod_lt _ (by decide)) h) (by omega)
  · show ¬ bt (t ((s * 121 + c) % 121)) ((s * 121 + c) / 121) = true
    rw [e1, e2, h0]; decide
  · show bt (t' ((s * 121 + c) % 121)) ((s * 121 + c) / 121) = true
    rw [e1, e2]; exact h1
theorem gt_nS {g : gm_G} {w : Nat → Nat} {n : Nat} {t : Nat → Int32} (S : gt_S g w n t) : gt_n t < 605 := by
  apply Classical.byContradiction
  intro h
  have h1 := gc_nfull 605 (Nat.le_of_not_lt h) 11 (by decide)
  have h2 := (gm_mb (S 0 1 0 (by decide) (by decide) h1)).1
  omega
noncomputable def gr_n (re : Nat → Int32) : Nat := gc_n (fun e => bt (re (e / 11)) (e % 11) = true) 605
theorem gr_nle {t t' : Nat → Int32} (hm : ∀ c s, bt (t c) s = true → bt (t' c) s = true) : gr_n t ≤ gr_n t' := gc_nmono fun e _ h => hm _ _ h
theorem gr_nlt {t t' : Nat → Int32} (hm : ∀ c s, bt (t c) s = true → bt (t' c) s = true) {c j : Nat} (hc : c < 55) (hj : j ≤ 10) (h0 : bt (t c) j = false) (h1 : bt (t' c) j = true) : gr_n t < gr_n t' := by
  have e1 : (c * 11 + j) / 11 = c := by omega
  have e2 : (c * 11 + j) % 11 = j := by omega
  refine gc_nlt (a := c * 11 + j) ?_ ?_ (fun e _ h => hm _ _ h) (by omega)
  · show ¬ bt (t ((c * 11 + j) / 11)) ((c * 11 + j) % 11) = true
    rw [e1, e2, h0]; decide
  · show bt (t' ((c * 11 + j) / 11)) ((c * 11 + j) % 11) = true
    rw [e1, e2]; exact h1
/-- reach is sound: symbol s from i to j -/
def gr_S (g : gm_G) (w : Nat → Nat) (n : Nat) (re : Nat → Int32) : Prop := ∀ s i j, s < 8 → i ≤ 10 → bt (re (s * 11 + i)) j = true → gm_mk g w n s i j
theorem gr_nS {g : gm_G} {w : Nat → Nat} {n : Nat} {t : Nat → Int32} (S : gr_S g w n t) : gr_n t < 605 := by
  apply Classical.byContradiction
  intro h
  have h1 := gc_nfull 605 (Nat.le_of_not_lt h) 11 (by decide)
  have h2 := (gm_mb (S 0 1 0 (by decide) (by decide) h1)).1
  omega
noncomputable def gq_n (st : Nat → Int32) (p : Nat) : Nat := gc_n (fun e => bt (st (p * 64 + e / 11)) (e % 11) = true) 704
theorem gq_nle {t t' : Nat → Int32} {p : Nat} (hm : ∀ c s, bt (t c) s = true → bt (t' c) s = true) : gq_n t p ≤ gq_n t' p := gc_nmono fun e _ h => hm _ _ h
theorem gq_nlt {t t' : Nat → Int32} {p : Nat} (hm : ∀ c s, bt (t c) s = true → bt (t' c) s = true) {c i : Nat} (hc : c < 64) (hi : i ≤ 10) (h0 : bt (t (p * 64 + c)) i = false) (h1 : bt (t' (p * 64 + c)) i = true) : gq_n t p < gq_n t' p := by
  have e1 : (c * 11 + i) / 11 = c := by omega
  have e2 : (c * 11 + i) % 11 = i := by omega
  refine gc_nlt (a := c * 11 + i) ?_ ?_ (fun e _ h => hm _ _ h) (by omega)
  · show ¬ bt (t (p * 64 + (c * 11 + i) / 11)) ((c * 11 + i) % 11) = true
    rw [e1, e2, h0]; decide
  · show bt (t' (p * 64 + (c * 11 + i) / 11)) ((c * 11 + i) % 11) = true
    rw [e1, e2]; exact h1
noncomputable def gy_n (m : Nat → Int32) : Nat := gc_n (fun e => m e = 1) 605
theorem gy_nlt {m : Nat → Int32} {c : Nat} (hc : c < 605) (h : ¬ m c = 1) : gy_n m < gy_n (upd m c 1) := by
  refine gc_nlt (a := c) h ?_ (fun e _ h1 => ?_) hc
  · exact gb_us rfl
  · show upd m c 1 e = 1
    rw [gb_u]
    split
    · rfl
    · exact h1
theorem gy_n605 (m : Nat → Int32) : gy_n m ≤ 605 := gc_nle _ _
/-! one step of engine 0 on a cell -/
theorem gt_orS {g : gm_G} {w : Nat → Nat} {n i j : Nat} {t : Nat → Int32} {x : Int32} (S : gt_S g w n t) (hi : i ≤ 10) (hj : j ≤ 10) (hx : ∀ s, bt x s = true → gm_mk g w n s i j) : gt_S g w n (upd t (i * 11 + j) (t (i * 11 + j) ||| x)) := by
  intro s a b ha hb h
  rw [gb_u] at h
  by_cases e : a * 11 + b = i * 11 + j
  · rw [if_pos e, gb_or] at h
    have e1 : a = i := by omega
    have e2 : b = j := by omega
    subst e1 e2
    rcases h with h | h
    · exact S s a b ha hb h
    · exact hx s h
  · rw [if_neg e] at h
    exact S s a b ha hb h
theorem gt_orM {t : Nat → Int32} {k : Nat} {x : Int32} (c s : Nat) (h : bt (t c) s = true) : bt (upd t k (t k ||| x) c) s = true := by
  rw [gb_u]
  split
  · rename_i e
    rw [gb_or, ← e]
    exact Or.inl h
  · exact h
theorem gt_or0 {x y : Int32} (h : (x &&& (y ^^^ (-1))) = 0) : y ||| x = y := by
  apply b_ext
  intro i hi
  rw [b_or]
  cases hy : bt y i with
  | true => rfl
  | false =>
    cases hx : bt x i with
    | false => rfl
    | true => exact absurd h ((gb_new x y).mpr ⟨i, hi, hx, hy⟩)

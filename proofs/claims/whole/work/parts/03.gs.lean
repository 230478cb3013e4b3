/-! a round-robin of lowering steps on five values: after five rounds nothing falls any more -/
def ga_s (f : Nat → (Nat → Nat) → Nat) (q : Nat → Nat) (p : Nat) (l : Nat → Nat) : Nat → Nat := fun k => if k = q p then min (l k) (f p l) else l k
def ga_i (M : Nat) (f : Nat → (Nat → Nat) → Nat) (q : Nat → Nat) : Nat → Nat → Nat
  | 0 => fun _ => 100000
  | c + 1 => ga_s f q (c % M) (ga_i M f q c)
def ga_m (f : Nat → (Nat → Nat) → Nat) (q : Nat → Nat) (l : Nat → Nat) (k : Nat) : Nat → Nat
  | 0 => l k
  | p + 1 => if q p = k then min (ga_m f q l k p) (f p l) else ga_m f q l k p
def ga_d (M : Nat) (f : Nat → (Nat → Nat) → Nat) (q : Nat → Nat) : Nat → Nat → Nat
  | 0 => fun _ => 100000
  | t + 1 => fun k => ga_m f q (ga_d M f q t) k M
def ga_key (f : Nat → (Nat → Nat) → Nat) : Prop := ∀ p l l', f p l < f p l' → ∃ s, s < 5 ∧ l s < l' s ∧ l s ≤ f p l
theorem ga_mle (f : Nat → (Nat → Nat) → Nat) (q : Nat → Nat) (l : Nat → Nat) (k : Nat) : ∀ N, ga_m f q l k N ≤ l k
  | 0 => Nat.le_refl _
  | N + 1 => by
    have h := ga_mle f q l k N
    simp only [ga_m]
    split <;> omega
theorem ga_mlf (f : Nat → (Nat → Nat) → Nat) (q : Nat → Nat) (l : Nat → Nat) (p : Nat) : ∀ N, p < N → ga_m f q l (q p) N ≤ f p l
  | 0, h => absurd h (by omega)
  | N + 1, h => by
    simp only [ga_m]
    rcases Nat.lt_or_ge p N with z | z
    · have h := ga_mlf f q l p N z
      split <;> omega
    · have e : p = N := by omega
      subst e
      rw [if_pos rfl]
      exact Nat.min_le_right _ _
theorem ga_mex (f : Nat → (Nat → Nat) → Nat) (q : Nat → Nat) (l : Nat → Nat) (k : Nat) : ∀ N, ga_m f q l k N = l k ∨ ∃ p, p < N ∧ q p = k ∧ ga_m f q l k N = f p l
  | 0 => Or.inl rfl
  | N + 1 => by
    have h := ga_mex f q l k N
    simp only [ga_m]
    by_cases hq : q N = k
    · rw [if_pos hq]
      rcases Nat.le_total (ga_m f q l k N) (f N l) with z | z
      · rw [Nat.min_eq_left z]
        rcases h with h | ⟨p, h1, h2, h3⟩
        · exact Or.inl h
        · exact Or.inr ⟨p, by omega, h2, h3⟩
      · rw [Nat.min_eq_right z]
        exact Or.inr ⟨N, by omega, hq, rfl⟩
    · rw [if_neg hq]
      rcases h with h | ⟨p, h1, h2, h3⟩
      · exact Or.inl h
      · exact Or.inr ⟨p, by omega, h2, h3⟩
theorem ga_mono {f : Nat → (Nat → Nat) → Nat} (K : ga_key f) {p : Nat} {l l' : Nat → Nat} (h : ∀ s, s < 5 → l s ≤ l' s) : f p l ≤ f p l' := by
  rcases Nat.lt_or_ge (f p l') (f p l) with z | z
  · obtain ⟨s, h1, h2, _⟩ := K p l' l z
    have := h s h1
    omega
  · exact z
theorem ga_dle (M : Nat) (f : Nat → (Nat → Nat) → Nat) (q : Nat → Nat) (t k : Nat) : ga_d M f q (t + 1) k ≤ ga_d M f q t k := ga_mle f q _ k M
theorem ga_cnt {M : Nat} {f : Nat → (Nat → Nat) → Nat} {q : Nat → Nat} (K : ga_key f) : ∀ t k, k < 5 → ga_d M f q (t + 1) k < ga_d M f q t k → t + 1 ≤ gc_n (fun x => ga_d M f q (t + 1) x ≤ ga_d M f q (t + 1) k) 5
  | 0, k, hk, _ => by
    have h := gc_nlt (P := fun _ => False) (Q := fun x => ga_d M f q (0 + 1) x ≤ ga_d M f q (0 + 1) k) (a := k) (fun z => z) (Nat.le_refl _) (N := 5) (fun _ _ z => z.elim) hk
    omega
  | t + 1, k, hk, h => by
    rcases ga_mex f q (ga_d M f q (t + 1)) k M with z | ⟨p, h1, h2, h3⟩
    · exact absurd (show ga_d M f q (t + 1 + 1) k = _ from z) (by omega)
    · have e : ga_d M f q (t + 1 + 1) k = f p (ga_d M f q (t + 1)) := h3
      have h4 : ga_d M f q (t + 1) k ≤ f p (ga_d M f q t) := by
        rw [← h2]
        exact ga_mlf f q _ p M h1
      obtain ⟨s, hs, h5, h6⟩ := K p (ga_d M f q (t + 1)) (ga_d M f q t) (by omega)
      have ih := ga_cnt K t s hs h5
      have h7 := gc_nlt (P := fun x => ga_d M f q (t + 1) x ≤ ga_d M f q (t + 1) s) (Q := fun x => ga_d M f q (t + 1 + 1) x ≤ ga_d M f q (t + 1 + 1) k) (a := k) (by omega) (Nat.le_refl _) (N := 5)
        (fun x _ hx => by
          have := ga_dle M f q (t + 1) x
          try dsimp only at hx ⊢
          omega) hk
      omega
theorem ga_5 {M : Nat} {f : Nat → (Nat → Nat) → Nat} {q : Nat → Nat} (K : ga_key f) {k : Nat} (hk : k < 5) : ga_d M f q 6 k = ga_d M f q 5 k := by
  have h := ga_dle M f q 5 k
  rcases Nat.lt_or_ge (ga_d M f q 6 k) (ga_d M f q 5 k) with z | z
  · have h1 := ga_cnt (M := M) (q := q) K 5 k hk z
    have h2 := gc_nle (fun x => ga_d M f q (5 + 1) x ≤ ga_d M f q (5 + 1) k) 5
    omega
  · exact Nat.le_antisymm h z
theorem ga_fix {M : Nat} {f : Nat → (Nat → Nat) → Nat} {q : Nat → Nat} (K : ga_key f) {p : Nat} (hp : p < M) (hq : q p < 5) : ga_d M f q 5 (q p) ≤ f p (ga_d M f q 5) := by
  rw [← ga_5 K hq]
  exact ga_mlf f q _ p M hp
theorem ga_ile (M : Nat) (f : Nat → (Nat → Nat) → Nat) (q : Nat → Nat) (c k : Nat) : ga_i M f q (c + 1) k ≤ ga_i M f q c k := by
  simp only [ga_i, ga_s]
  split <;> omega
theorem ga_iant (M : Nat) (f : Nat → (Nat → Nat) → Nat) (q : Nat → Nat) (k c : Nat) : ∀ d, ga_i M f q (c + d) k ≤ ga_i M f q c k
  | 0 => Nat.le_refl _
  | d + 1 => Nat.le_trans (ga_ile M f q (c + d) k) (ga_iant M f q k c d)
theorem ga_lo {M : Nat} {f : Nat → (Nat → Nat) → Nat} {q : Nat → Nat} (K : ga_key f) (hM : 0 < M) (hq : ∀ p, q p < 5) : ∀ c k, k < 5 → ga_d M f q 5 k ≤ ga_i M f q c k
  | 0, k, _ => by
    have h : ∀ t, ga_d M f q t k ≤ 100000 := by
      intro t
      induction t with
      | zero => exact Nat.le_refl _
      | succ t ih => exact Nat.le_trans (ga_dle M f q t k) ih
    exact h 5
  | c + 1, k, hk => by
    have ih := ga_lo K hM hq c
    simp only [ga_i, ga_s]
    split
    · rename_i e
      have h1 := ga_fix (M := M) (q := q) K (Nat.mod_lt c hM) (hq (c % M))
      have h2 := ga_mono K (p := c % M) ih
      have h3 := ih k hk
      rw [← e] at h1
      omega
    · exact ih k hk
theorem ga_hi {M : Nat} {f : Nat → (Nat → Nat) → Nat} {q : Nat → Nat} (K : ga_key f) (hM : 0 < M) : ∀ t k, k < 5 → ga_i M f q (M * t) k ≤ ga_d M f q t k
  | 0, k, _ => Nat.le_refl _
  | t + 1, k, hk => by
    have ih := ga_hi (q := q) K hM t
    rcases ga_mex f q (ga_d M f q t) k M with z | ⟨p, h1, h2, h3⟩
    · have e : ga_d M f q (t + 1) k = ga_d M f q t k := z
      rw [e]
      exact Nat.le_trans (by rw [Nat.mul_succ]; exact ga_iant M f q k (M * t) M) (ih k hk)
    · have e : ga_d M f q (t + 1) k = f p (ga_d M f q t) := h3
      rw [e]
      have a1 : ga_i M f q (M * (t + 1)) k ≤ ga_i M f q (M * t + p + 1) k := by
        have e2 : M * (t + 1) = M * t + p + 1 + (M - p - 1) := by rw [Nat.mul_succ]; omega
        rw [e2]
        exact ga_iant M f q k _ _
      have a2 : ga_i M f q (M * t + p + 1) k ≤ f p (ga_i M f q (M * t + p)) := by
        have e3 : (M * t + p) % M = p := by rw [Nat.mul_add_mod]; exact Nat.mod_eq_of_lt h1
        simp only [ga_i, ga_s]
        rw [e3, if_pos h2.symm]
        exact Nat.min_le_right _ _
      have a3 : f p (ga_i M f q (M * t + p)) ≤ f p (ga_d M f q t) := ga_mono K fun s hs => Nat.le_trans (ga_iant M f q s (M * t) p) (ih s hs)
      omega
theorem ga_end {M : Nat} {f : Nat → (Nat → Nat) → Nat} {q : Nat → Nat} (K : ga_key f) (hM : 0 < M) (hq : ∀ p, q p < 5) (d : Nat) {k : Nat} (hk : k < 5) : ga_i M f q (M * 5 + d) k = ga_d M f q 5 k :=
  Nat.le_antisymm (Nat.le_trans (ga_iant M f q k (M * 5) d) (ga_hi K hM 5 k hk)) (ga_lo K hM hq _ k hk)
theorem ga_stay {M : Nat} {f : Nat → (Nat → Nat) → Nat} {q : Nat → Nat} (K : ga_key f) (hM : 0 < M) (hq : ∀ p, q p < 5) (d : Nat) {k : Nat} (hk : k < 5) : ga_i M f q (M * 5 + d) k = ga_i M f q (M * 5) k :=
  (ga_end K hM hq d hk).trans (ga_end K hM hq 0 hk).symm
theorem ga_closed {M : Nat} {f : Nat → (Nat → Nat) → Nat} {q : Nat → Nat} (K : ga_key f) (hM : 0 < M) (hq : ∀ p, q p < 5) {p : Nat} (hp : p < M) : ga_i M f q (M * 5) (q p) ≤ f p (ga_i M f q (M * 5)) := by
  rw [show ga_i M f q (M * 5) (q p) = ga_d M f q 5 (q p) from ga_end K hM hq 0 (hq p)]
  exact Nat.le_trans (ga_fix K hp (hq p)) (ga_mono K fun s hs => ga_lo K hM hq _ s hs)
theorem ga_top (M : Nat) (f : Nat → (Nat → Nat) → Nat) (q : Nat → Nat) : ∀ c k, ga_i M f q c k ≤ 100000 := by
  intro c k
  have h := ga_iant M f q k 0 c
  rw [Nat.zero_add] at h
  exact h

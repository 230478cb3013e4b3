def gq_C (g : gm_G) (p : Nat) (st : Nat → Int32) : Prop := ∀ c m, c < 16 → m ≤ p → gq_Z st p c (gm_l g c) m → ∀ r d i, r < 16 → d < gm_l g r → gm_y g r d = gm_k g c → gq_Z st m r d i → gq_Z st p r (d + 1) i
def gq_I (g : gm_G) (w : Nat → Nat) (n p : Nat) (st t : Nat → Int32) : Prop :=
  gq_S g w n p st ∧ (∀ q r, q < p → r < 16 → gm_p g r = true → gq_Z st q r 0 q) ∧
  (∀ q r d i, q + 1 < p → r < 16 → d < gm_l g r → gm_y g r d = 5 + w q → gq_Z st q r d i → gq_Z st (q + 1) r (d + 1) i) ∧
  (∀ q, q < p → gq_C g q st) ∧
  ∀ s a b, a ≤ 10 → b ≤ 10 → (bt (t (a * 11 + b)) s = true ↔ (a < n ∧ b = a + 1 ∧ s = 5 + w a) ∨ (b < p ∧ a ≤ b ∧ ∃ r, r < 16 ∧ s = gm_k g r ∧ gq_Z st b r (gm_l g r) a))
theorem gq_lo {st st' : Nat → Int32} {p q r d i : Nat} (h : ∀ c, c < p * 64 → st' c = st c) (hq : q < p) (hr : r < 16) (hd : d < 4) : gq_Z st' q r d i ↔ gq_Z st q r d i := by
  unfold gq_Z
  rw [h _ (by omega)]
theorem gq_next {g : gm_G} (G : gm_ok g) {w : Nat → Nat} {n p : Nat} {st0 st1 st2 st3 t t' : Nat → Int32} (I : gq_I g w n p st0 t)
    (lo1 : ∀ c, c < p * 64 → st1 c = st0 c) (b1 : ∀ r d i, r < 16 → d < 4 → (gq_Z st1 p r d i ↔ d = 0 ∧ gm_p g r = true ∧ i = p))
    (lo2 : ∀ c, c < p * 64 → st2 c = st1 c) (mo2 : ∀ c i, bt (st1 c) i = true → bt (st2 c) i = true)
    (let2 : ∀ q, q + 1 = p → ∀ r d i, r < 16 → d < gm_l g r → gm_y g r d = 5 + w q → gq_Z st1 q r d i → gq_Z st2 p r (d + 1) i)
    (S3 : gq_S g w n (p + 1) st3) (lo3 : ∀ c, c < p * 64 → st3 c = st2 c) (mo3 : ∀ c i, bt (st2 c) i = true → bt (st3 c) i = true) (C3 : gq_C g p st3)
    (ht : ∀ s a b, a ≤ 10 → b ≤ 10 → (bt (t' (a * 11 + b)) s = true ↔ bt (t (a * 11 + b)) s = true ∨ (b = p ∧ a ≤ p ∧ ∃ r, r < 16 ∧ s = gm_k g r ∧ gq_Z st3 p r (gm_l g r) a))) : gq_I g w n (p + 1) st3 t' := by
  have lo : ∀ c, c < p * 64 → st3 c = st0 c := fun c hc => (lo3 c hc).trans ((lo2 c hc).trans (lo1 c hc))
  obtain ⟨i1, i2, i3, i4, i5⟩ := I
  refine ⟨S3, fun q r hq hr hp => ?_, fun q r d i hq hr hd hy hz => ?_, fun q hq => ?_, fun s a b ha hb => ?_⟩
  · by_cases e : q = p
    · subst e
      exact mo3 _ _ (mo2 _ _ ((b1 r 0 q hr (by decide)).mpr ⟨rfl, hp, rfl⟩))
    · exact (gq_lo lo (by omega) hr (by decide)).mpr (i2 q r (by omega) hr hp)
  · have h3 := G.2.1 r
    by_cases e : q + 1 = p
    · have hz1 : gq_Z st1 q r d i := (gq_lo lo1 (by omega) hr (by omega)).mpr ((gq_lo lo (by omega) hr (by omega)).mp hz)
      rw [e]
      exact mo3 _ _ (let2 q e r d i hr hd hy hz1)
    · exact (gq_lo lo (by omega) hr (by omega)).mpr (i3 q r d i (by omega) hr hd hy ((gq_lo lo (by omega) hr (by omega)).mp hz))
  · by_cases e : q = p
    · subst e; exact C3
    · intro c m hc hm hz r d i hr hd hy hz2
      have h3 := G.2.1 r
      have h4 := G.2.1 c
      exact (gq_lo lo (by omega) hr (by omega)).mpr (i4 q (by omega) c m hc hm ((gq_lo lo (by omega) hc (by omega)).mp hz) r d i hr hd hy ((gq_lo lo (by omega) hr (by omega)).mp hz2))
  · rw [ht s a b ha hb, i5 s a b ha hb]
    constructor
    · intro z
      rcases z with (z | ⟨z1, z2, r, hr, z3, z4⟩) | ⟨z1, z2, z3⟩
      · exact Or.inl z
      · have h3 := G.2.1 r
        exact Or.inr ⟨by omega, z2, r, hr, z3, (gq_lo lo z1 hr (by omega)).mpr z4⟩
      · subst z1
        exact Or.inr ⟨by omega, z2, z3⟩
    · intro z
      rcases z with z | ⟨z1, z2, r, hr, z3, z4⟩
      · exact Or.inl (Or.inl z)
      · have h3 := G.2.1 r
        by_cases e : b = p
        · subst e
          exact Or.inr ⟨rfl, z2, r, hr, z3, z4⟩
        · exact Or.inl (Or.inr ⟨by omega, z2, r, hr, z3, (gq_lo lo (by omega) hr (by omega)).mp z4⟩)
theorem gq_end {g : gm_G} (G : gm_ok g) {w : Nat → Nat} {n : Nat} {st t : Nat → Int32} (hn : n ≤ 10) (I : gq_I g w n (n + 1) st t) : gt_ok g w n t := by
  obtain ⟨i1, i2, i3, i4, i5⟩ := I
  intro s a b
  constructor
  · intro ⟨h1, h2, h3⟩
    rcases (i5 s a b (by omega) (by omega)).mp h3 with z | ⟨z1, z2, r, hr, z3, z4⟩
    · rw [z.2.1, z.2.2]; exact gm_ml z.1
    · have h5 := G.2.1 r
      have h6 := i1 b r (gm_l g r) a z1 hr (by omega) z4
      rw [z3]
      exact gm_mr hr h6.1 h1 h2 h6.2.2
  · intro h
    have hb := gm_mb h
    refine ⟨hb.1, hb.2, (i5 s a b (by omega) (by omega)).mpr ?_⟩
    rcases Nat.lt_or_ge s 5 with y | y
    · obtain ⟨r, hr, _, hk, hz⟩ := ge_two G (Z := gq_Z st) (fun p r hp hr hpr => i2 p r (by omega) hr hpr) (fun p r d i hp hr hd hy hz => i3 p r d i (by omega) hr hd hy hz) (fun p r' m r d i hp hr' hr hm hz hd hy hz2 => i4 p (by omega) r' m hr' hm hz r d i hr hd hy hz2) h y
      exact Or.inr ⟨by omega, hb.1, r, hr, hk.symm, hz⟩
    · exact Or.inl (gm_mlet G h y)

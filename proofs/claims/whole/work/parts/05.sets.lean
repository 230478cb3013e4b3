/-! a round-robin of monotone additions of kinds: after five rounds the set is closed -/
def gz_s (b : Nat → Prop) (M : Nat) (C : Nat → (Nat → Prop) → Prop) (q : Nat → Nat) : Nat → Nat → Prop
  | 0 => b
  | c + 1 => fun k => gz_s b M C q c k ∨ (k = q (c % M) ∧ C (c % M) (gz_s b M C q c))
def gz_m (C : Nat → (Nat → Prop) → Prop) : Prop := ∀ p S S', (∀ k, S k → S' k) → C p S → C p S'
def gz_c (M : Nat) (C : Nat → (Nat → Prop) → Prop) (q : Nat → Nat) (S : Nat → Prop) : Prop := ∀ p, p < M → C p S → S (q p)
theorem gz_up {b : Nat → Prop} {M : Nat} {C : Nat → (Nat → Prop) → Prop} {q : Nat → Nat} {c k : Nat} : ∀ d, gz_s b M C q c k → gz_s b M C q (c + d) k
  | 0, h => h
  | d + 1, h => Or.inl (gz_up d h)
theorem gz_st {b : Nat → Prop} {M : Nat} {C : Nat → (Nat → Prop) → Prop} {q : Nat → Nat} (hC : gz_m C) (hM : 0 < M) {c : Nat} (h : gz_c M C q (gz_s b M C q c)) : ∀ d k, gz_s b M C q (c + d) k → gz_s b M C q c k
  | 0, _, h => h
  | d + 1, k, z => by
    rcases z with z | ⟨e, z⟩
    · exact gz_st hC hM h d k z
    · rw [e]
      exact h _ (Nat.mod_lt _ hM) (hC _ _ _ (gz_st hC hM h d) z)
theorem gz_cs {M : Nat} {C : Nat → (Nat → Prop) → Prop} {q : Nat → Nat} (hC : gz_m C) {S S' : Nat → Prop} (h : gz_c M C q S) (h1 : ∀ k, S k → S' k) (h2 : ∀ k, S' k → S k) : gz_c M C q S' :=
  fun p hp z => h1 _ (h p hp (hC p _ _ h2 z))
theorem gz_r {b : Nat → Prop} {M : Nat} {C : Nat → (Nat → Prop) → Prop} {q : Nat → Nat} (hC : gz_m C) (hM : 0 < M) (hq : ∀ p, q p < 5) : ∀ t, gz_c M C q (gz_s b M C q (M * t)) ∨ t ≤ gc_n (gz_s b M C q (M * t)) 5
  | 0 => Or.inr (Nat.zero_le _)
  | t + 1 => by
    rcases Classical.em (gz_c M C q (gz_s b M C q (M * t))) with h | h
    · exact Or.inl (gz_cs hC h (fun k z => by rw [Nat.mul_succ]; exact gz_up M z) (fun k z => by rw [Nat.mul_succ] at z; exact gz_st hC hM h M k z))
    · rcases gz_r (b := b) hC hM hq t with z | z
      · exact absurd z h
      · right
        have hx : ∃ p, p < M ∧ C p (gz_s b M C q (M * t)) ∧ ¬ gz_s b M C q (M * t) (q p) := by
          apply Classical.byContradiction
          intro hn
          exact h fun p hp hc => Classical.byContradiction fun hs => hn ⟨p, hp, hc, hs⟩
        obtain ⟨p, hp, hc, hs⟩ := hx
        have h1 : gz_s b M C q (M * (t + 1)) (q p) := by
          have e2 : M * (t + 1) = M * t + p + 1 + (M - p - 1) := by rw [Nat.mul_succ]; omega
          have e3 : (M * t + p) % M = p := by rw [Nat.mul_add_mod]; exact Nat.mod_eq_of_lt hp
          rw [e2]
          refine gz_up _ (Or.inr ⟨by rw [e3], ?_⟩)
          rw [e3]
          exact hC p _ _ (fun k z => gz_up p z) hc
        have h2 := gc_nlt hs h1 (N := 5) (fun k _ z => by rw [Nat.mul_succ]; exact gz_up M z) (hq p)
        omega
theorem gc_nfull {P : Nat → Prop} : ∀ N, N ≤ gc_n P N → ∀ k, k < N → P k
  | 0, _, _, h => absurd h (by omega)
  | N + 1, h, k, hk => by
    simp only [gc_n] at h
    have h1 := gc_nle P N
    have h2 := gc_b_le (P N)
    rcases Nat.lt_or_ge k N with z | z
    · exact gc_nfull N (by omega) k z
    · have e : k = N := by omega
      rw [e]
      apply Classical.byContradiction
      intro hn
      rw [gc_b_f hn] at h
      omega
theorem gz_5 {b : Nat → Prop} {M : Nat} {C : Nat → (Nat → Prop) → Prop} {q : Nat → Nat} (hC : gz_m C) (hM : 0 < M) (hq : ∀ p, q p < 5) : gz_c M C q (gz_s b M C q (M * 5)) := by
  rcases gz_r (b := b) hC hM hq 5 with h | h
  · exact h
  · exact fun p _ _ => gc_nfull 5 h _ (hq p)
theorem gz_end {b : Nat → Prop} {M : Nat} {C : Nat → (Nat → Prop) → Prop} {q : Nat → Nat} (hC : gz_m C) (hM : 0 < M) (hq : ∀ p, q p < 5) (d k : Nat) : gz_s b M C q (M * 5 + d) k ↔ gz_s b M C q (M * 5) k :=
  ⟨gz_st hC hM (gz_5 hC hM hq) d k, gz_up d⟩
/-! singles: what one symbol hands up while all beside it make the empty list; points p = 4 r + d -/
def gs_a (g : gm_G) (p : Nat) : Prop := gm_p g (p / 4) = true ∧ p % 4 < gm_l g (p / 4) ∧ ∀ x, x < gm_l g (p / 4) → x ≠ p % 4 → gn_e g (gm_y g (p / 4) x)
def gs_u (g : gm_G) (s c : Nat) : Nat → Prop := gz_s (fun k => k = s) 64 (fun p S => gs_a g p ∧ S (gm_y g (p / 4) (p % 4))) (fun p => gm_k g (p / 4)) c
theorem gs_m (g : gm_G) : gz_m (fun p S => gs_a g p ∧ S (gm_y g (p / 4) (p % 4))) := fun _ _ _ h z => ⟨z.1, h _ z.2⟩
theorem gs_cl {g : gm_G} (G : gm_ok g) {s r e : Nat} (hr : r < 16) (hp : gm_p g r = true) (he : e < gm_l g r) (ho : ∀ x, x < gm_l g r → x ≠ e → gn_e g (gm_y g r x)) (h : gs_u g s 320 (gm_y g r e)) : gs_u g s 320 (gm_k g r) := by
  have h3 := G.2.1 r
  have e1 : (4 * r + e) / 4 = r := by omega
  have e2 : (4 * r + e) % 4 = e := by omega
  have z := gz_5 (b := fun k => k = s) (M := 64) (q := fun p => gm_k g (p / 4)) (gs_m g) (by decide) (fun p => G.1 _) (4 * r + e) (by omega)
  simp only [gs_a, e1, e2] at z
  exact z ⟨⟨hp, he, ho⟩, h⟩
theorem gs_ch {g : gm_G} {P : Nat → Nat → Nat → Prop} {r e i j : Nat} (h1 : ∀ x, x < gm_l g r → x ≠ e → P (gm_y g r x) i i ∧ P (gm_y g r x) j j) (h2 : P (gm_y g r e) i j) : ∀ d, d ≤ gm_l g r → (d ≤ e → gm_q g P r d i i) ∧ (e < d → gm_q g P r d i j)
  | 0, _ => ⟨fun _ => rfl, fun h => absurd h (by omega)⟩
  | d + 1, hd => by
    obtain ⟨a, b⟩ := gs_ch h1 h2 d (by omega)
    refine ⟨fun h => ⟨i, a (by omega), (h1 d (by omega) (by omega)).1⟩, fun h => ?_⟩
    rcases Nat.lt_or_ge e d with z | z
    · exact ⟨j, b z, (h1 d (by omega) (by omega)).2⟩
    · have e1 : d = e := by omega
      subst e1
      exact ⟨i, a (Nat.le_refl _), h2⟩
theorem gs_snd {g : gm_G} (G : gm_ok g) {w : Nat → Nat} {n i j s : Nat} (hs : gm_mk g w n s i j) : ∀ c k, gs_u g s c k → gm_mk g w n k i j
  | 0, k, h => by
    have e : k = s := h
    rw [e]; exact hs
  | c + 1, k, h => by
    rcases h with h | ⟨e, ⟨⟨h1, h2, h3⟩, h4⟩⟩
    · exact gs_snd G hs c k h
    · have hb := gm_mb hs
      have h5 := gs_snd G hs c _ h4
      rw [e]
      exact gm_mr (by omega) h1 hb.1 hb.2 ((gs_ch (fun x hx hne => ⟨(gn_iff G (by omega)).mpr (h3 x hx hne), (gn_iff G hb.2).mpr (h3 x hx hne)⟩) h5 _ (Nat.le_refl _)).2 h2)
/-! first letters: by the rules all of whose symbols make something -/
def gf_able (g : gm_G) (s : Nat) : Prop := 5 ≤ s ∨ gw_i g 1 80 s < 100000
def gf_on (g : gm_G) (r : Nat) : Prop := gm_p g r = true ∧ ∀ d, d < gm_l g r → gf_able g (gm_y g r d)
def gf_h (g : gm_G) (S : Nat → Prop) (r n : Nat) : Prop := ∃ d, d < n ∧ (∀ e, e < d → gn_e g (gm_y g r e)) ∧ S (gm_y g r d)
def gf_s (g : gm_G) (a c : Nat) : Nat → Prop := gz_s (fun s => s = 5 + a) 16 (fun r S => gf_on g r ∧ gf_h g S r (gm_l g r)) (gm_k g) c
theorem gf_m (g : gm_G) : gz_m (fun r S => gf_on g r ∧ gf_h g S r (gm_l g r)) := fun _ _ _ h z => ⟨z.1, z.2.elim fun d y => ⟨d, y.1, y.2.1, h _ y.2.2⟩⟩
theorem gf_320 {g : gm_G} (G : gm_ok g) (a k : Nat) : gf_s g a 320 k ↔ gf_s g a 80 k := gz_end (M := 16) (gf_m g) (by decide) G.1 240 k
/-! parts: how few stretches, none of them empty, lie end to end -/
def gp_r (P : Nat → Nat → Prop) : Nat → Nat → Prop
  | 0 => fun j => j = 0
  | t + 1 => fun j => ∃ i, i < j ∧ gp_r P t i ∧ P i j
theorem gp_le {P : Nat → Nat → Prop} : ∀ t j, gp_r P t j → t ≤ j
  | 0, _, _ => Nat.zero_le _
  | t + 1, j, ⟨i, h1, h2, _⟩ => by
    have := gp_le t i h2
    omega
def gp_F (P : Nat → Nat → Prop) (j : Nat) (x : Int32) : Prop := (∃ t, x = nI t ∧ gp_r P t j ∧ ∀ u, u < t → ¬ gp_r P u j) ∨ (x = -3 ∧ ∀ t, ¬ gp_r P t j)
theorem gp_un {P : Nat → Nat → Prop} {j : Nat} {x y : Int32} (hx : gp_F P j x) (hy : gp_F P j y) : x = y := by
  rcases hx with ⟨t, e1, h1, h2⟩ | ⟨e1, h1⟩
  · rcases hy with ⟨u, e2, h3, h4⟩ | ⟨e2, h3⟩
    · have : t = u := by
        rcases Nat.lt_trichotomy t u with z | z | z
        · exact absurd h1 (h4 t z)
        · exact z
        · exact absurd h3 (h2 u z)
      rw [e1, e2, this]
    · exact absurd h1 (h3 t)
  · rcases hy with ⟨u, e2, h3, h4⟩ | ⟨e2, h3⟩
    · exact absurd h3 (h1 u)
    · rw [e1, e2]
/-! longest: the most letters of a stretch -/
def gl_F (P : Nat → Nat → Prop) (x : Int32) : Prop := (x = -3 ∧ ∀ i j, ¬ P i j) ∨ ∃ i j, P i j ∧ x = nI (j - i) ∧ ∀ a b, P a b → b - a ≤ j - i
theorem gl_un {P : Nat → Nat → Prop} {x y : Int32} (hx : gl_F P x) (hy : gl_F P y) : x = y := by
  rcases hx with ⟨e1, h1⟩ | ⟨i, j, h1, e1, h2⟩
  · rcases hy with ⟨e2, h3⟩ | ⟨a, b, h3, e2, h4⟩
    · rw [e1, e2]
    · exact absurd h3 (h1 a b)
  · rcases hy with ⟨e2, h3⟩ | ⟨a, b, h3, e2, h4⟩
    · exact absurd h1 (h3 i j)
    · have : j - i = b - a := Nat.le_antisymm (h4 i j h1) (h2 a b h3)
      rw [e1, e2, this]

/-! a grammar (which rules are there, their kinds, lengths, symbols), and what its symbols make of a word: the least closed set -/
abbrev gm_G : Type := (Nat → Bool) × (Nat → Nat) × (Nat → Nat) × (Nat → Nat → Nat)
def gm_p (g : gm_G) (r : Nat) : Bool := g.1 r
def gm_k (g : gm_G) (r : Nat) : Nat := g.2.1 r
def gm_l (g : gm_G) (r : Nat) : Nat := g.2.2.1 r
def gm_y (g : gm_G) (r d : Nat) : Nat := g.2.2.2 r d
def gm_ok (g : gm_G) : Prop := (∀ r, gm_k g r < 5) ∧ (∀ r, gm_l g r ≤ 3) ∧ ∀ r d, gm_y g r d < 8
def gm_q (g : gm_G) (P : Nat → Nat → Nat → Prop) (r : Nat) : Nat → Nat → Nat → Prop
  | 0 => fun i j => i = j
  | d + 1 => fun i j => ∃ m, gm_q g P r d i m ∧ P (gm_y g r d) m j
def gm_c (g : gm_G) (w : Nat → Nat) (n : Nat) (P : Nat → Nat → Nat → Prop) : Prop :=
  (∀ i, i < n → P (5 + w i) i (i + 1)) ∧ ∀ r i j, r < 16 → gm_p g r = true → i ≤ j → j ≤ n → gm_q g P r (gm_l g r) i j → P (gm_k g r) i j
def gm_mk (g : gm_G) (w : Nat → Nat) (n : Nat) (s i j : Nat) : Prop := ∀ P, gm_c g w n P → P s i j
theorem gm_qm {g : gm_G} {P Q : Nat → Nat → Nat → Prop} {r : Nat} (h : ∀ s i j, P s i j → Q s i j) : ∀ d i j, gm_q g P r d i j → gm_q g Q r d i j
  | 0, _, _, e => e
  | d + 1, _, _, ⟨m, a, b⟩ => ⟨m, gm_qm h d _ _ a, h _ _ _ b⟩
theorem gm_qle {g : gm_G} {P : Nat → Nat → Nat → Prop} {r : Nat} (h : ∀ s i j, P s i j → i ≤ j) : ∀ d i j, gm_q g P r d i j → i ≤ j
  | 0, _, _, e => Nat.le_of_eq e
  | d + 1, _, _, ⟨_, a, b⟩ => Nat.le_trans (gm_qle h d _ _ a) (h _ _ _ b)
theorem gm_q1 {g : gm_G} {P : Nat → Nat → Nat → Prop} {r i j : Nat} : gm_q g P r 1 i j ↔ P (gm_y g r 0) i j :=
  ⟨fun ⟨_, e, b⟩ => by cases e; exact b, fun h => ⟨i, rfl, h⟩⟩
theorem gm_q2 {g : gm_G} {P : Nat → Nat → Nat → Prop} {r i j : Nat} : gm_q g P r 2 i j ↔ ∃ m, P (gm_y g r 0) i m ∧ P (gm_y g r 1) m j :=
  ⟨fun ⟨m, a, b⟩ => ⟨m, gm_q1.mp a, b⟩, fun ⟨m, a, b⟩ => ⟨m, gm_q1.mpr a, b⟩⟩
theorem gm_q3 {g : gm_G} {P : Nat → Nat → Nat → Prop} {r i j : Nat} : gm_q g P r 3 i j ↔ ∃ m m', P (gm_y g r 0) i m ∧ P (gm_y g r 1) m m' ∧ P (gm_y g r 2) m' j :=
  ⟨fun ⟨m', a, b⟩ => (gm_q2.mp a).elim fun m c => ⟨m, m', c.1, c.2, b⟩, fun ⟨m, m', a, b, c⟩ => ⟨m', gm_q2.mpr ⟨m, a, b⟩, c⟩⟩
theorem gm_ml {g : gm_G} {w : Nat → Nat} {n i : Nat} (h : i < n) : gm_mk g w n (5 + w i) i (i + 1) := fun _ c => c.1 i h
theorem gm_mr {g : gm_G} {w : Nat → Nat} {n r i j : Nat} (hr : r < 16) (hp : gm_p g r = true) (h1 : i ≤ j) (h2 : j ≤ n) (h : gm_q g (gm_mk g w n) r (gm_l g r) i j) : gm_mk g w n (gm_k g r) i j :=
  fun P c => c.2 r i j hr hp h1 h2 (gm_qm (fun _ _ _ m => m P c) _ _ _ h)
theorem gm_mb {g : gm_G} {w : Nat → Nat} {n s i j : Nat} (h : gm_mk g w n s i j) : i ≤ j ∧ j ≤ n :=
  h (fun _ i j => i ≤ j ∧ j ≤ n) ⟨fun i hi => ⟨by omega, by omega⟩, fun _ _ _ _ _ h1 h2 _ => ⟨h1, h2⟩⟩
theorem gm_mlet {g : gm_G} {w : Nat → Nat} {n s i j : Nat} (G : gm_ok g) (h : gm_mk g w n s i j) : 5 ≤ s → i < n ∧ j = i + 1 ∧ s = 5 + w i :=
  h (fun s i j => 5 ≤ s → i < n ∧ j = i + 1 ∧ s = 5 + w i) ⟨fun _ hi _ => ⟨hi, rfl, rfl⟩, fun r _ _ _ _ _ _ _ z => absurd (G.1 r) (by omega)⟩
theorem gm_ind {g : gm_G} {w : Nat → Nat} {n s i j : Nat} {P : Nat → Nat → Nat → Prop} (h1 : ∀ i, i < n → P (5 + w i) i (i + 1))
    (h2 : ∀ r i j, r < 16 → gm_p g r = true → i ≤ j → j ≤ n → gm_q g (fun s a b => gm_mk g w n s a b ∧ P s a b) r (gm_l g r) i j → P (gm_k g r) i j) (h : gm_mk g w n s i j) : P s i j :=
  (h (fun s a b => gm_mk g w n s a b ∧ P s a b) ⟨fun i hi => ⟨gm_ml hi, h1 i hi⟩, fun r i j a b c d e => ⟨gm_mr a b c d (gm_qm (fun _ _ _ z => z.1) _ _ _ e), h2 r i j a b c d e⟩⟩).2
theorem gm_s8 {g : gm_G} {w : Nat → Nat} {n s i j : Nat} (G : gm_ok g) (hw : ∀ i, w i < 3) (h : gm_mk g w n s i j) : s < 8 := by
  rcases Nat.lt_or_ge s 5 with z | z
  · omega
  · have h1 := (gm_mlet G h z).2.2
    have := hw i
    omega
/-! weights of rules: the least sum (letters weigh lw; 100000 means none) -/
def gw_v (lw : Nat) (l : Nat → Nat) (s : Nat) : Nat := if s < 5 then l s else lw
def gw_u (g : gm_G) (lw : Nat) (l : Nat → Nat) (r : Nat) : Nat → Nat
  | 0 => 0
  | d + 1 => gw_u g lw l r d + gw_v lw l (gm_y g r d)
def gw_f (g : gm_G) (lw : Nat) (r : Nat) (l : Nat → Nat) : Nat := if gm_p g r = true then gw_u g lw l r (gm_l g r) else 100000
def gw_i (g : gm_G) (lw : Nat) (c : Nat) : Nat → Nat := ga_i 16 (gw_f g lw) (gm_k g) c
theorem gw_ukey (g : gm_G) (lw r : Nat) (l l' : Nat → Nat) : ∀ d, gw_u g lw l r d < gw_u g lw l' r d → ∃ s, s < 5 ∧ l s < l' s ∧ l s ≤ gw_u g lw l r d
  | 0, h => absurd h (by simp [gw_u])
  | d + 1, h => by
    simp only [gw_u] at h ⊢
    rcases Nat.lt_or_ge (gw_u g lw l r d) (gw_u g lw l' r d) with z | z
    · obtain ⟨s, h1, h2, h3⟩ := gw_ukey g lw r l l' d z
      exact ⟨s, h1, h2, by omega⟩
    · have hv : gw_v lw l (gm_y g r d) < gw_v lw l' (gm_y g r d) := by omega
      unfold gw_v at hv ⊢
      by_cases hs : gm_y g r d < 5
      · rw [if_pos hs, if_pos hs] at hv
        exact ⟨gm_y g r d, hs, hv, by rw [if_pos hs]; omega⟩
      · rw [if_neg hs, if_neg hs] at hv
        omega
theorem gw_key (g : gm_G) (lw : Nat) : ga_key (gw_f g lw) := by
  intro r l l' h
  unfold gw_f at h ⊢
  by_cases hp : gm_p g r = true
  · rw [if_pos hp, if_pos hp] at h
    rw [if_pos hp]
    exact gw_ukey g lw r l l' _ h
  · rw [if_neg hp, if_neg hp] at h
    omega
theorem gw_ub {g : gm_G} {lw r B : Nat} {l : Nat → Nat} (hv : ∀ s, gw_v lw l s = 100000 ∨ gw_v lw l s ≤ B) : ∀ d,
    (100000 ≤ gw_u g lw l r d ∧ ∃ e, e < d ∧ gw_v lw l (gm_y g r e) = 100000) ∨ ((∀ e, e < d → gw_v lw l (gm_y g r e) ≤ B) ∧ gw_u g lw l r d ≤ d * B)
  | 0 => Or.inr ⟨fun _ h => absurd h (by omega), by simp [gw_u]⟩
  | d + 1 => by
    simp only [gw_u]
    rcases gw_ub (g := g) (r := r) hv d with ⟨h1, e, h2, h3⟩ | ⟨h1, h2⟩
    · exact Or.inl ⟨by omega, e, by omega, h3⟩
    · rcases hv (gm_y g r d) with z | z
      · exact Or.inl ⟨by omega, d, by omega, z⟩
      · refine Or.inr ⟨fun e he => ?_, by rw [Nat.add_mul]; omega⟩
        rcases Nat.lt_or_ge e d with y | y
        · exact h1 e y
        · have : e = d := by omega
          rw [this]; exact z
theorem gw_bd {g : gm_G} {lw : Nat} (G : gm_ok g) (hl : lw = 1 ∨ lw = 100000) : ∀ c k, k < 5 → gw_i g lw c k = 100000 ∨ gw_i g lw c k ≤ 3 ^ gc_n (fun x => gw_i g lw c x < 100000) 5
  | 0, _, _ => Or.inl rfl
  | c + 1, k, hk => by
    have ih := gw_bd G hl c
    have hle : ∀ x, gw_i g lw (c + 1) x ≤ gw_i g lw c x := fun x => ga_ile 16 (gw_f g lw) (gm_k g) c x
    have htop : ∀ x, gw_i g lw c x ≤ 100000 := fun x => ga_top 16 (gw_f g lw) (gm_k g) c x
    have hmm : gc_n (fun x => gw_i g lw c x < 100000) 5 ≤ gc_n (fun x => gw_i g lw (c + 1) x < 100000) 5 := gc_nmono fun x _ hx => by
      have := hle x
      try dsimp only at hx ⊢
      omega
    have hpw : 3 ^ gc_n (fun x => gw_i g lw c x < 100000) 5 ≤ 3 ^ gc_n (fun x => gw_i g lw (c + 1) x < 100000) 5 := Nat.pow_le_pow_right (by decide) hmm
    have hB1 : 1 ≤ 3 ^ gc_n (fun x => gw_i g lw c x < 100000) 5 := Nat.pow_pos (by decide)
    have hv : ∀ s, gw_v lw (gw_i g lw c) s = 100000 ∨ gw_v lw (gw_i g lw c) s ≤ 3 ^ gc_n (fun x => gw_i g lw c x < 100000) 5 := by
      intro s
      unfold gw_v
      by_cases hs : s < 5
      · rw [if_pos hs]; exact ih s hs
      · rw [if_neg hs]; omega
    have e : gw_i g lw (c + 1) k = if k = gm_k g (c % 16) then min (gw_i g lw c k) (gw_f g lw (c % 16) (gw_i g lw c)) else gw_i g lw c k := rfl
    by_cases hq : k = gm_k g (c % 16)
    · rw [if_pos hq] at e
      rcases Nat.lt_or_ge (gw_f g lw (c % 16) (gw_i g lw c)) (gw_i g lw c k) with z | z
      · rw [Nat.min_eq_right (by omega)] at e
        have hp : gm_p g (c % 16) = true := by
          apply ts_nf
          intro hn
          unfold gw_f at z
          rw [if_neg (by rw [hn]; decide)] at z
          have := htop k
          omega
        have ef : gw_f g lw (c % 16) (gw_i g lw c) = gw_u g lw (gw_i g lw c) (c % 16) (gm_l g (c % 16)) := by unfold gw_f; rw [if_pos hp]
        rcases gw_ub (g := g) (r := c % 16) hv (gm_l g (c % 16)) with ⟨h1, _⟩ | ⟨_, h1⟩
        · have := htop k
          omega
        · have h3 := G.2.1 (c % 16)
          have h4 : gw_i g lw (c + 1) k ≤ 3 * 3 ^ gc_n (fun x => gw_i g lw c x < 100000) 5 := by
            rw [e, ef]
            exact Nat.le_trans h1 (Nat.mul_le_mul_right _ h3)
          refine Or.inr ?_
          rcases ih k hk with y | y
          · have h5 : gc_n (fun x => gw_i g lw c x < 100000) 5 < gc_n (fun x => gw_i g lw (c + 1) x < 100000) 5 := gc_nlt (a := k) (by omega) (by omega) (fun x _ hx => by
              have := hle x
              try dsimp only at hx ⊢
              omega) hk
            have h6 : 3 ^ (gc_n (fun x => gw_i g lw c x < 100000) 5 + 1) ≤ 3 ^ gc_n (fun x => gw_i g lw (c + 1) x < 100000) 5 := Nat.pow_le_pow_right (by decide) h5
            rw [Nat.pow_succ] at h6
            omega
          · omega
      · rw [Nat.min_eq_left z] at e
        rcases ih k hk with y | y
        · exact Or.inl (e.trans y)
        · exact Or.inr (by omega)
    · rw [if_neg hq] at e
      rcases ih k hk with y | y
      · exact Or.inl (e.trans y)
      · exact Or.inr (by omega)
theorem gw_243 {g : gm_G} {lw : Nat} (G : gm_ok g) (hl : lw = 1 ∨ lw = 100000) (c : Nat) {k : Nat} (hk : k < 5) : gw_i g lw c k = 100000 ∨ gw_i g lw c k ≤ 243 := by
  rcases gw_bd G hl c k hk with h | h
  · exact Or.inl h
  · have h1 : 3 ^ gc_n (fun x => gw_i g lw c x < 100000) 5 ≤ 3 ^ 5 := Nat.pow_le_pow_right (by decide) (gc_nle _ 5)
    have h2 : (3 : Nat) ^ 5 = 243 := by decide
    exact Or.inr (by omega)
theorem gw_v243 {g : gm_G} {lw : Nat} (G : gm_ok g) (hl : lw = 1 ∨ lw = 100000) (c s : Nat) : gw_v lw (gw_i g lw c) s = 100000 ∨ gw_v lw (gw_i g lw c) s ≤ 243 := by
  unfold gw_v
  by_cases hs : s < 5
  · rw [if_pos hs]; exact gw_243 G hl c hs
  · rw [if_neg hs]; omega
theorem gw_fin {g : gm_G} {lw : Nat} (G : gm_ok g) (hl : lw = 1 ∨ lw = 100000) (c r : Nat) : gw_f g lw r (gw_i g lw c) < 100000 ↔ gm_p g r = true ∧ ∀ d, d < gm_l g r → gw_v lw (gw_i g lw c) (gm_y g r d) < 100000 := by
  unfold gw_f
  by_cases hp : gm_p g r = true
  · rw [if_pos hp]
    have h3 := G.2.1 r
    rcases gw_ub (g := g) (r := r) (gw_v243 G hl c) (gm_l g r) with ⟨h1, e, h2, h4⟩ | ⟨h1, h2⟩
    · exact ⟨fun z => absurd z (by omega), fun z => absurd (z.2 e h2) (by omega)⟩
    · refine ⟨fun _ => ⟨hp, fun d hd => Nat.lt_of_le_of_lt (h1 d hd) (by decide)⟩, fun _ => ?_⟩
      have h5 : gm_l g r * 243 ≤ 3 * 243 := Nat.mul_le_mul_right _ h3
      omega
  · rw [if_neg hp]
    exact ⟨fun z => absurd z (by omega), fun z => absurd z.1 hp⟩
theorem gw_step {g : gm_G} {lw : Nat} (c k : Nat) : gw_i g lw (c + 1) k = if k = gm_k g (c % 16) then min (gw_i g lw c k) (gw_f g lw (c % 16) (gw_i g lw c)) else gw_i g lw c k := rfl
theorem gw_top (g : gm_G) (lw c k : Nat) : gw_i g lw c k ≤ 100000 := ga_top 16 (gw_f g lw) (gm_k g) c k
theorem gw_96 {g : gm_G} {lw : Nat} (G : gm_ok g) {k : Nat} (hk : k < 5) : gw_i g lw 96 k = gw_i g lw 80 k := ga_stay (M := 16) (gw_key g lw) (by decide) G.1 16 hk
theorem gw_cl {g : gm_G} {lw : Nat} (G : gm_ok g) {r : Nat} (hr : r < 16) : gw_i g lw 80 (gm_k g r) ≤ gw_f g lw r (gw_i g lw 80) := ga_closed (M := 16) (gw_key g lw) (by decide) G.1 hr
/-! the symbols that make the empty list -/
def gn_e (g : gm_G) (s : Nat) : Prop := s < 5 ∧ gw_i g 100000 80 s < 100000
theorem gn_v {l : Nat → Nat} {s : Nat} (h : gw_v 100000 l s < 100000) : s < 5 ∧ l s < 100000 := by
  unfold gw_v at h
  by_cases hs : s < 5
  · rw [if_pos hs] at h; exact ⟨hs, h⟩
  · rw [if_neg hs] at h; omega
theorem gn_qd {g : gm_G} {P : Nat → Nat → Nat → Prop} {r i : Nat} : ∀ d, (∀ e, e < d → P (gm_y g r e) i i) → gm_q g P r d i i
  | 0, _ => rfl
  | d + 1, h => ⟨i, gn_qd d (fun e he => h e (by omega)), h d (by omega)⟩
theorem gn_snd {g : gm_G} (G : gm_ok g) {w : Nat → Nat} {n i : Nat} (hi : i ≤ n) : ∀ c k, k < 5 → gw_i g 100000 c k < 100000 → gm_mk g w n k i i
  | 0, _, _, h => absurd h (by show ¬ (100000 : Nat) < 100000; omega)
  | c + 1, k, hk, h => by
    have ih := gn_snd G (w := w) hi c
    rw [gw_step] at h
    by_cases hq : k = gm_k g (c % 16)
    · rw [if_pos hq] at h
      rcases Nat.lt_or_ge (gw_i g 100000 c k) 100000 with z | z
      · exact ih k hk z
      · have hf : gw_f g 100000 (c % 16) (gw_i g 100000 c) < 100000 := by omega
        obtain ⟨h1, h2⟩ := (gw_fin G (Or.inr rfl) c (c % 16)).mp hf
        rw [hq]
        exact gm_mr (Nat.mod_lt c (by decide)) h1 (Nat.le_refl _) hi (gn_qd _ fun e he => ih _ (gn_v (h2 e he)).1 (gn_v (h2 e he)).2)
    · rw [if_neg hq] at h
      exact ih k hk h
theorem gn_qall {g : gm_G} {P : Nat → Nat → Nat → Prop} {N : Nat → Prop} {r : Nat} (hP : ∀ s a b, P s a b → a ≤ b ∧ (a = b → N s)) : ∀ d i j, gm_q g P r d i j → i ≤ j ∧ (i = j → ∀ e, e < d → N (gm_y g r e))
  | 0, _, _, e => ⟨Nat.le_of_eq e, fun _ _ h => absurd h (by omega)⟩
  | d + 1, i, j, ⟨m, a, b⟩ => by
    obtain ⟨h1, h2⟩ := gn_qall hP d i m a
    obtain ⟨h3, h4⟩ := hP _ _ _ b
    refine ⟨by omega, fun e x hx => ?_⟩
    rcases Nat.lt_or_ge x d with z | z
    · exact h2 (by omega) x z
    · have : x = d := by omega
      rw [this]
      exact h4 (by omega)
theorem gn_cmp {g : gm_G} (G : gm_ok g) {w : Nat → Nat} {n s i j : Nat} (h : gm_mk g w n s i j) : i = j → gn_e g s :=
  gm_ind (P := fun s i j => i = j → gn_e g s) (fun i _ e => absurd e (by omega)) (fun r i j hr hp h1 h2 hq e => by
    have h3 := (gn_qall (N := gn_e g) (fun s a b z => ⟨(gm_mb z.1).1, z.2⟩) _ _ _ hq).2 e
    refine ⟨G.1 r, Nat.lt_of_le_of_lt (gw_cl G hr) ((gw_fin G (Or.inr rfl) 80 r).mpr ⟨hp, fun d hd => ?_⟩)⟩
    obtain ⟨a, b⟩ := h3 d hd
    unfold gw_v
    rw [if_pos a]
    exact b) h
theorem gn_iff {g : gm_G} (G : gm_ok g) {w : Nat → Nat} {n s i : Nat} (hi : i ≤ n) : gm_mk g w n s i i ↔ gn_e g s :=
  ⟨fun h => gn_cmp G h rfl, fun h => gn_snd G hi 80 s h.1 h.2⟩
/-! a stretch that is not empty: put together of shorter ones, or by one symbol while the others make the empty list -/
theorem ge_split {g : gm_G} (G : gm_ok g) {w : Nat → Nat} {n i j : Nat} {B : Nat → Prop} (hij : i < j) (r : Nat) : ∀ d m,
    gm_q g (fun s a b => gm_mk g w n s a b ∧ (a = i ∧ b = j → B s)) r d i m → m ≤ j →
    (i = m ∧ (∀ e, e < d → gn_e g (gm_y g r e)) ∧ gm_q g (fun s a b => gm_mk g w n s a b ∧ ¬ (a = i ∧ b = j)) r d i m) ∨
    (m = j ∧ ∃ e, e < d ∧ B (gm_y g r e) ∧ ∀ x, x < d → x ≠ e → gn_e g (gm_y g r x)) ∨
    (i < m ∧ gm_q g (fun s a b => gm_mk g w n s a b ∧ ¬ (a = i ∧ b = j)) r d i m)
  | 0, m, e, _ => Or.inl ⟨e, fun _ h => absurd h (by omega), e⟩
  | d + 1, m, ⟨m', a, b⟩, hm => by
    have hb := gm_mb b.1
    rcases ge_split G (w := w) (n := n) (B := B) hij r d m' a (by omega) with ⟨h1, h2, h3⟩ | ⟨h1, e, h2, h3, h4⟩ | ⟨h1, h2⟩
    · subst h1
      rcases Nat.lt_or_ge i m with z | z
      · rcases Nat.lt_or_ge m j with y | y
        · exact Or.inr (Or.inr ⟨z, i, h3, b.1, by omega⟩)
        · refine Or.inr (Or.inl ⟨by omega, d, by omega, b.2 ⟨rfl, by omega⟩, fun x hx hne => h2 x (by omega)⟩)
      · have e : m = i := by omega
        subst e
        refine Or.inl ⟨rfl, fun x hx => ?_, m, h3, b.1, by omega⟩
        rcases Nat.lt_or_ge x d with y | y
        · exact h2 x y
        · have : x = d := by omega
          rw [this]
          exact gn_cmp G b.1 rfl
    · subst h1
      have e1 : m = m' := by omega
      subst e1
      refine Or.inr (Or.inl ⟨rfl, e, by omega, h3, fun x hx hne => ?_⟩)
      rcases Nat.lt_or_ge x d with y | y
      · exact h4 x y hne
      · have : x = d := by omega
        rw [this]
        exact gn_cmp G b.1 rfl
    · exact Or.inr (Or.inr ⟨by omega, m', h2, b.1, by omega⟩)
theorem ge_cmp {g : gm_G} (G : gm_ok g) {w : Nat → Nat} {n i j : Nat} {B : Nat → Prop} (hij : i < j) (hlet : j = i + 1 → B (5 + w i))
    (hfit : ∀ r, r < 16 → gm_p g r = true → gm_q g (fun s a b => gm_mk g w n s a b ∧ ¬ (a = i ∧ b = j)) r (gm_l g r) i j → B (gm_k g r))
    (hone : ∀ r e, r < 16 → gm_p g r = true → e < gm_l g r → (∀ x, x < gm_l g r → x ≠ e → gn_e g (gm_y g r x)) → B (gm_y g r e) → B (gm_k g r))
    {s : Nat} (h : gm_mk g w n s i j) : B s := by
  refine gm_ind (P := fun s a b => a = i ∧ b = j → B s) (fun a _ ⟨e1, e2⟩ => ?_) (fun r a b hr hp h1 h2 hq ⟨e1, e2⟩ => ?_) h ⟨rfl, rfl⟩
  · subst e1; exact hlet e2.symm
  · subst e1 e2
    rcases ge_split G hij r _ _ hq (Nat.le_refl _) with ⟨z, _, _⟩ | ⟨_, e, h3, h4, h5⟩ | ⟨_, z⟩
    · omega
    · exact hone r e hr hp h3 h5 h4
    · exact hfit r hr hp z

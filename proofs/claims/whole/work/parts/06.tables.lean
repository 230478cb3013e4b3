/-! tables by cells 11 i + j with a bit for each symbol; when a table is right -/
def gt_T (t : Nat → Int32) (n : Nat) (s i j : Nat) : Prop := i ≤ j ∧ j ≤ n ∧ bt (t (i * 11 + j)) s = true
def gt_ok (g : gm_G) (w : Nat → Nat) (n : Nat) (t : Nat → Int32) : Prop := ∀ s i j, gt_T t n s i j ↔ gm_mk g w n s i j
def gt_S (g : gm_G) (w : Nat → Nat) (n : Nat) (t : Nat → Int32) : Prop := ∀ s i j, i ≤ 10 → j ≤ 10 → bt (t (i * 11 + j)) s = true → gm_mk g w n s i j
def gt_L (w : Nat → Nat) (n : Nat) (t : Nat → Int32) : Prop := ∀ i, i < n → bt (t (i * 11 + i + 1)) (5 + w i) = true
def gt_C (g : gm_G) (n : Nat) (t : Nat → Int32) : Prop := ∀ r i j, r < 16 → gm_p g r = true → i ≤ j → j ≤ n → gm_q g (gt_T t n) r (gm_l g r) i j → bt (t (i * 11 + j)) (gm_k g r) = true
theorem gt_mk {g : gm_G} {w : Nat → Nat} {n : Nat} {t : Nat → Int32} (hn : n ≤ 10) (S : gt_S g w n t) (L : gt_L w n t) (C : gt_C g n t) : gt_ok g w n t := by
  intro s i j
  constructor
  · intro ⟨h1, h2, h3⟩
    exact S s i j (by omega) (by omega) h3
  · intro h
    exact h (gt_T t n) ⟨fun i hi => ⟨by omega, by omega, L i hi⟩, fun r i j a b c d e => ⟨c, d, C r i j a b c d e⟩⟩
theorem gt_sT {g : gm_G} {w : Nat → Nat} {n : Nat} {t : Nat → Int32} (hn : n ≤ 10) (S : gt_S g w n t) {s i j : Nat} (h : gt_T t n s i j) : gm_mk g w n s i j := by
  obtain ⟨h1, h2, h3⟩ := h
  exact S s i j (by omega) (by omega) h3
/-- the cells as putLetters leaves them -/
def gt_P (w : Nat → Nat) (n : Nat) (t : Nat → Int32) : Prop := ∀ s i j, i ≤ 10 → j ≤ 10 → (bt (t (i * 11 + j)) s = true ↔ i < n ∧ j = i + 1 ∧ s = 5 + w i)
theorem gt_PS {g : gm_G} {w : Nat → Nat} {n : Nat} {t : Nat → Int32} (P : gt_P w n t) : gt_S g w n t := by
  intro s i j hi hj h
  obtain ⟨h1, h2, h3⟩ := (P s i j hi hj).mp h
  rw [h2, h3]
  exact gm_ml h1
theorem gt_PL {w : Nat → Nat} {n : Nat} {t : Nat → Int32} (hn : n ≤ 10) (P : gt_P w n t) : gt_L w n t := fun i hi => (P (5 + w i) i (i + 1) (by omega) (by omega)).mpr ⟨hi, rfl, rfl⟩
/-! left to right: Z p r d i says that the place i is among the starts of point d of rule r at place p -/
theorem ge_two {g : gm_G} (G : gm_ok g) {w : Nat → Nat} {n : Nat} {Z : Nat → Nat → Nat → Nat → Prop}
    (hb : ∀ p r, p ≤ n → r < 16 → gm_p g r = true → Z p r 0 p)
    (hl : ∀ p r d i, p < n → r < 16 → d < gm_l g r → gm_y g r d = 5 + w p → Z p r d i → Z (p + 1) r (d + 1) i)
    (hf : ∀ p r' m r d i, p ≤ n → r' < 16 → r < 16 → m ≤ p → Z p r' (gm_l g r') m → d < gm_l g r → gm_y g r d = gm_k g r' → Z m r d i → Z p r (d + 1) i)
    {s i j : Nat} (h : gm_mk g w n s i j) : s < 5 → ∃ r, r < 16 ∧ gm_p g r = true ∧ gm_k g r = s ∧ Z j r (gm_l g r) i := by
  have key : i ≤ j ∧ j ≤ n ∧ ((s < 5 ∧ ∃ r, r < 16 ∧ gm_p g r = true ∧ gm_k g r = s ∧ Z j r (gm_l g r) i) ∨ (i < n ∧ j = i + 1 ∧ s = 5 + w i)) := by
    refine h (fun s i j => i ≤ j ∧ j ≤ n ∧ ((s < 5 ∧ ∃ r, r < 16 ∧ gm_p g r = true ∧ gm_k g r = s ∧ Z j r (gm_l g r) i) ∨ (i < n ∧ j = i + 1 ∧ s = 5 + w i))) ⟨fun i hi => ⟨by omega, by omega, Or.inr ⟨hi, rfl, rfl⟩⟩, fun r i j hr hp h1 h2 hq => ?_⟩
    have ch : ∀ d j, d ≤ gm_l g r → i ≤ n → gm_q g (fun s i j => i ≤ j ∧ j ≤ n ∧ ((s < 5 ∧ ∃ r, r < 16 ∧ gm_p g r = true ∧ gm_k g r = s ∧ Z j r (gm_l g r) i) ∨ (i < n ∧ j = i + 1 ∧ s = 5 + w i))) r d i j → Z j r d i := by
      intro d
      induction d with
      | zero =>
        intro j _ hi e
        have e' : i = j := e
        rw [← e']
        exact hb i r hi hr hp
      | succ d ih =>
        intro j hd hi ⟨m, a, b1, b2, b3⟩
        have hz := ih m (by omega) hi a
        rcases b3 with ⟨_, r', c1, _, c3, c4⟩ | ⟨c1, c2, c3⟩
        · exact hf j r' m r d i b2 c1 hr b1 c4 (by omega) c3.symm hz
        · rw [c2]
          exact hl m r d i c1 hr (by omega) c3 hz
    exact ⟨h1, h2, Or.inl ⟨G.1 r, r, hr, hp, rfl, ch _ j (Nat.le_refl _) (by omega) hq⟩⟩
  intro hs
  rcases key with ⟨_, _, ⟨_, z⟩ | ⟨_, _, z⟩⟩
  · exact z
  · omega
/-! the agenda: L r d i j says that the item is listed -/
theorem ge_four {g : gm_G} {w : Nat → Nat} {n : Nat} {L : Nat → Nat → Nat → Nat → Prop} {T : Nat → Nat → Nat → Prop}
    (hb : ∀ r i, r < 16 → gm_p g r = true → i ≤ n → L r 0 i i)
    (hf : ∀ r i j, r < 16 → L r (gm_l g r) i j → T (gm_k g r) i j)
    (hg : ∀ r d i m j, r < 16 → d < gm_l g r → L r d i m → T (gm_y g r d) m j → L r (d + 1) i j)
    (hl : ∀ i, i < n → T (5 + w i) i (i + 1)) {s i j : Nat} (h : gm_mk g w n s i j) : T s i j := by
  refine h T ⟨hl, fun r i j hr hp h1 h2 hq => hf r i j hr ?_⟩
  have ch : ∀ d j, d ≤ gm_l g r → gm_q g T r d i j → L r d i j := by
    intro d
    induction d with
    | zero =>
      intro j _ e
      have e' : i = j := e
      rw [← e']
      exact hb r i hr hp (by omega)
    | succ d ih =>
      intro j hd ⟨m, a, b⟩
      exact hg r d i m j hr (by omega) (ih m (by omega) a) b
  exact ch _ j (Nat.le_refl _) hq
/-! counting bits of a table of 605 = 5 * 121 -/
theorem gt_up (f : Nat → Int32) (k : Nat) : upd f k (f k) = f := by
  funext j
  rw [gb_u]
  split
  · rename_i e; rw [e]
  · rfl

/-! the reference's cells: 121 s + 11 i + j for a kind s; letters are read off the list -/
def gy_D (m : Nat → Int32) (w : Nat → Nat) (s i j : Nat) : Prop := if s < 5 then m (121 * s + 11 * i + j) = 1 else j = i + 1 ∧ s = 5 + w i
def gy_B (m : Nat → Int32) (w : Nat → Nat) (n s i j : Nat) : Prop := i ≤ j ∧ j ≤ n ∧ gy_D m w s i j
def gy_Z (m : Nat → Int32) : Prop := ∀ c, c < 605 → m c = 0 ∨ m c = 1
def gy_S (g : gm_G) (w : Nat → Nat) (n : Nat) (m : Nat → Int32) : Prop := ∀ s i j, s < 5 → i ≤ 10 → j ≤ 10 → m (121 * s + 11 * i + j) = 1 → gm_mk g w n s i j
def gy_C (g : gm_G) (w : Nat → Nat) (n : Nat) (m : Nat → Int32) (r : Nat) : Prop := ∀ i j, i ≤ j → j ≤ n → gm_q g (gy_B m w n) r (gm_l g r) i j → m (121 * gm_k g r + 11 * i + j) = 1
def gy_ok (g : gm_G) (w : Nat → Nat) (n : Nat) (m : Nat → Int32) : Prop := ∀ s i j, s < 5 → i ≤ 10 → j ≤ 10 → (m (121 * s + 11 * i + j) = 1 ↔ gm_mk g w n s i j)
theorem gy_B_s {g : gm_G} {w : Nat → Nat} {n : Nat} {m : Nat → Int32} (hn : n ≤ 10) (S : gy_S g w n m) {s i j : Nat} (h : gy_B m w n s i j) : gm_mk g w n s i j := by
  obtain ⟨h1, h2, h3⟩ := h
  unfold gy_D at h3
  by_cases hs : s < 5
  · rw [if_pos hs] at h3
    exact S s i j hs (by omega) (by omega) h3
  · rw [if_neg hs] at h3
    rw [h3.1, h3.2]
    exact gm_ml (by omega)
theorem gy_mk {g : gm_G} {w : Nat → Nat} {n : Nat} {m : Nat → Int32} (G : gm_ok g) (hn : n ≤ 10) (S : gy_S g w n m) (C : ∀ r, r < 16 → gm_p g r = true → gy_C g w n m r) : gy_ok g w n m := by
  intro s i j hs hi hj
  constructor
  · exact S s i j hs hi hj
  · intro h
    have k : gy_B m w n s i j := by
      refine h (gy_B m w n) ⟨fun i hi => ⟨by omega, by omega, ?_⟩, fun r i j a b c d e => ⟨c, d, ?_⟩⟩
      · unfold gy_D
        rw [if_neg (by omega)]
        exact ⟨rfl, rfl⟩
      · unfold gy_D
        rw [if_pos (G.1 r)]
        exact C r a b i j c d e
    have k3 := k.2.2
    unfold gy_D at k3
    rw [if_pos hs] at k3
    exact k3

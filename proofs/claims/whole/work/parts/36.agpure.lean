def gg_H (g : gm_G) (n : Nat) (li t : Nat → Int32) (p i j : Nat) : Prop :=
  (p % 4 = gm_l g (p / 4) → bt (t (i * 11 + j)) (gm_k g (p / 4)) = true) ∧ (p % 4 < gm_l g (p / 4) → ∀ b, j ≤ b → b ≤ n → bt (t (j * 11 + b)) (gm_y g (p / 4) (p % 4)) = true → li ((p + 1) * 121 + i * 11 + b) = 1)
def gg_I (g : gm_G) (w : Nat → Nat) (n q : Nat) (u : (Nat × (Nat → Int32) × (Nat → Int32)) × (Nat → Int32)) : Prop :=
  gg_A u.1 ∧ gg_S g w n u.1.2.2 ∧ gt_S g w n u.2 ∧ gt_L w n u.2 ∧ (∀ r i, r < 16 → gm_p g r = true → i ≤ n → u.1.2.2 (r * 4 * 121 + i * 11 + i) = 1) ∧ q ≤ u.1.1 ∧ ∀ x p i j, x < q → p < 64 → i ≤ 10 → j ≤ 10 → u.1.2.1 x = nI (p * 121 + i * 11 + j) → gg_H g n u.1.2.2 u.2 p i j
theorem gg_end {g : gm_G} (G : gm_ok g) {w : Nat → Nat} {n q : Nat} {u : (Nat × (Nat → Int32) × (Nat → Int32)) × (Nat → Int32)} (hn : n ≤ 10) (I : gg_I g w n q u) (hq : u.1.1 ≤ q) : gt_ok g w n u.2 := by
  obtain ⟨A, S, TS, TL, hb, _, hH⟩ := I
  have all : ∀ p i j, p < 64 → i ≤ 10 → j ≤ 10 → u.1.2.2 (p * 121 + i * 11 + j) = 1 → gg_H g n u.1.2.2 u.2 p i j := fun p i j hp hi hj h => by
    obtain ⟨x, h1, h2⟩ := A.2.2.2 _ (by omega) h
    exact hH x p i j (by omega) hp hi hj h2
  have hf : ∀ r i j, r < 16 → (i ≤ 10 ∧ j ≤ 10 ∧ u.1.2.2 ((r * 4 + gm_l g r) * 121 + i * 11 + j) = 1) → gt_T u.2 n (gm_k g r) i j := by
    intro r i j hr ⟨h1, h2, h3⟩
    have h5 := G.2.1 r
    have e1 : (r * 4 + gm_l g r) / 4 = r := by omega
    have e2 : (r * 4 + gm_l g r) % 4 = gm_l g r := by omega
    have f := S _ i j (by omega) h1 h2 h3
    have z := (all _ i j (by omega) h1 h2 h3).1
    rw [e1, e2] at z
    exact ⟨f.2.2.1, f.2.2.2.1, z rfl⟩
  have hg : ∀ r d i m j, r < 16 → d < gm_l g r → (i ≤ 10 ∧ m ≤ 10 ∧ u.1.2.2 ((r * 4 + d) * 121 + i * 11 + m) = 1) → gt_T u.2 n (gm_y g r d) m j → (i ≤ 10 ∧ j ≤ 10 ∧ u.1.2.2 ((r * 4 + (d + 1)) * 121 + i * 11 + j) = 1) := by
    intro r d i m j hr hd ⟨h1, h2, h3⟩ h4
    have h5 := G.2.1 r
    have e1 : (r * 4 + d) / 4 = r := by omega
    have e2 : (r * 4 + d) % 4 = d := by omega
    have z := (all _ i m (by omega) h1 h2 h3).2
    rw [e1, e2] at z
    exact ⟨h1, by have := h4.2.1; omega, z hd j h4.1 h4.2.1 h4.2.2⟩
  intro s i j
  exact ⟨gt_sT hn TS, fun h => ge_four (L := fun r d i j => i ≤ 10 ∧ j ≤ 10 ∧ u.1.2.2 ((r * 4 + d) * 121 + i * 11 + j) = 1) (T := gt_T u.2 n) (fun r i hr hp hi => ⟨by omega, by omega, hb r i hr hp hi⟩) hf hg (fun i hi => ⟨by omega, by omega, TL i hi⟩) h⟩
theorem gg_goon {g : gm_G} {w : Nat → Nat} {n q p i j : Nat} {s s' : Nat × (Nat → Int32) × (Nat → Int32)} {t : Nat → Int32} (G : gm_ok g) (I : gg_I g w n q (s, t)) (hn : n ≤ 10) (hq : q < s.1) (hp : p < 64) (hi : i ≤ 10) (hj : j ≤ 10) (e : s.2.1 q = nI (p * 121 + i * 11 + j)) (hd : p % 4 < gm_l g (p / 4)) (R : gg_R g w n s s')
    (h : ∀ b, j ≤ b → b ≤ n → bt (t (j * 11 + b)) (gm_y g (p / 4) (p % 4)) = true → s'.2.2 ((p + 1) * 121 + i * 11 + b) = 1) : gg_I g w n (q + 1) (s', t) := by
  obtain ⟨A, S, TS, TL, hb, hqm, hH⟩ := I
  refine ⟨R.1, R.2.1, TS, TL, fun r i hr hpr hi => R.2.2.2.2 _ (by omega) (hb r i hr hpr hi), ?_, fun x p2 i2 j2 hx hp2 hi2 hj2 ex => ?_⟩
  · have := R.2.2.1
    show q + 1 ≤ s'.1
    omega
  · have ex : s'.2.1 x = nI (p2 * 121 + i2 * 11 + j2) := ex
    rw [R.2.2.2.1 x (by omega)] at ex
    by_cases e1 : x = q
    · rw [e1, e] at ex
      have e2 := (nI_eq (by omega) (by omega)).mp ex
      have a1 : p2 = p := by omega
      have a2 : i2 = i := by omega
      have a3 : j2 = j := by omega
      rw [a1, a2, a3]
      exact ⟨fun z => absurd z (by omega), fun _ => h⟩
    · have z := hH x p2 i2 j2 (by omega) hp2 hi2 hj2 ex
      refine ⟨z.1, fun h1 b h2 h3 h4 => ?_⟩
      have h5 := G.2.1 (p2 / 4)
      exact R.2.2.2.2 _ (by omega) (z.2 h1 b h2 h3 h4)
theorem gg_fin {g : gm_G} {w : Nat → Nat} {n q p i j : Nat} {s s' : Nat × (Nat → Int32) × (Nat → Int32)} {t t' : Nat → Int32} (G : gm_ok g) (I : gg_I g w n q (s, t)) (hn : n ≤ 10) (hq : q < s.1) (hp : p < 64) (hi : i ≤ 10) (hj : j ≤ 10) (e : s.2.1 q = nI (p * 121 + i * 11 + j)) (hd : p % 4 = gm_l g (p / 4)) (hmk : gm_mk g w n (gm_k g (p / 4)) i j) (R : gg_R g w n s s')
    (h : (t' = t ∧ bt (t (i * 11 + j)) (gm_k g (p / 4)) = true) ∨ (t' = upd t (i * 11 + j) (t (i * 11 + j) ||| ((1 : Int32) <<< (nI (gm_k g (p / 4)) &&& 31))) ∧ ∀ x, x < 64 → x % 4 < gm_l g (x / 4) → gm_y g (x / 4) (x % 4) = gm_k g (p / 4) → ∀ a, a ≤ i → s.2.2 (x * 121 + a * 11 + i) = 1 → s'.2.2 ((x + 1) * 121 + a * 11 + j) = 1)) : gg_I g w n (q + 1) (s', t') := by
  obtain ⟨A, S, TS, TL, hb, hqm, hH⟩ := I
  have hk := G.1 (p / 4)
  have TS : gt_S g w n t := TS
  have TL : gt_L w n t := TL
  have t1 : gt_S g w n t' := by
    rcases h with ⟨e1, _⟩ | ⟨e1, _⟩
    · rw [e1]; exact TS
    · rw [e1]
      exact gt_orS TS hi hj fun s hs => by
        rw [(gb_sg (by omega) s).mp hs]; exact hmk
  have mo : ∀ c s, bt (t c) s = true → bt (t' c) s = true := by
    intro c s hc
    rcases h with ⟨e1, _⟩ | ⟨e1, _⟩
    · rw [e1]; exact hc
    · rw [e1]; exact gt_orM c s hc
  have bit : bt (t' (i * 11 + j)) (gm_k g (p / 4)) = true := by
    rcases h with ⟨e1, e2⟩ | ⟨e1, _⟩
    · rw [e1]; exact e2
    · rw [e1, gb_us rfl, gb_add _ (by omega)]; exact Or.inr rfl
  refine ⟨R.1, R.2.1, t1, fun a ha => mo _ _ (TL a ha), fun r i hr hpr hi => R.2.2.2.2 _ (by omega) (hb r i hr hpr hi), ?_, fun x p2 i2 j2 hx hp2 hi2 hj2 ex => ?_⟩
  · have := R.2.2.1
    show q + 1 ≤ s'.1
    omega
  · have ex : s'.2.1 x = nI (p2 * 121 + i2 * 11 + j2) := ex
    rw [R.2.2.2.1 x (by omega)] at ex
    by_cases e1 : x = q
    · rw [e1, e] at ex
      have e2 := (nI_eq (by omega) (by omega)).mp ex
      have a1 : p2 = p := by omega
      have a2 : i2 = i := by omega
      have a3 : j2 = j := by omega
      rw [a1, a2, a3]
      exact ⟨fun _ => bit, fun z => absurd z (by omega)⟩
    · have z := hH x p2 i2 j2 (by omega) hp2 hi2 hj2 ex
      refine ⟨fun h1 => mo _ _ (z.1 h1), fun h1 b h2 h3 h4 => ?_⟩
      have h5 := G.2.1 (p2 / 4)
      rcases h with ⟨e3, _⟩ | ⟨e3, hnew⟩
      · have h4 : bt (t' (j2 * 11 + b)) (gm_y g (p2 / 4) (p2 % 4)) = true := h4
        rw [e3] at h4
        exact R.2.2.2.2 _ (by omega) (z.2 h1 b h2 h3 h4)
      · have h4 : bt (t' (j2 * 11 + b)) (gm_y g (p2 / 4) (p2 % 4)) = true := h4
        rw [e3, gb_u] at h4
        by_cases e4 : j2 * 11 + b = i * 11 + j
        · have b1 : j2 = i := by omega
          have b2 : b = j := by omega
          rw [if_pos e4, gb_add _ (by omega), ← e4] at h4
          rcases h4 with h4 | h4
          · exact R.2.2.2.2 _ (by omega) (z.2 h1 b h2 h3 h4)
          · obtain ⟨y, y1, y2, y3⟩ := A.2.2.1 x (by show x < s.1; omega)
            rw [ex] at y2
            have y4 := (nI_eq (by omega) (by omega)).mp y2
            rw [← y4] at y3
            have F := S p2 i2 j2 hp2 hi2 hj2 y3
            have y3 : s.2.2 (p2 * 121 + i2 * 11 + j2) = 1 := y3
            rw [b1] at y3
            rw [b2]
            exact hnew p2 hp2 h1 h4 i2 (by have := F.2.2.1; omega) y3
        · rw [if_neg e4] at h4
          exact R.2.2.2.2 _ (by omega) (z.2 h1 b h2 h3 h4)

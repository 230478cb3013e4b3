/-! the reference: symbol, covers, fits -/
def gy_G (g : gm_G) (th kd lg pt : Nat → Int32) : Prop :=
  gm_ok g ∧ (∀ r, r < 16 → th r = if gm_p g r = true then 1 else 0) ∧ (∀ r, kd r = nI (gm_k g r)) ∧ (∀ r, lg r = nI (gm_l g r)) ∧ ∀ r d, d ≤ 3 → ((pt r) >>> ((3 * nI d) &&& 31)) &&& 7 = nI (gm_y g r d)
section ybase
variable {sz mn gr : Int32} {th kd lg pt wd ls md le : Nat → Int32} {g : gm_G} {w : Nat → Nat} {n : Nat}
theorem gy_symbol {post : Int32 → Prop} (H : gy_G g th kd lg pt) {r d : Nat} (hr : r < 16) (hd : d ≤ 3) (h : post (nI (gm_y g r d))) : wpY_symbol post (sz, mn, gr, th, kd, lg, pt, wd, ls, md, le) (nI r) (nI d) := by
  refine And.intro (gx_in hr (by decide)) ?_
  rw [gx_cl (by omega), H.2.2.2.2 r d hd]
  exact h
theorem gy_sub5 {s : Nat} (h : 5 ≤ s) : nI s - 5 = nI (s - 5) := pk_sub (b := 5) h
theorem gy_covers {post : Int32 → Prop} (hw : ∀ i, i < n → ls i = nI (w i)) (hw3 : ∀ i, w i < 3) (hn : n ≤ 10) (hz : gy_Z md) {s i j : Nat} (hs : s < 8) (hi : i ≤ j) (hj : j ≤ n) (h1 : gy_D md w s i j → post 1) (h0 : ¬ gy_D md w s i j → post 0) : wpY_covers post (sz, mn, gr, th, kd, lg, pt, wd, ls, md, le) (nI s) (nI i) (nI j) := by
  refine pk_le 5 s (fun h => ?_) (fun h => ?_)
  · have hnk : ¬ s < 5 := by omega
    refine pk_eq j (i + 1) (fun e => ?_) (fun e => ?_) rfl (nI_1 i)
    · refine And.intro (gx_in (by omega) (by decide)) ?_
      have h3 := hw3 i
      refine pk_eq (w i) (s - 5) (fun e2 => ?_) (fun e2 => ?_) (by rw [gx_cl (by omega)]; exact hw i (by omega)) (gy_sub5 h)
      · refine h1 ?_
        unfold gy_D
        rw [if_neg hnk]
        exact ⟨e, by omega⟩
      · refine h0 fun z => ?_
        unfold gy_D at z
        rw [if_neg hnk] at z
        omega
    · refine h0 fun z => ?_
      unfold gy_D at z
      rw [if_neg hnk] at z
      exact e z.1
  · rw [gx_y121, gx_cl (by omega)]
    refine And.intro (gx_in (by omega) (by decide)) ?_
    rcases hz (121 * s + 11 * i + j) (by omega) with z | z
    · rw [z]
      refine And.intro rfl (h0 fun y => ?_)
      unfold gy_D at y
      rw [if_pos h, z] at y
      exact absurd y (by decide)
    · rw [z]
      refine And.intro rfl (h1 ?_)
      unfold gy_D
      rw [if_pos h]
      exact z
/-- the middle of a rule of two or three symbols -/
def gy_M (g : gm_G) (P : Nat → Nat → Nat → Prop) (r j a b : Nat) : Prop := P (gm_y g r 1) a b ∧ (gm_l g r = 2 ∧ b = j ∨ gm_l g r = 3 ∧ P (gm_y g r 2) b j)
theorem gy_qM {g : gm_G} {P : Nat → Nat → Nat → Prop} {r i j : Nat} (h3 : gm_l g r ≤ 3) (h2 : 2 ≤ gm_l g r) : gm_q g P r (gm_l g r) i j ↔ ∃ a b, P (gm_y g r 0) i a ∧ gy_M g P r j a b := by
  rcases Nat.lt_or_ge (gm_l g r) 3 with z | z
  · have e : gm_l g r = 2 := by omega
    unfold gy_M
    rw [e, gm_q2]
    constructor
    · intro ⟨m, a, b⟩
      exact ⟨m, j, a, b, Or.inl ⟨rfl, rfl⟩⟩
    · intro ⟨a, b, h1, h2, h3⟩
      rcases h3 with ⟨_, e2⟩ | ⟨e2, _⟩
      · subst e2; exact ⟨a, h1, h2⟩
      · omega
  · have e : gm_l g r = 3 := by omega
    unfold gy_M
    rw [e, gm_q3]
    constructor
    · intro ⟨m, m', a, b, c⟩
      exact ⟨m, m', a, b, Or.inr ⟨rfl, c⟩⟩
    · intro ⟨a, b, h1, h2, h3⟩
      rcases h3 with ⟨e2, _⟩ | ⟨_, c⟩
      · omega
      · exact ⟨a, b, h1, h2, c⟩
theorem gy_fits94 {post : Int32 → Prop} {J : Int32 → Int32 → Prop} (H : gy_G g th kd lg pt) (hw : ∀ i, i < n → ls i = nI (w i)) (hw3 : ∀ i, w i < 3) (hn : n ≤ 10) (hz : gy_Z md) {r i j a : Nat} (hr : r < 16) (h2 : 2 ≤ gm_l g r) (ha : a ≤ j) (hj : j ≤ n)
    (h1 : (∃ b, gy_M g (gy_B md w n) r j a b) → J 1 (nI (a + 1))) (h0 : (¬ ∃ b, gy_M g (gy_B md w n) r j a b) → J 0 (nI (a + 1))) : ∃ f, wY_fits_94 post J (nI r) (nI i) (nI j) (nI (gm_l g r)) (nI a) sz mn gr th kd lg pt wd ls md le f 0 (nI a) := by
  have h3 := H.1.2.1 r
  have h8 := H.1.2.2 r
  refine pk_loop (fun f b (s : Int32) => wY_fits_94 post J (nI r) (nI i) (nI j) (nI (gm_l g r)) (nI a) sz mn gr th kd lg pt wd ls md le f s (nI b))
    (fun b s => a ≤ b ∧ ((s = 0 ∧ ∀ b', b' < b → ¬ gy_M g (gy_B md w n) r j a b') ∨ (s = 1 ∧ ∃ b', gy_M g (gy_B md w n) r j a b'))) (j + 1) a 0 (by omega) ⟨Nat.le_refl _, Or.inl ⟨rfl, fun b' hb z => absurd z.1.1 (by omega)⟩⟩ ?_ ?_
  · intro f s ⟨_, hI⟩
    refine br_t (nI_lt (Nat.lt_succ_self j) (by omega)) (nm_r (nI_1 a) ?_)
    rcases hI with ⟨rfl, hI⟩ | ⟨rfl, hI⟩
    · refine h0 fun ⟨b, hb⟩ => hI b ?_ hb
      rcases hb.2 with z | z
      · omega
      · have := z.2.1; omega
    · exact h1 hI
  · intro f b s hb ⟨hab, hI⟩ ih
    refine br_f (nI_nlt (by omega) (by omega)) ?_
    rcases hI with ⟨rfl, hI⟩ | ⟨rfl, hI⟩
    · refine br_t rfl (gy_symbol H hr (by decide) (gy_covers hw hw3 hn hz (h8 1) hab (by omega) (fun c => br_f (by decide) ?_) (fun c => br_t rfl (nm_r (nI_1 b) ?_))))
      · refine pk_eq (gm_l g r) 2 (fun e2 => ?_) (fun e2 => ?_)
        · refine pk_eq b j (fun e => nm_r (nI_1 b) ?_) (fun e => nm_r (nI_1 b) ?_)
          · exact ih 1 ⟨by omega, Or.inr ⟨rfl, b, ⟨hab, by omega, c⟩, Or.inl ⟨e2, e⟩⟩⟩
          · refine ih 0 ⟨by omega, Or.inl ⟨rfl, lt_s hI fun z => ?_⟩⟩
            rcases z.2 with y | y
            · exact e y.2
            · omega
        · refine gy_symbol H hr (by decide) (gy_covers hw hw3 hn hz (h8 2) (by omega) hj (fun d => br_f (by decide) (nm_r (nI_1 b) ?_)) (fun d => br_t rfl (nm_r (nI_1 b) ?_)))
          · exact ih 1 ⟨by omega, Or.inr ⟨rfl, b, ⟨hab, by omega, c⟩, Or.inr ⟨by omega, by omega, by omega, d⟩⟩⟩
          · refine ih 0 ⟨by omega, Or.inl ⟨rfl, lt_s hI fun z => ?_⟩⟩
            rcases z.2 with y | y
            · exact e2 y.1
            · exact d y.2.2.2
      · exact ih 0 ⟨by omega, Or.inl ⟨rfl, lt_s hI fun z => c z.1.2.2⟩⟩
    · exact br_f (by decide) (nm_r (nI_1 a) (h1 hI))
theorem gy_nar {x : Int32} (h : x = 0 ∨ x = 1) : narrow .boolean (.int x) = .int x := by
  rcases h with rfl | rfl <;> rfl
theorem gy_fits57 {post : Int32 → Prop} (H : gy_G g th kd lg pt) (hw : ∀ i, i < n → ls i = nI (w i)) (hw3 : ∀ i, w i < 3) (hn : n ≤ 10) (hz : gy_Z md) {r i j : Nat} (hr : r < 16) (h2 : 2 ≤ gm_l g r) (hij : i ≤ j) (hj : j ≤ n)
    (h1 : (∃ a b, gy_B md w n (gm_y g r 0) i a ∧ gy_M g (gy_B md w n) r j a b) → post 1) (h0 : (¬ ∃ a b, gy_B md w n (gm_y g r 0) i a ∧ gy_M g (gy_B md w n) r j a b) → post 0) : ∃ f, wY_fits_57 post (nI r) (nI i) (nI j) (nI (gm_l g r)) sz mn gr th kd lg pt wd ls md le f 0 (nI i) := by
  have h3 := H.1.2.1 r
  have h8 := H.1.2.2 r
  refine pk_loop (fun f a (s : Int32) => wY_fits_57 post (nI r) (nI i) (nI j) (nI (gm_l g r)) sz mn gr th kd lg pt wd ls md le f s (nI a))
    (fun a s => i ≤ a ∧ ((s = 0 ∧ ∀ a', a' < a → ¬ ∃ b, gy_B md w n (gm_y g r 0) i a' ∧ gy_M g (gy_B md w n) r j a' b) ∨ (s = 1 ∧ ∃ a b, gy_B md w n (gm_y g r 0) i a ∧ gy_M g (gy_B md w n) r j a b))) (j + 1) i 0 (by omega) ⟨Nat.le_refl _, Or.inl ⟨rfl, fun a' ha ⟨b, z⟩ => absurd z.1.1 (by omega)⟩⟩ ?_ ?_
  · intro f s ⟨_, hI⟩
    refine br_t (nI_lt (Nat.lt_succ_self j) (by omega)) ?_
    rcases hI with ⟨rfl, hI⟩ | ⟨rfl, hI⟩
    · refine And.intro rfl (h0 fun ⟨a, b, hb⟩ => hI a ?_ ⟨b, hb⟩)
      have z := hb.2.1.1
      rcases hb.2.2 with y | y
      · omega
      · have := y.2.1; omega
    · exact And.intro rfl (h1 hI)
  · intro f a s ha ⟨hia, hI⟩ ih
    refine br_f (nI_nlt (by omega) (by omega)) (br_f (nI_nlt (b := 2) h2 (by omega)) ?_)
    rcases hI with ⟨rfl, hI⟩ | ⟨rfl, hI⟩
    · refine br_t rfl (gy_symbol H hr (by decide) (gy_covers hw hw3 hn hz (h8 0) hia (by omega) (fun c => br_f (by decide) ?_) (fun c => br_t rfl (nm_r (nI_1 a) ?_))))
      · refine gy_fits94 H hw hw3 hn hz hr h2 (by omega) hj (fun ⟨b, z⟩ => ?_) (fun z => ?_)
        · exact ih 1 ⟨by omega, Or.inr ⟨rfl, a, b, ⟨hia, by omega, c⟩, z⟩⟩
        · exact ih 0 ⟨by omega, Or.inl ⟨rfl, lt_s hI fun ⟨b, y⟩ => z ⟨b, y.2⟩⟩⟩
      · exact ih 0 ⟨by omega, Or.inl ⟨rfl, lt_s hI fun ⟨b, y⟩ => c y.1.2.2⟩⟩
    · exact br_f (by decide) (And.intro rfl (h1 hI))
theorem gy_fits {post : Int32 → Prop} (H : gy_G g th kd lg pt) (hw : ∀ i, i < n → ls i = nI (w i)) (hw3 : ∀ i, w i < 3) (hn : n ≤ 10) (hz : gy_Z md) {r i j : Nat} (hr : r < 16) (hij : i ≤ j) (hj : j ≤ n)
    (h1 : gm_q g (gy_B md w n) r (gm_l g r) i j → post 1) (h0 : ¬ gm_q g (gy_B md w n) r (gm_l g r) i j → post 0) : wpY_fits post (sz, mn, gr, th, kd, lg, pt, wd, ls, md, le) (nI r) (nI i) (nI j) := by
  have h3 := H.1.2.1 r
  have h8 := H.1.2.2 r
  refine And.intro (gx_in hr (by decide)) (nm_r (e' := nI (gm_l g r)) (by rw [gx_cl (by omega)]; exact H.2.2.2.1 r) ?_)
  have out : ∀ x : Int32, gm_l g r < 2 → (x = 0 ∨ x = 1) → post x → ∃ f, wY_fits_57 post (nI r) (nI i) (nI j) (nI (gm_l g r)) sz mn gr th kd lg pt wd ls md le f x (nI i) := fun x hl hx hp =>
    ⟨1, br_f (nI_nlt hij (by omega)) (br_t (nI_lt (b := 2) hl (by omega)) (And.intro (gy_nar hx) hp))⟩
  refine pk_eq (gm_l g r) 0 (fun e => ?_) (fun e => ?_)
  · rw [e] at h1 h0
    refine pk_eq i j (fun e2 => ?_) (fun e2 => ?_)
    · exact out 1 (by omega) (Or.inr rfl) (h1 e2)
    · exact out 0 (by omega) (Or.inl rfl) (h0 e2)
  · refine pk_eq (gm_l g r) 1 (fun e1 => ?_) (fun e1 => ?_)
    · rw [e1, gm_q1] at h1 h0
      refine gy_symbol H hr (by decide) (gy_covers hw hw3 hn hz (h8 0) hij hj (fun c => br_f (by decide) ?_) (fun c => br_t rfl ?_))
      · exact out 1 (by omega) (Or.inr rfl) (h1 ⟨hij, hj, c⟩)
      · exact out 0 (by omega) (Or.inl rfl) (h0 fun z => c z.2.2)
    · rw [gy_qM h3 (by omega)] at h1 h0
      exact gy_fits57 H hw hw3 hn hz hr (by omega) hij hj h1 h0
end ybase

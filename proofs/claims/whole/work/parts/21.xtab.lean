/-! X on a table: pairFits, fits, kindsFitting -/
section xtab_found
variable {rs wl az : Int32} {rk rl ry wd fd fo sg st re ag li fw bg le ls : Nat → Int32} {g : gm_G} {n : Nat}
theorem gx_pairFits_found {post : Int32 → Prop} (hn : n ≤ 10) {a b i j : Nat} (ha : a < 8) (hb : b < 8) (hij : i ≤ j) (hj : j ≤ n) (h1 : (∃ m, gt_T fd n a i m ∧ gt_T fd n b m j) → post 1) (h0 : (¬ ∃ m, gt_T fd n a i m ∧ gt_T fd n b m j) → post 0) : wpX_pairFits__found post (rs, wl, az, rk, rl, ry, wd, fd, fo, sg, st, re, ag, li, fw, bg, le, ls) (nI a) (nI b) (nI i) (nI j) := by
  refine pk_loop (fun f m (_ : Unit) => wX_pairFits__found_3 post (nI a) (nI b) (nI i) (nI j) rs wl az rk rl ry wd fd fo sg st re ag li fw bg le ls f (nI m)) (fun m _ => i ≤ m ∧ ∀ m', m' < m → ¬ (gt_T fd n a i m' ∧ gt_T fd n b m' j)) (j + 1) i () (by omega) ⟨Nat.le_refl _, fun m' hm z => absurd z.1.1 (by omega)⟩ ?_ ?_
  · intro f _ ⟨_, hI⟩
    exact br_t (nI_lt (Nat.lt_succ_self j) (by omega)) (h0 fun ⟨m, z⟩ => hI m (by have := z.2.1; omega) z)
  · intro f m _ hm ⟨him, hI⟩ ih
    refine br_f (nI_nlt (by omega) (by omega)) ?_
    rw [gx_c11, gx_c11, gx_cl (by omega), gx_cl (by omega)]
    refine And.intro (gx_in (by omega) (by decide)) (And.intro (gx_in (by omega) (by decide)) (nm_e ?_))
    rw [gb_and1, b_and, b_sshr a (by omega) _ (by decide : (0 : Nat) < 32), b_sshr b (by omega) _ (by decide : (0 : Nat) < 32), if_pos (by omega), if_pos (by omega), Nat.add_zero, Nat.add_zero]
    refine br_c (fun z => nm_r (nI_1 m) (ih () ⟨by omega, lt_s hI fun y => ?_⟩)) (fun z => h1 ⟨m, ?_⟩)
    · rw [y.1.2.2, y.2.2.2] at z
      exact absurd z (by decide)
    · have y := ts_nf z
      rw [Bool.and_eq_true] at y
      exact ⟨⟨him, by omega, y.1⟩, ⟨by omega, hj, y.2⟩⟩
theorem gx_fits105_found {post : Int32 → Prop} (hn : n ≤ 10) {a b c i j : Nat} (ha : a < 8) (hb : b < 8) (hc : c < 8) (hij : i ≤ j) (hj : j ≤ n) (h1 : (∃ m m', gt_T fd n a i m ∧ gt_T fd n b m m' ∧ gt_T fd n c m' j) → post 1) (h0 : (¬ ∃ m m', gt_T fd n a i m ∧ gt_T fd n b m m' ∧ gt_T fd n c m' j) → post 0) : ∃ f, wX_fits__found_105 post (nI i) (nI j) (nI a) (nI b) (nI c) rs wl az rk rl ry wd fd fo sg st re ag li fw bg le ls f (nI i) := by
  refine pk_loop (fun f m (_ : Unit) => wX_fits__found_105 post (nI i) (nI j) (nI a) (nI b) (nI c) rs wl az rk rl ry wd fd fo sg st re ag li fw bg le ls f (nI m)) (fun m _ => i ≤ m ∧ ∀ x, x < m → ¬ ∃ m', gt_T fd n a i x ∧ gt_T fd n b x m' ∧ gt_T fd n c m' j) (j + 1) i () (by omega) ⟨Nat.le_refl _, fun m' hm ⟨_, z⟩ => absurd z.1.1 (by omega)⟩ ?_ ?_
  · intro f _ ⟨_, hI⟩
    exact br_t (nI_lt (Nat.lt_succ_self j) (by omega)) (h0 fun ⟨m, m', z⟩ => hI m (by have := z.2.1.1; have := z.2.2.1; omega) ⟨m', z⟩)
  · intro f m _ hm ⟨him, hI⟩ ih
    refine br_f (nI_nlt (by omega) (by omega)) ?_
    rw [gx_c11, gx_cl (by omega)]
    refine And.intro (gx_in (by omega) (by decide)) (gx_bit (by omega) (fun y => br_f (by decide) (gx_pairFits_found hn hb hc (by omega) hj (fun ⟨m', z⟩ => br_f (by decide) (h1 ⟨m, m', ⟨him, by omega, y⟩, z⟩)) (fun z => br_t rfl (nm_r (nI_1 m) (ih () ⟨by omega, lt_s hI fun ⟨m', x⟩ => z ⟨m', x.2⟩⟩))))) (fun y => br_t rfl (nm_r (nI_1 m) (ih () ⟨by omega, lt_s hI fun ⟨m', x⟩ => ?_⟩))))
    rw [x.1.2.2] at y
    exact absurd y (by decide)
theorem gx_fits_found {post : Int32 → Prop} (H : gx_G g rs rk rl ry) (hn : n ≤ 10) {r i j : Nat} (hr : r < 16) (hij : i ≤ j) (hj : j ≤ n) (h1 : gm_q g (gt_T fd n) r (gm_l g r) i j → post 1) (h0 : ¬ gm_q g (gt_T fd n) r (gm_l g r) i j → post 0) : wpX_fits__found post (rs, wl, az, rk, rl, ry, wd, fd, fo, sg, st, re, ag, li, fw, bg, le, ls) (nI r) (nI i) (nI j) := by
  have h3 := H.1.2.1 r
  have h8 := H.1.2.2 r
  unfold wpX_fits__found
  refine gx_symbolAt H hr (d := 0) (by decide) (gx_symbolAt H hr (d := 1) (by decide) (gx_symbolAt H hr (d := 2) (by decide) (And.intro (gx_in hr (by decide)) (nm_r (gx_Gl H hr) ?_))))
  refine br_f (nI_pos (by omega)) (pk_lt 2 (gm_l g r) (fun hl => ?_) (fun hl => ?_))
  · have e : gm_l g r = 3 := by omega
    rw [e, gm_q3] at h1 h0
    exact gx_fits105_found hn (h8 0) (h8 1) (h8 2) hij hj h1 h0
  · refine pk_eq (gm_l g r) 0 (fun e => ?_) (fun e => ?_)
    · rw [e] at h1 h0
      exact pk_eq i j h1 h0
    · refine pk_eq (gm_l g r) 1 (fun e1 => ?_) (fun e1 => ?_)
      · rw [e1, gm_q1] at h1 h0
        rw [gx_c11, gx_cl (by omega)]
        have := h8 0
        refine And.intro (gx_in (by omega) (by decide)) (gx_bit (by omega) (fun y => h1 ⟨hij, hj, y⟩) (fun y => h0 fun z => ?_))
        rw [z.2.2] at y
        exact absurd y (by decide)
      · have e2 : gm_l g r = 2 := by omega
        refine pk_eq (gm_l g r) 2 (fun _ => ?_) (fun z => absurd e2 z)
        rw [e2, gm_q2] at h1 h0
        exact gx_pairFits_found hn (h8 0) (h8 1) hij hj (fun z => And.intro rfl (h1 z)) (fun z => And.intro rfl (h0 z))
theorem gx_kindsFitting_found {post : Int32 → Prop} (H : gx_G g rs rk rl ry) (hn : n ≤ 10) {i j : Nat} (hij : i ≤ j) (hj : j ≤ n) (h : ∀ e, (∀ s, bt e s = true ↔ ∃ r, r < 16 ∧ gm_p g r = true ∧ gm_q g (gt_T fd n) r (gm_l g r) i j ∧ s = gm_k g r) → post e) : wpX_kindsFitting__found post (rs, wl, az, rk, rl, ry, wd, fd, fo, sg, st, re, ag, li, fw, bg, le, ls) (nI i) (nI j) := by
  refine pk_loop (fun f r (a : Int32) => wX_kindsFitting__found_6 post (nI i) (nI j) rs wl az rk rl ry wd fd fo sg st re ag li fw bg le ls f a (nI r)) (fun r a => ∀ s, bt a s = true ↔ ∃ c, c < r ∧ gm_p g c = true ∧ gm_q g (gt_T fd n) c (gm_l g c) i j ∧ s = gm_k g c) 16 0 0 (by omega) (fun s => by rw [b_0]; exact ⟨fun z => absurd z (by decide), fun ⟨c, z, _⟩ => absurd z (by omega)⟩) ?_ ?_
  · intro f a hI
    exact br_t (nI_le (Nat.le_refl _) (by decide)) (h a hI)
  · intro f r a hr hI ih
    have hk := H.1.1 r
    have hno : (gm_p g r = true → ¬ gm_q g (gt_T fd n) r (gm_l g r) i j) → ∀ s, bt a s = true ↔ ∃ c, c < r + 1 ∧ gm_p g c = true ∧ gm_q g (gt_T fd n) c (gm_l g c) i j ∧ s = gm_k g c := by
      intro hq s
      rw [hI s]
      constructor
      · intro ⟨c, z, y⟩
        exact ⟨c, by omega, y⟩
      · intro ⟨c, z, y⟩
        by_cases e : c = r
        · subst e; exact absurd y.2.1 (hq y.1)
        · exact ⟨c, by omega, y⟩
    refine br_f (nI_ge hr (by decide)) (gx_hasRule H hr (fun hp => br_f (by decide) (gx_fits_found H hn hr hij hj (fun hq => br_f (by decide) (And.intro (gx_in hr (by decide)) (nm_r (e' := a ||| ((1 : Int32) <<< (nI (gm_k g r) &&& 31))) (by rw [gx_Gk H hr]) (nm_r (nI_1 r) (ih _ fun s => ?_))))) (fun hq => br_t rfl (nm_r (nI_1 r) (ih _ (hno fun _ => hq)))))) (fun hp => br_t rfl (nm_r (nI_1 r) (ih _ (hno fun z => by rw [z] at hp; exact absurd hp (by decide))))))
    rw [gb_add a (by omega), hI s]
    constructor
    · intro z
      rcases z with ⟨c, z, y⟩ | z
      · exact ⟨c, by omega, y⟩
      · exact ⟨r, by omega, hp, hq, z⟩
    · intro ⟨c, z, y⟩
      by_cases e : c = r
      · subst e; exact Or.inr y.2.2
      · exact Or.inl ⟨c, by omega, y⟩
end xtab_found

/-! X on a table: pairFits, fits, kindsFitting -/
section xtab_foundByOther
variable {rs wl az : Int32} {rk rl ry wd fd fo sg st re ag li fw bg le ls : Nat → Int32} {g : gm_G} {n : Nat}
theorem gx_pairFits_foundByOther {post : Int32 → Prop} (hn : n ≤ 10) {a b i j : Nat} (ha : a < 8) (hb : b < 8) (hij : i ≤ j) (hj : j ≤ n) (h1 : (∃ m, gt_T fo n a i m ∧ gt_T fo n b m j) → post 1) (h0 : (¬ ∃ m, gt_T fo n a i m ∧ gt_T fo n b m j) → post 0) : wpX_pairFits__foundByOther post (rs, wl, az, rk, rl, ry, wd, fd, fo, sg, st, re, ag, li, fw, bg, le, ls) (nI a) (nI b) (nI i) (nI j) := by
  refine pk_loop (fun f m (_ : Unit) => wX_pairFits__foundByOther_3 post (nI a) (nI b) (nI i) (nI j) rs wl az rk rl ry wd fd fo sg st re ag li fw bg le ls f (nI m)) (fun m _ => i ≤ m ∧ ∀ m', m' < m → ¬ (gt_T fo n a i m' ∧ gt_T fo n b m' j)) (j + 1) i () (by omega) ⟨Nat.le_refl _, fun m' hm z => absurd z.1.1 (by omega)⟩ ?_ ?_
  · intro f _ ⟨_, hI⟩
    exact br_t (nI_lt (Nat.lt_succ_self j) (by omega)) (h0 fun ⟨m, z⟩ => hI m (by have := z.2.1; omega) z)
  · intro f m _ hm ⟨him, hI⟩ ih
    refine br_f (nI_nlt (by omega) (by omega)) ?_
    rw [gx_c11, gx_c11, gx_cl (by omega), gx_cl (by omega)]
    refine And.intro (gx_in (by omega) (by decide)) (And.intro (gx_in (by omega) (by decide)) (nm_e ?_))
    rw [gb_and1, b_and, b_sshr a (by omega) _ (by decide : (0 : Nat) < 32), b_sshr b (by omega) _ (by decide : (0 : Nat) < 32), if_pos (by omega), if_pos (by omega), Nat.add_zero, Nat.add_zero]
    refine br_c (fun z => nm_r (nI_1 m) (ih () ⟨by omega, lt_s hI fun y => ?_⟩)) (fun z => h1 ⟨m, ?_⟩)
    · rw [y.1.2.2, y.2.2.2] at z
      exact absurd z (by decide)
    · have y := ts_nf z
      rw [Bool.and_eq_true] at y
      exact ⟨⟨him, by omega, y.1⟩, ⟨by omega, hj, y.2⟩⟩
theorem gx_fits105_foundByOther {post : Int32 → Prop} (hn : n ≤ 10) {a b c i j : Nat} (ha : a < 8) (hb : b < 8) (hc : c < 8) (hij : i ≤ j) (hj : j ≤ n) (h1 : (∃ m m', gt_T fo n a i m ∧ gt_T fo n b m m' ∧ gt_T fo n c m' j) → post 1) (h0 : (¬ ∃ m m', gt_T fo n a i m ∧ gt_T fo n b m m' ∧ gt_T fo n c m' j) → post 0) : ∃ f, wX_fits__foundByOther_105 post (nI i) (nI j) (nI a) (nI b) (nI c) rs wl az rk rl ry wd fd fo sg st re ag li fw bg le ls f (nI i) := by
  refine pk_loop (fun f m (_ : Unit) => wX_fits__foundByOther_105 post (nI i) (nI j) (nI a) (nI b) (nI c) rs wl az rk rl ry wd fd fo sg st re ag li fw bg le ls f (nI m)) (fun m _ => i ≤ m ∧ ∀ x, x < m → ¬ ∃ m', gt_T fo n a i x ∧ gt_T fo n b x m' ∧ gt_T fo n c m' j) (j + 1) i () (by omega) ⟨Nat.le_refl _, fun m' hm ⟨_, z⟩ => absurd z.1.1 (by omega)⟩ ?_ ?_
  · intro f _ ⟨_, hI⟩
    exact br_t (nI_lt (Nat.lt_succ_self j) (by omega)) (h0 fun ⟨m, m', z⟩ => hI m (by have := z.2.1.1; have := z.2.2.1; omega) ⟨m', z⟩)
  · intro f m _ hm ⟨him, hI⟩ ih
    refine br_f (nI_nlt (by omega) (by omega)) ?_
    rw [gx_c11, gx_cl (by omega)]
    refine And.intro (gx_in (by omega) (by decide)) (gx_bit (by omega) (fun y => br_f (by decide) (gx_pairFits_foundByOther hn hb hc (by omega) hj (fun ⟨m', z⟩ => br_f (by decide) (h1 ⟨m, m', ⟨him, by omega, y⟩, z⟩)) (fun z => br_t rfl (nm_r (nI_1 m) (ih () ⟨by omega, lt_s hI fun ⟨m', x⟩ => z ⟨m', x.2⟩⟩))))) (fun y => br_t rfl (nm_r (nI_1 m) (ih () ⟨by omega, lt_s hI fun ⟨m', x⟩ => ?_⟩))))
    rw [x.1.2.2] at y
    exact absurd y (by decide)
theorem gx_fits_foundByOther {post : Int32 → Prop} (H : gx_G g rs rk rl ry) (hn : n ≤ 10) {r i j : Nat} (hr : r < 16) (hij : i ≤ j) (hj : j ≤ n) (h1 : gm_q g (gt_T fo n) r (gm_l g r) i j → post 1) (h0 : ¬ gm_q g (gt_T fo n) r (gm_l g r) i j → post 0) : wpX_fits__foundByOther post (rs, wl, az, rk, rl, ry, wd, fd, fo, sg, st, re, ag, li, fw, bg, le, ls) (nI r) (nI i) (nI j) := by
  have h3 := H.1.2.1 r
  have h8 := H.1.2.2 r
  unfold wpX_fits__foundByOther
  refine gx_symbolAt H hr (d := 0) (by decide) (gx_symbolAt H hr (d := 1) (by decide) (gx_symbolAt H hr (d := 2) (by decide) (And.intro (gx_in hr (by decide)) (nm_r (gx_Gl H hr) ?_))))
  refine br_f (nI_pos (by omega)) (pk_lt 2 (gm_l g r) (fun hl => ?_) (fun hl => ?_))
  · have e : gm_l g r = 3 := by omega
    rw [e, gm_q3] at h1 h0
    exact gx_fits105_foundByOther hn (h8 0) (h8 1) (h8 2) hij hj h1 h0
  · refine pk_eq (gm_l g r) 0 (fun e => ?_) (fun e => ?_)
    · rw [e] at h1 h0
      exact pk_eq i j h1 h0
    · refine pk_eq (gm_l g r) 1 (fun e1 => ?_) (fun e1 => ?_)
      · rw [e1, gm_q1] at h1 h0
        rw [gx_c11, gx_cl (by omega)]
        have := h8 0
        refine And.intro (gx_in (by omega) (by decide)) (gx_bit (by omega) (fun y => h1 ⟨hij, hj, y⟩) (fun y => h0 fun z => ?_))
        rw [z.2.2] at y
        exact absurd y (by decide)
      · have e2 : gm_l g r = 2 := by omega
        refine pk_eq (gm_l g r) 2 (fun _ => ?_) (fun z => absurd e2 z)
        rw [e2, gm_q2] at h1 h0
        exact gx_pairFits_foundByOther hn (h8 0) (h8 1) hij hj (fun z => And.intro rfl (h1 z)) (fun z => And.intro rfl (h0 z))
theorem gx_kindsFitting_foundByOther {post : Int32 → Prop} (H : gx_G g rs rk rl ry) (hn : n ≤ 10) {i j : Nat} (hij : i ≤ j) (hj : j ≤ n) (h : ∀ e, (∀ s, bt e s = true ↔ ∃ r, r < 16 ∧ gm_p g r = true ∧ gm_q g (gt_T fo n) r (gm_l g r) i j ∧ s = gm_k g r) → post e) : wpX_kindsFitting__foundByOther post (rs, wl, az, rk, rl, ry, wd, fd, fo, sg, st, re, ag, li, fw, bg, le, ls) (nI i) (nI j) := by
  refine pk_loop (fun f r (a : Int32) => wX_kindsFitting__foundByOther_6 post (nI i) (nI j) rs wl az rk rl ry wd fd fo sg st re ag li fw bg le ls f a (nI r)) (fun r a => ∀ s, bt a s = true ↔ ∃ c, c < r ∧ gm_p g c = true ∧ gm_q g (gt_T fo n) c (gm_l g c) i j ∧ s = gm_k g c) 16 0 0 (by omega) (fun s => by rw [b_0]; exact ⟨fun z => absurd z (by decide), fun ⟨c, z, _⟩ => absurd z (by omega)⟩) ?_ ?_
  · intro f a hI
    exact br_t (nI_le (Nat.le_refl _) (by decide)) (h a hI)
  · intro f r a hr hI ih
    have hk := H.1.1 r
    have hno : (gm_p g r = true → ¬ gm_q g (gt_T fo n) r (gm_l g r) i j) → ∀ s, bt a s = true ↔ ∃ c, c < r + 1 ∧ gm_p g c = true ∧ gm_q g (gt_T fo n) c (gm_l g c) i j ∧ s = gm_k g c := by
      intro hq s
      rw [hI s]
      constructor
      · intro ⟨c, z, y⟩
        exact ⟨c, by omega, y⟩
      · intro ⟨c, z, y⟩
        by_cases e : c = r
        · subst e; exact absurd y.2.1 (hq y.1)
        · exact ⟨c, by omega, y⟩
    refine br_f (nI_ge hr (by decide)) (gx_hasRule H hr (fun hp => br_f (by decide) (gx_fits_foundByOther H hn hr hij hj (fun hq => br_f (by decide) (And.intro (gx_in hr (by decide)) (nm_r (e' := a ||| ((1 : Int32) <<< (nI (gm_k g r) &&& 31))) (by rw [gx_Gk H hr]) (nm_r (nI_1 r) (ih _ fun s => ?_))))) (fun hq => br_t rfl (nm_r (nI_1 r) (ih _ (hno fun _ => hq)))))) (fun hp => br_t rfl (nm_r (nI_1 r) (ih _ (hno fun z => by rw [z] at hp; exact absurd hp (by decide))))))
    rw [gb_add a (by omega), hI s]
    constructor
    · intro z
      rcases z with ⟨c, z, y⟩ | z
      · exact ⟨c, by omega, y⟩
      · exact ⟨r, by omega, hp, hq, z⟩
    · intro ⟨c, z, y⟩
      by_cases e : c = r
      · subst e; exact Or.inr y.2.2
      · exact Or.inl ⟨c, by omega, y⟩
end xtab_foundByOther

/-! count: the c-th list of n letters has the letters c / 3^i % 3 -/
def gk_w (c i : Nat) : Nat := c / 3 ^ i % 3
theorem gk_3 (c i : Nat) : gk_w c i < 3 := Nat.mod_lt _ (by decide)
theorem gk_d (c d : Nat) : c / 3 ^ d / 3 = c / 3 ^ (d + 1) := by rw [Nat.div_div_eq_div_mul, Nat.pow_succ]
noncomputable def gk_n (g : gm_G) (k n c : Nat) : Nat := gc_n (fun x => gm_mk g (gk_w x) n k 0 n) c
theorem gk_1 {g : gm_G} {k n c : Nat} (h : gm_mk g (gk_w c) n k 0 n) : gk_n g k n (c + 1) = gk_n g k n c + 1 := by
  unfold gk_n
  simp only [gc_n]
  rw [gc_b_t h]
theorem gk_0 {g : gm_G} {k n c : Nat} (h : ¬ gm_mk g (gk_w c) n k 0 n) : gk_n g k n (c + 1) = gk_n g k n c := by
  unfold gk_n
  simp only [gc_n]
  rw [gc_b_f h, Nat.add_zero]
theorem gk_81 {n : Nat} (h : n ≤ 4) : 3 ^ n ≤ 81 := Nat.pow_le_pow_right (by decide) h (n := 3)
section xcount
variable {rs wl az : Int32} {rk rl ry wd fd fo sg st re ag li fw bg le ls : Nat → Int32} {g : gm_G} {n : Nat}
theorem gx_spell {post : SX → Prop} {c : Nat} (hc : c < 100000) (hn : n ≤ 4) (h : ∀ ls', (∀ i, i < n → ls' i = nI (gk_w c i)) → post (rs, wl, az, rk, rl, ry, wd, fd, fo, sg, st, re, ag, li, fw, bg, le, ls')) : wpX_spell post (rs, wl, az, rk, rl, ry, wd, fd, fo, sg, st, re, ag, li, fw, bg, le, ls) (nI c) (nI n) := by
  refine pk_loop (fun f d (u : Int32 × (Nat → Int32)) => wX_spell_5 post (nI n) rs wl az f u.1 (nI d) rk rl ry wd fd fo sg st re ag li fw bg le u.2) (fun d u => u.1 = nI (c / 3 ^ d) ∧ ∀ i, i < d → u.2 i = nI (gk_w c i)) n 0 (nI c, ls) (by omega) ⟨by rw [Nat.pow_zero, Nat.div_one], lt_0⟩ ?_ ?_
  · intro f u ⟨_, hI⟩
    exact br_t (nI_le (Nat.le_refl _) (by omega)) (h u.2 hI)
  · intro f d ⟨x, l⟩ hd ⟨hx, hI⟩ ih
    have hx : x = nI (c / 3 ^ d) := hx
    subst hx
    have hI : ∀ i, i < d → l i = nI (gk_w c i) := hI
    have hq : c / 3 ^ d ≤ c := Nat.div_le_self _ _
    have d1 : nI (c / 3 ^ d) - nI (c / 3 ^ d) / 3 * 3 = nI (gk_w c d) := pk_rem (d := 3) (by omega) (by decide) (by decide)
    have d2 : nI (c / 3 ^ d) / 3 = nI (c / 3 ^ (d + 1)) := (pk_div (d := 3) (by omega) (by decide) (by decide)).trans (congrArg nI (gk_d c d))
    refine br_f (nI_ge hd (by omega)) (And.intro (by decide) (And.intro (gx_in (by omega) (by decide)) (nm_r (e' := upd l d (nI (gk_w c d))) (by rw [gx_cl (n := d) (by omega)]; exact congrArg (upd l d) d1) (And.intro (by decide) (nm_r d2 (nm_r (nI_1 d) (ih (nI (c / 3 ^ (d + 1)), upd l d (nI (gk_w c d))) ⟨rfl, fun i hi => ?_⟩)))))))
    show upd l d _ i = _
    rw [gb_u]
    split
    · rename_i e; rw [e]
    · exact hI i (by omega)
theorem gx_count23 {post : Int32 → SX → Prop} (H : gx_G g rs rk rl ry) {k : Nat} (hk : k < 5) (hn : n ≤ 4) (h : ∀ fd' sg' ls', post (nI (gk_n g k n (3 ^ n))) (rs, wl, az, rk, rl, ry, wd, fd', fo, sg', st, re, ag, li, fw, bg, le, ls')) : ∃ f, wX_count_23 post (nI k) (nI n) rs wl az rk rl ry wd fd fo sg st re ag li fw bg le ls f 1 0 := by
  refine pk_loop (fun f d (x : Int32) => wX_count_23 post (nI k) (nI n) rs wl az rk rl ry wd fd fo sg st re ag li fw bg le ls f x (nI d)) (fun d x => x = nI (3 ^ d)) n 0 1 (by omega) rfl ?_ ?_
  · intro f x hx
    subst hx
    have h81 := gk_81 hn
    refine br_t (nI_le (Nat.le_refl _) (by omega)) ?_
    refine pk_loop (fun f c (u : (Nat → Int32) × (Nat → Int32) × (Nat → Int32)) => wX_count_45 post (nI k) (nI n) (nI (3 ^ n)) f (nI (gk_n g k n c)) (nI c) rs wl az rk rl ry wd u.1 fo u.2.1 st re ag li fw bg le u.2.2) (fun _ _ => True) (3 ^ n) 0 (fd, sg, ls) (Nat.zero_le _) trivial ?_ ?_
    · intro f2 u _
      exact br_t (nI_le (Nat.le_refl _) (by omega)) (h u.1 u.2.1 u.2.2)
    · intro f2 c u hc _ ih
      refine br_f (nI_ge hc (by omega)) (gx_spell (by omega) hn fun ls' hl => gx_byLength_list_found H hl (gk_3 c) hn fun t sg' ok => And.intro (gx_in (by omega) (by decide)) ?_)
      rw [gx_cl (by omega), gb_val _ (by omega)]
      have e0 : 0 * 11 + n = n := by omega
      have z := ok k 0 n
      unfold gt_T at z
      rw [e0] at z
      by_cases hb : bt (t n) k = true
      · have y := z.mp ⟨by omega, by omega, hb⟩
        rw [if_pos hb]
        exact nm_r (e' := nI (gk_n g k n (c + 1))) (by rw [gk_1 y, nI_1]) (nm_r (nI_1 c) (ih (t, sg', ls') trivial))
      · rw [if_neg hb]
        exact nm_r (e' := nI (gk_n g k n (c + 1))) (by rw [gk_0 fun y => hb (z.mpr y).2.2, Int32.add_zero]) (nm_r (nI_1 c) (ih (t, sg', ls') trivial))
  · intro f d x hd hx ih
    subst hx
    exact br_f (nI_ge hd (by omega)) (nm_r (e' := nI (3 ^ (d + 1))) (by rw [Nat.pow_succ]; exact pk_mul (3 ^ d) 3) (nm_r (nI_1 d) (ih _ rfl)))
end xcount
section ycount
variable {sz mn gr : Int32} {th kd lg pt wd ls md le : Nat → Int32} {g : gm_G} {n : Nat}
theorem gy_count65 {post : Int32 → SY → Prop} (H : gy_G g th kd lg pt) {k : Nat} (hk : k < 5) (hn : n ≤ 4) (h : ∀ mn' gr' ls' md', post (nI (gk_n g k n (3 ^ n))) (sz, mn', gr', th, kd, lg, pt, wd, ls', md', le)) : ∃ f, wY_count_65 post (nI k) (nI n) (nI (3 ^ n)) f 0 0 sz mn gr th kd lg pt wd ls md le := by
  have h81 := gk_81 hn
  refine pk_loop (fun f c (u : Int32 × Int32 × (Nat → Int32) × (Nat → Int32)) => wY_count_65 post (nI k) (nI n) (nI (3 ^ n)) f (nI (gk_n g k n c)) (nI c) sz u.1 u.2.1 th kd lg pt wd u.2.2.1 u.2.2.2 le) (fun _ _ => True) (3 ^ n) 0 (mn, gr, ls, md) (Nat.zero_le _) trivial ?_ ?_
  · intro f u _
    exact br_t (nI_le (Nat.le_refl _) (by omega)) (h u.1 u.2.1 u.2.2.1 u.2.2.2)
  · intro f c u hc _ ih
    refine br_f (nI_ge hc (by omega)) ?_
    refine pk_loop (fun f2 d (v : Int32 × (Nat → Int32)) => wY_count_83 post (wY_count_65 post (nI k) (nI n) (nI (3 ^ n)) f) (nI k) (nI n) (nI (3 ^ n)) (nI (gk_n g k n c)) (nI c) sz (nI n) u.2.1 f2 v.1 (nI d) th kd lg pt wd v.2 u.2.2.2 le) (fun d v => v.1 = nI (c / 3 ^ d) ∧ ∀ i, i < d → v.2 i = nI (gk_w c i)) n 0 (nI c, u.2.2.1) (by omega) ⟨by rw [Nat.pow_zero, Nat.div_one], lt_0⟩ ?_ ?_
    · intro f2 v ⟨_, hI⟩
      refine br_t (nI_le (Nat.le_refl _) (by omega)) (gy_grow H hI (gk_3 c) (by omega) fun md' hz ok => ?_)
      refine gy_covers (i := 0) (j := n) hI (gk_3 c) (by omega) hz (by omega) (by omega) (Nat.le_refl _) (fun D => br_f gx_10 (nm_r (e' := nI (gk_n g k n (c + 1))) ?_ (nm_r (nI_1 c) (ih (nI n, 0, v.2, md') trivial)))) (fun D => br_t rfl (nm_r (nI_1 c) ?_))
      · rw [gk_1 ((gy_Dk hk (by omega) ok (Nat.zero_le _) (Nat.le_refl _)).mp D), nI_1]
      · have e := gk_0 (g := g) (k := k) (n := n) (c := c) fun y => D ((gy_Dk hk (by omega) ok (Nat.zero_le _) (Nat.le_refl _)).mpr y)
        rw [← e]
        exact ih (nI n, 0, v.2, md') trivial
    · intro f2 d ⟨x, l⟩ hd ⟨hx, hI⟩ ih2
      have hx : x = nI (c / 3 ^ d) := hx
      subst hx
      have hI : ∀ i, i < d → l i = nI (gk_w c i) := hI
      have hq : c / 3 ^ d ≤ c := Nat.div_le_self _ _
      have d1 : nI (c / 3 ^ d) - nI (c / 3 ^ d) / 3 * 3 = nI (gk_w c d) := pk_rem (d := 3) (by omega) (by decide) (by decide)
      have d2 : nI (c / 3 ^ d) / 3 = nI (c / 3 ^ (d + 1)) := (pk_div (d := 3) (by omega) (by decide) (by decide)).trans (congrArg nI (gk_d c d))
      refine br_f (nI_ge hd (by omega)) (And.intro (by decide) (And.intro (gx_in (by omega) (by decide)) (nm_r (e' := upd l d (nI (gk_w c d))) (by rw [gx_cl (n := d) (by omega)]; exact congrArg (upd l d) d1) (And.intro (by decide) (nm_r d2 (nm_r (nI_1 d) (ih2 (nI (c / 3 ^ (d + 1)), upd l d (nI (gk_w c d))) ⟨rfl, fun i hi => ?_⟩)))))))
      show upd l d _ i = _
      rw [gb_u]
      split
      · rename_i e; rw [e]
      · exact hI i (by omega)
end ycount
theorem i_vc_count {k : Nat} {u : SX} {v : SY} (I : i_Rel k u v) (hk : k + 5 ≤ 2560) (v1 : Int32) (v2 : Int32) : wpX_count (fun r u' => wpY_count (fun r' v' => r' = r ∧ i_Rel (k + 5) u' v') v v1 v2) u v1 v2 := by
  obtain ⟨rs, wl, az, rk, rl, ry, wd, fd, fo, sg, st, re, ag, li, fw, bg, le, ls⟩ := u
  obtain ⟨sz, mn, gr, th, kd, lg, pt, wy, lsy, md, ley⟩ := v
  obtain ⟨rfl, rfl, rfl, rfl, rfl, I⟩ := I
  obtain ⟨g, w, n, HX, HY, hw, hw3, hn, e, _⟩ := gx_data I
  unfold wpX_count wpY_count
  by_cases h1 : v1 < 0 ∨ nI 5 ≤ v1
  · exact gx_kind0 h1 (br_t rfl (gy_kind0 h1 (br_t rfl ⟨rfl, rfl, rfl, rfl, rfl, rfl, I⟩)))
  · obtain ⟨a, ha, rfl⟩ : ∃ c, c < 5 ∧ v1 = nI c := by
      rcases pk_ix v1 (n := 5) (by decide) with z | z | z
      · exact absurd (Or.inl z) h1
      · exact absurd (Or.inr z) h1
      · exact z
    refine gx_kind1 ha (br_f gx_10 ?_)
    rcases pk_ix v2 (n := 5) (by decide) with z | z | ⟨m, hm, rfl⟩
    · exact br_t z (gy_kind1 ha (br_f gx_10 (br_t z ⟨rfl, rfl, rfl, rfl, rfl, rfl, I⟩)))
    · have y := gx_ge z (by decide)
      exact br_f y.2.2.2 (br_f y.1 (gy_kind1 ha (br_f gx_10 (br_f y.2.2.2 (br_f y.1 ⟨rfl, rfl, rfl, rfl, rfl, rfl, I⟩)))))
    · have y0 : ¬ nI m < 0 := nI_pos (by omega)
      have y1 : nI m ≤ 4 := nI_le (b := 4) (by omega) (by decide)
      refine br_f y0 (br_t y1 (gx_count23 HX ha (by omega) fun fd' sg' ls' => gy_kind1 ha (br_f gx_10 (br_f y0 (br_t y1 ?_)))))
      have main := gy_count65 (post := fun r' v' => r' = nI (gk_n g a m (3 ^ m)) ∧ i_Rel (k + 5) (rs, wl, az, rk, rl, ry, wd, fd', fo, sg', st, re, ag, li, fw, bg, le, ls') v') (sz := wl) (mn := mn) (gr := gr) (wd := wd) (ls := lsy) (md := md) (le := ley) HY ha (n := m) (by omega) fun mn' gr' ls' md' => ⟨rfl, rfl, rfl, rfl, rfl, rfl, I⟩
      refine pk_eq m 0 (fun e => ?_) (fun e0 => pk_eq m 1 (fun e => ?_) (fun e1 => pk_eq m 2 (fun e => ?_) (fun e2 => pk_eq m 3 (fun e => ?_) (fun e3 => ?_))))
      · subst e; exact main
      · subst e; exact main
      · subst e; exact main
      · subst e; exact main
      · have e : m = 4 := by omega
        subst e; exact main

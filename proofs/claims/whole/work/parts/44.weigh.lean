/-! empty, able, shortest -/
theorem gw_vle (g : gm_G) (c s : Nat) : gw_v 1 (gw_i g 1 c) s ≤ 100000 := by
  unfold gw_v
  split
  · exact gw_top g 1 c s
  · omega
theorem gw_ule (g : gm_G) (c r : Nat) : ∀ d, gw_u g 1 (gw_i g 1 c) r d ≤ d * 100000
  | 0 => by simp [gw_u]
  | d + 1 => by
    have h := gw_ule g c r d
    have h2 := gw_vle g c (gm_y g r d)
    simp only [gw_u]
    omega
section yweigh
variable {sz mn gr : Int32} {th kd lg pt wd ls md le : Nat → Int32} {g : gm_G} {w : Nat → Nat} {n : Nat}
theorem gy_weigh {post : SY → Prop} (H : gy_G g th kd lg pt) (h : ∀ le', (∀ s, s < 5 → le' s = nI (gw_i g 1 96 s)) → post (sz, mn, gr, th, kd, lg, pt, wd, ls, md, le')) : wpY_weigh post (sz, mn, gr, th, kd, lg, pt, wd, ls, md, le) := by
  refine pk_loop (fun f x (a : Nat → Int32) => wY_weigh_2 post sz mn gr f (nI x) th kd lg pt wd ls md a) (fun x a => ∀ s, s < x → a s = nI 100000) 5 0 le (by omega) lt_0 ?_ ?_
  · intro f a ha
    refine br_t (nI_le (Nat.le_refl _) (by decide)) ?_
    refine pk_loop (fun f c (a : Nat → Int32) => wY_weigh_23 post sz mn gr f (nI c) th kd lg pt wd ls md a) (fun c a => ∀ s, s < 5 → a s = nI (gw_i g 1 c s)) 96 0 a (by omega) ha ?_ ?_
    · intro f2 a2 hI
      exact br_t (nI_le (Nat.le_refl _) (by decide)) (h a2 hI)
    · intro f2 c a2 hc hI ih
      have hr : c % 16 < 16 := Nat.mod_lt _ (by decide)
      have hk := H.1.1 (c % 16)
      have h3 := H.1.2.1 (c % 16)
      have vr : vp_in (nI (c % 16)) 16 := gx_in hr (by decide)
      have er : (nI (c % 16)).toNatClampNeg = c % 16 := gx_cl (by omega)
      have ek : kd (nI (c % 16)).toNatClampNeg = nI (gm_k g (c % 16)) := by rw [er]; exact H.2.2.1 _
      have el : lg (nI (c % 16)).toNatClampNeg = nI (gm_l g (c % 16)) := by rw [er]; exact H.2.2.2.1 _
      have vk : vp_in (nI (gm_k g (c % 16))) 5 := gx_in hk (by decide)
      have eck : (nI (gm_k g (c % 16))).toNatClampNeg = gm_k g (c % 16) := gx_cl (by omega)
      have htop := gw_top g 1 c (gm_k g (c % 16))
      have keep : gw_i g 1 c (gm_k g (c % 16)) ≤ gw_f g 1 (c % 16) (gw_i g 1 c) → ∀ s, s < 5 → a2 s = nI (gw_i g 1 (c + 1) s) := fun hle s hs => by
        rw [gw_step, hI s hs]
        split
        · rename_i e; rw [e, Nat.min_eq_left hle]
        · rfl
      have stay : gw_i g 1 c (gm_k g (c % 16)) ≤ gw_f g 1 (c % 16) (gw_i g 1 c) → wY_weigh_135 post (wY_weigh_23 post sz mn gr f2) (nI c) (nI (c % 16)) (nI (gm_k g (c % 16))) sz mn gr th kd lg pt wd ls md a2 := fun hle => by
        refine And.intro vr ?_
        rw [ek]
        refine And.intro vk (And.intro vk (nm_r (e' := a2) (by rw [gt_up]) (nm_r (nI_1 c) (ih a2 (keep hle)))))
      refine br_f (nI_ge hc (by decide)) (And.intro (by decide) (nm_r (pk_rem (d := 16) (by omega) (by decide) (by decide)) ?_))
      refine pk_loop (fun f3 p (x : Int32) => wY_weigh_39 post (wY_weigh_23 post sz mn gr f2) (nI c) (nI (c % 16)) sz mn gr th kd lg pt wd ls md a2 f3 x (nI p)) (fun p x => x = nI (gw_u g 1 (gw_i g 1 c) (c % 16) (min p (gm_l g (c % 16))))) 3 0 0 (by omega) (by rw [Nat.zero_min]; rfl) ?_ ?_
      · intro f3 x hx
        rw [Nat.min_eq_right h3] at hx
        subst hx
        have hu := gw_ule g c (c % 16) (gm_l g (c % 16))
        refine br_t (nI_le (Nat.le_refl _) (by decide)) (And.intro vr (And.intro vr ?_))
        have eth : th (nI (c % 16)).toNatClampNeg = if gm_p g (c % 16) = true then 1 else 0 := by rw [er]; exact H.2.1 _ hr
        rw [ek, eth, eck, hI _ hk]
        by_cases hp : gm_p g (c % 16) = true
        · have ef : gw_f g 1 (c % 16) (gw_i g 1 c) = gw_u g 1 (gw_i g 1 c) (c % 16) (gm_l g (c % 16)) := by unfold gw_f; rw [if_pos hp]
          rw [if_pos hp]
          refine br_f gx_10 (And.intro vr (And.intro vk (pk_le (gw_i g 1 c (gm_k g (c % 16))) (gw_u g 1 (gw_i g 1 c) (c % 16) (gm_l g (c % 16))) (fun hle => stay (by rw [ef]; exact hle)) (fun hlt => And.intro vk (nm_e (nm_r (nI_1 c) (ih _ fun s hs => ?_)))))))
          rw [gb_u, gw_step, ef]
          by_cases e : s = gm_k g (c % 16)
          · rw [if_pos e, if_pos e, e, Nat.min_eq_right (by omega)]
          · rw [if_neg e, if_neg e, hI s hs]
        · have ef : gw_f g 1 (c % 16) (gw_i g 1 c) = 100000 := by unfold gw_f; rw [if_neg hp]
          rw [if_neg hp]
          exact br_t rfl (stay (by rw [ef]; exact htop))
      · intro f3 p x hp hx ih3
        subst hx
        have h8 := H.1.2.2 (c % 16) p
        refine br_f (nI_ge hp (by decide)) (gy_symbol H hr (by omega) (And.intro vr ?_))
        rw [el]
        refine pk_lt p (gm_l g (c % 16)) (fun hl => pk_le 5 (gm_y g (c % 16) p) (fun h5 => nm_e (nm_r (nI_1 p) (ih3 _ ?_))) (fun h5 => And.intro (gx_in (by omega) (by decide)) (nm_e (nm_r (nI_1 p) (ih3 _ ?_))))) (fun hl => nm_r (nI_1 p) (ih3 _ ?_))
        · rw [Nat.min_eq_left (by omega), Nat.min_eq_left (by omega), nI_1]
          show nI _ = nI (_ + _)
          unfold gw_v
          rw [if_neg (by omega)]
        · rw [Nat.min_eq_left (by omega), Nat.min_eq_left (by omega), gx_cl (by omega), hI _ h5, nI_add]
          show nI _ = nI (_ + _)
          unfold gw_v
          rw [if_pos h5]
        · rw [Nat.min_eq_right (by omega), Nat.min_eq_right (by omega)]
  · intro f x a hx ha ih
    refine br_f (nI_ge hx (by decide)) (And.intro (gx_in hx (by decide)) (nm_r (e' := upd a x (nI 100000)) (by rw [gx_cl (by omega)]; rfl) (nm_r (nI_1 x) (ih _ fun s hs => ?_))))
    rw [gb_u]
    split
    · rfl
    · exact ha s (by omega)
theorem gy_able {post : Int32 → SY → Prop} (H : gy_G g th kd lg pt) (h : ∀ e le', gx_E g 1 e → post e (sz, mn, gr, th, kd, lg, pt, wd, ls, md, le')) : wpY_able post (sz, mn, gr, th, kd, lg, pt, wd, ls, md, le) := by
  unfold wpY_able
  refine gy_weigh H fun le' hl => ?_
  refine pk_loop (fun f k (x : Int32) => wY_able_8 post sz mn gr th kd lg pt wd ls md le' f x (nI k)) (fun k x => ∀ s, bt x s = true ↔ s < k ∧ gw_i g 1 80 s < 100000) 5 0 0 (by omega) (fun s => by rw [b_0]; exact ⟨fun z => absurd z (by decide), fun z => absurd z.1 (by omega)⟩) ?_ ?_
  · intro f x hI
    exact br_t (nI_le (Nat.le_refl _) (by decide)) (h x le' hI)
  · intro f k x hk hI ih
    have htop := gw_top g 1 80 k
    refine br_f (nI_ge hk (by decide)) (And.intro (gx_in hk (by decide)) ?_)
    rw [gx_cl (by omega), hl k hk, gw_96 H.1 hk]
    refine pk_le 100000 (gw_i g 1 80 k) (fun z => nm_r (nI_1 k) (ih x fun s => ?_)) (fun z => nm_e (nm_r (nI_1 k) (ih _ fun s => ?_)))
    · rw [hI s]
      refine ⟨fun y => ⟨by omega, y.2⟩, fun y => ⟨?_, y.2⟩⟩
      by_cases e : s = k
      · rw [e] at y; omega
      · omega
    · rw [gb_add x (by omega), hI s]
      constructor
      · intro y
        rcases y with y | y
        · exact ⟨by omega, y.2⟩
        · rw [y]; exact ⟨by omega, z⟩
      · intro y
        by_cases e : s = k
        · exact Or.inr e
        · exact Or.inl ⟨by omega, y.2⟩
theorem gy_empty {post : Int32 → SY → Prop} (H : gy_G g th kd lg pt) (h : ∀ e md', gx_E g 100000 e → post e (sz, 0, 0, th, kd, lg, pt, wd, ls, md', le)) : wpY_empty post (sz, mn, gr, th, kd, lg, pt, wd, ls, md, le) := by
  unfold wpY_empty
  refine gy_grow (n := 0) (w := fun _ => 0) H (fun i hi => absurd hi (by omega)) (fun _ => by decide) (by decide) fun md' hz ok => ?_
  refine pk_loop (fun f k (x : Int32) => wY_empty_13 post sz 0 0 th kd lg pt wd ls md' le f x (nI k)) (fun k x => ∀ s, bt x s = true ↔ s < k ∧ gn_e g s) 5 0 0 (by omega) (fun s => by rw [b_0]; exact ⟨fun z => absurd z (by decide), fun z => absurd z.1 (by omega)⟩) ?_ ?_
  · intro f x hI
    exact br_t (nI_le (Nat.le_refl _) (by decide)) (h x md' fun s => (hI s).trans ⟨fun y => y.2, fun y => ⟨y.1, y⟩⟩)
  · intro f k x hk hI ih
    have key : gy_D md' (fun _ => 0) k 0 0 ↔ gn_e g k := (gy_Dk hk (by decide) ok (Nat.le_refl _) (Nat.le_refl _)).trans (gn_iff H.1 (Nat.le_refl _))
    refine br_f (nI_ge hk (by decide)) (gy_covers (n := 0) (w := fun _ => 0) (i := 0) (j := 0) (fun i hi => absurd hi (by omega)) (fun _ => by decide) (by decide) hz (by omega) (Nat.le_refl _) (Nat.le_refl _) (fun D => br_f gx_10 (nm_e (nm_r (nI_1 k) (ih _ fun s => ?_)))) (fun D => br_t rfl (nm_r (nI_1 k) (ih x fun s => ?_))))
    · rw [gb_add x (by omega), hI s]
      constructor
      · intro y
        rcases y with y | y
        · exact ⟨by omega, y.2⟩
        · rw [y]; exact ⟨by omega, key.mp D⟩
      · intro y
        by_cases e : s = k
        · exact Or.inr e
        · exact Or.inl ⟨by omega, y.2⟩
    · rw [hI s]
      refine ⟨fun y => ⟨by omega, y.2⟩, fun y => ⟨?_, y.2⟩⟩
      by_cases e : s = k
      · rw [e] at y; exact absurd (key.mpr y.2) D
      · omega
end yweigh
theorem gx_Eun {g : gm_G} {lw : Nat} {e e' : Int32} (h : gx_E g lw e) (h' : gx_E g lw e') : e' = e := b_ext fun i _ => Bool.eq_iff_iff.mpr ((h' i).trans (h i).symm)
theorem i_vc_empty {k : Nat} {u : SX} {v : SY} (I : i_Rel k u v) (hk : k + 5 ≤ 2560) : wpX_empty (fun r => wpY_empty (fun r' v' => r' = r ∧ i_Rel (k + 5) u v') v) u := by
  obtain ⟨rs, wl, az, rk, rl, ry, wd, fd, fo, sg, st, re, ag, li, fw, bg, le, ls⟩ := u
  obtain ⟨sz, mn, gr, th, kd, lg, pt, wy, lsy, md, ley⟩ := v
  obtain ⟨rfl, rfl, rfl, rfl, rfl, I⟩ := I
  obtain ⟨g, w, n, HX, HY, hw, hw3, hn, e, _⟩ := gx_data I
  unfold wpX_empty
  exact gx_kmf HX gx_gv0 fun e he => gy_empty HY fun e' md' he' => ⟨gx_Eun he he', rfl, rfl, rfl, rfl, rfl, I⟩
theorem i_vc_able {k : Nat} {u : SX} {v : SY} (I : i_Rel k u v) (hk : k + 5 ≤ 2560) : wpX_able (fun r => wpY_able (fun r' v' => r' = r ∧ i_Rel (k + 5) u v') v) u := by
  obtain ⟨rs, wl, az, rk, rl, ry, wd, fd, fo, sg, st, re, ag, li, fw, bg, le, ls⟩ := u
  obtain ⟨sz, mn, gr, th, kd, lg, pt, wy, lsy, md, ley⟩ := v
  obtain ⟨rfl, rfl, rfl, rfl, rfl, I⟩ := I
  obtain ⟨g, w, n, HX, HY, hw, hw3, hn, e, _⟩ := gx_data I
  unfold wpX_able
  exact gx_kmf HX gx_gv1 fun e he => gy_able HY fun e' le' he' => ⟨gx_Eun he he', rfl, rfl, rfl, rfl, rfl, I⟩
/-! shortest -/
def gx_en (v : Nat) : Int32 := if v = 100000 then -3 else nI v
section xshort
variable {rs wl az : Int32} {rk rl ry wd fd fo sg st re ag li fw bg le ls : Nat → Int32} {g : gm_G}
theorem gx_leastOfRule {post : Int32 → Prop} (H : gx_G g rs rk rl ry) {c r : Nat} (hr : r < 16) (hl : ∀ s, s < 8 → le s = gx_en (gw_v 1 (gw_i g 1 c) s)) (h1 : (∀ d, d < gm_l g r → gw_v 1 (gw_i g 1 c) (gm_y g r d) < 100000) → post (nI (gw_u g 1 (gw_i g 1 c) r (gm_l g r)))) (h0 : (¬ ∀ d, d < gm_l g r → gw_v 1 (gw_i g 1 c) (gm_y g r d) < 100000) → post (-3)) : wpX_leastOfRule post (rs, wl, az, rk, rl, ry, wd, fd, fo, sg, st, re, ag, li, fw, bg, le, ls) (nI r) := by
  have h3 := H.1.2.1 r
  have el := gx_Gl H hr
  refine pk_loop (fun f d (x : Int32) => wX_leastOfRule_4 post (nI r) rs wl az rk rl ry wd fd fo sg st re ag li fw bg le ls f x (nI d)) (fun d x => x = nI (gw_u g 1 (gw_i g 1 c) r d) ∧ ∀ e, e < d → gw_v 1 (gw_i g 1 c) (gm_y g r e) < 100000) (gm_l g r) 0 0 (by omega) ⟨rfl, lt_0⟩ ?_ ?_
  · intro f x ⟨hx, hI⟩
    subst hx
    exact And.intro (gx_in hr (by decide)) (br_t (by rw [el]; exact nI_le (Nat.le_refl _) (by omega)) (h1 hI))
  · intro f d x hd ⟨hx, hI⟩ ih
    subst hx
    have h8 := H.1.2.2 r d
    have v8 : vp_in (nI (gm_y g r d)) 8 := gx_in h8 (by decide)
    refine And.intro (gx_in hr (by decide)) (br_f (by rw [el]; exact nI_ge hd (by omega)) (gx_symbolAt H hr (by omega) (And.intro v8 ?_)))
    rw [gx_cl (by omega), hl _ h8]
    unfold gx_en
    rcases gw_v243 (g := g) H.1 (lw := 1) (Or.inl rfl) c (gm_y g r d) with z | z
    · rw [if_pos z]
      exact br_t rfl (h0 fun y => absurd (y d hd) (by omega))
    · rw [if_neg (by omega)]
      refine br_f (gx_m3 (by omega)) (And.intro v8 (nm_e (nm_r (nI_1 d) (ih _ ⟨?_, lt_s hI (by omega)⟩))))
      rw [nI_add]
      rfl
theorem gx_shortest11 {post : Int32 → SX → Prop} (H : gx_G g rs rk rl ry) {k : Nat} (hk : k < 5) (h : ∀ le', post (gx_en (gw_i g 1 80 k)) (rs, wl, az, rk, rl, ry, wd, fd, fo, sg, st, re, ag, li, fw, bg, le', ls)) : ∃ f, wX_shortest_11 post (nI k) rs wl az f 0 rk rl ry wd fd fo sg st re ag li fw bg le ls := by
  refine pk_loop (fun f s (a : Nat → Int32) => wX_shortest_11 post (nI k) rs wl az f (nI s) rk rl ry wd fd fo sg st re ag li fw bg a ls) (fun s a => ∀ x, x < s → a x = gx_en (gw_v 1 (gw_i g 1 0) x)) 8 0 le (by omega) lt_0 ?_ ?_
  · intro f a ha
    refine br_t (nI_le (Nat.le_refl _) (by decide)) ?_
    refine pk_loop (fun f t (a : Nat → Int32) => wX_shortest_42 post (nI k) rs wl az f (nI t) rk rl ry wd fd fo sg st re ag li fw bg a ls) (fun t a => ∀ x, x < 8 → a x = gx_en (gw_v 1 (gw_i g 1 (16 * t)) x)) 5 0 a (by omega) ha ?_ ?_
    · intro f2 a2 hI
      refine br_t (nI_le (Nat.le_refl _) (by decide)) (And.intro (gx_in (by omega) (by decide)) ?_)
      rw [gx_cl (by omega), hI k (by omega)]
      have e : gw_v 1 (gw_i g 1 (16 * 5)) k = gw_i g 1 80 k := by unfold gw_v; rw [if_pos hk]
      rw [e]
      exact h a2
    · intro f2 t a2 ht hI ih
      refine br_f (nI_ge ht (by decide)) ?_
      refine pk_loop (fun f3 r (a : Nat → Int32) => wX_shortest_49 post (wX_shortest_42 post (nI k) rs wl az f2) (nI k) (nI t) rs wl az f3 (nI r) rk rl ry wd fd fo sg st re ag li fw bg a ls) (fun r a => ∀ x, x < 8 → a x = gx_en (gw_v 1 (gw_i g 1 (16 * t + r)) x)) 16 0 a2 (by omega) hI ?_ ?_
      · intro f3 a3 hI3
        exact br_t (nI_le (Nat.le_refl _) (by decide)) (nm_r (nI_1 t) (ih a3 (by rw [Nat.mul_succ]; exact hI3)))
      · intro f3 r a3 hr hI3 ih3
        have hm : (16 * t + r) % 16 = r := by omega
        have hkr := H.1.1 r
        have htop := gw_top g 1 (16 * t + r) (gm_k g r)
        have stp : ∀ x, gw_v 1 (gw_i g 1 (16 * t + (r + 1))) x = if x = gm_k g r then min (gw_i g 1 (16 * t + r) x) (gw_f g 1 r (gw_i g 1 (16 * t + r))) else gw_v 1 (gw_i g 1 (16 * t + r)) x := fun x => by
          unfold gw_v
          rw [← Nat.add_assoc, gw_step, hm]
          by_cases e : x = gm_k g r
          · rw [if_pos e, if_pos e, if_pos (by omega)]
          · rw [if_neg e, if_neg e]
        have keep : gw_i g 1 (16 * t + r) (gm_k g r) ≤ gw_f g 1 r (gw_i g 1 (16 * t + r)) → ∀ x, x < 8 → a3 x = gx_en (gw_v 1 (gw_i g 1 (16 * t + (r + 1))) x) := fun hle x hx => by
          rw [stp x, hI3 x hx]
          by_cases e : x = gm_k g r
          · rw [if_pos e, e, Nat.min_eq_left hle]
            unfold gw_v
            rw [if_pos hkr]
          · rw [if_neg e]
        refine br_f (nI_ge hr (by decide)) (gx_hasRule H hr (fun hp => br_f gx_10 ?_) (fun hp => br_t rfl (nm_r (nI_1 r) (ih3 a3 (keep ?_)))))
        · have ef : gw_f g 1 r (gw_i g 1 (16 * t + r)) = gw_u g 1 (gw_i g 1 (16 * t + r)) r (gm_l g r) := by unfold gw_f; rw [if_pos hp]
          have vr : vp_in (nI r) 16 := gx_in hr (by decide)
          have ek := gx_Gk H hr
          have vk : vp_in (nI (gm_k g r)) 8 := gx_in (by omega) (by decide)
          have eck : (nI (gm_k g r)).toNatClampNeg = gm_k g r := gx_cl (by omega)
          have ekn : a3 (gm_k g r) = gx_en (gw_i g 1 (16 * t + r) (gm_k g r)) := by
            rw [hI3 _ (by omega)]
            unfold gw_v
            rw [if_pos hkr]
          refine gx_leastOfRule H hr hI3 (fun hall => And.intro vr ?_) (fun hno => And.intro vr ?_)
          · have hlt := (gw_fin H.1 (Or.inl rfl) (16 * t + r) r).mpr ⟨hp, hall⟩
            rw [ef] at hlt
            have sv : 0 < 1 := by decide
            have hbig : gw_u g 1 (gw_i g 1 (16 * t + r)) r (gm_l g r) < 1000 := by
              rcases gw_ub (g := g) (r := r) (gw_v243 H.1 (lw := 1) (Or.inl rfl) (16 * t + r)) (gm_l g r) with ⟨z, _⟩ | ⟨_, z⟩
              · omega
              · have h3 := H.1.2.1 r
                have : gm_l g r * 243 ≤ 3 * 243 := Nat.mul_le_mul_right _ h3
                omega
            have fin : gw_u g 1 (gw_i g 1 (16 * t + r)) r (gm_l g r) < gw_i g 1 (16 * t + r) (gm_k g r) → wX_shortest_104 post (wX_shortest_42 post (nI k) rs wl az f2) (wX_shortest_49 post (wX_shortest_42 post (nI k) rs wl az f2) (nI k) (nI t) rs wl az f3) (nI k) (nI t) (nI r) (nI (gw_u g 1 (gw_i g 1 (16 * t + r)) r (gm_l g r))) rs wl az rk rl ry wd fd fo sg st re ag li fw bg a3 ls := fun hless => by
              refine And.intro vr ?_
              rw [ek, eck]
              refine And.intro vk (nm_e (nm_r (nI_1 r) (ih3 _ fun x hx => ?_)))
              rw [gb_u, stp x, ef]
              by_cases e : x = gm_k g r
              · rw [if_pos e, if_pos e, e, Nat.min_eq_right (by omega)]
                unfold gx_en
                rw [if_neg (by omega)]
              · rw [if_neg e, if_neg e]
                exact hI3 x hx
            rw [ek, eck, ekn]
            refine And.intro vk (nm_e (br_f (gx_m3 hbig) ?_))
            unfold gx_en
            rcases gw_243 (g := g) H.1 (lw := 1) (Or.inl rfl) (16 * t + r) hkr with z | z
            · rw [if_pos z]
              exact br_t rfl (fin (by omega))
            · rw [if_neg (by omega)]
              exact br_f (gx_m3 (by omega)) (pk_le _ _ (fun y => nm_r (nI_1 r) (ih3 a3 (keep (by rw [ef]; exact y)))) (fun y => fin y))
          · have hge : ¬ gw_f g 1 r (gw_i g 1 (16 * t + r)) < 100000 := fun z => hno ((gw_fin H.1 (Or.inl rfl) (16 * t + r) r).mp z).2
            rw [ek, eck]
            exact And.intro vk (nm_e (br_t rfl (nm_r (nI_1 r) (ih3 a3 (keep (by omega))))))
        · unfold gw_f
          rw [if_neg (by rw [hp]; decide)]
          exact htop
  · intro f s a hs ha ih
    have v8 : vp_in (nI s) 8 := gx_in hs (by decide)
    refine br_f (nI_ge hs (by decide)) (pk_le 5 s (fun h5 => And.intro v8 (nm_r (e' := upd a s 1) (by rw [gx_cl (by omega)]) (nm_r (nI_1 s) (ih _ fun x hx => ?_)))) (fun h5 => And.intro v8 (nm_r (e' := upd a s (-3)) (by rw [gx_cl (by omega)]) (nm_r (nI_1 s) (ih _ fun x hx => ?_)))))
    · rw [gb_u]
      by_cases e : x = s
      · rw [if_pos e]
        unfold gx_en gw_v
        rw [if_neg (by omega : ¬ x < 5)]
        rfl
      · rw [if_neg e]; exact ha x (by omega)
    · rw [gb_u]
      by_cases e : x = s
      · rw [if_pos e]
        unfold gx_en gw_v
        rw [if_pos (by omega : x < 5)]
        rfl
      · rw [if_neg e]; exact ha x (by omega)
end xshort
theorem i_vc_shortest {k : Nat} {u : SX} {v : SY} (I : i_Rel k u v) (hk : k + 5 ≤ 2560) (v1 : Int32) : wpX_shortest (fun r u' => wpY_shortest (fun r' v' => r' = r ∧ i_Rel (k + 5) u' v') v v1) u v1 := by
  obtain ⟨rs, wl, az, rk, rl, ry, wd, fd, fo, sg, st, re, ag, li, fw, bg, le, ls⟩ := u
  obtain ⟨sz, mn, gr, th, kd, lg, pt, wy, lsy, md, ley⟩ := v
  obtain ⟨rfl, rfl, rfl, rfl, rfl, I⟩ := I
  obtain ⟨g, w, n, HX, HY, hw, hw3, hn, e, _⟩ := gx_data I
  unfold wpX_shortest wpY_shortest
  by_cases h1 : v1 < 0 ∨ nI 5 ≤ v1
  · exact gx_kind0 h1 (br_t rfl (gy_weigh HY fun le' hl => gy_kind0 h1 (br_t rfl ⟨rfl, rfl, rfl, rfl, rfl, rfl, I⟩)))
  · obtain ⟨a, ha, rfl⟩ : ∃ c, c < 5 ∧ v1 = nI c := by
      rcases pk_ix v1 (n := 5) (by decide) with z | z | z
      · exact absurd (Or.inl z) h1
      · exact absurd (Or.inr z) h1
      · exact z
    refine gx_kind1 ha (br_f gx_10 (gx_shortest11 HX ha fun le1 => gy_weigh HY fun le' hl => gy_kind1 ha (br_f gx_10 (And.intro (gx_in ha (by decide)) ?_))))
    rw [gx_cl (by omega), hl a ha, gw_96 HX.1 ha]
    have htop := gw_top g 1 80 a
    unfold gx_en
    refine pk_le 100000 (gw_i g 1 80 a) (fun z => ?_) (fun z => And.intro (gx_in ha (by decide)) ?_)
    · rw [if_pos (by omega)]
      exact ⟨rfl, rfl, rfl, rfl, rfl, rfl, I⟩
    · rw [if_neg (by omega)]
      exact ⟨rfl, rfl, rfl, rfl, rfl, rfl, I⟩

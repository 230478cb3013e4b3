theorem i_vc_rule {k : Nat} {u : SX} {v : SY} (I : i_Rel k u v) (hk : k + 5 ≤ 2560) (v1 : Int32) (v2 : Int32) (v3 : Int32) : wpX_rule (fun r u' => wpY_rule (fun r' v' => r' = r ∧ i_Rel (k + 5) u' v') v v1 v2 v3) u v1 v2 v3 := by
  obtain ⟨rs, wl, az, rk, rl, ry, wd, fd, fo, sg, st, re, ag, li, fw, bg, le, ls⟩ := u
  obtain ⟨sz, mn, gr, th, kd, lg, pt, wy, lsy, md, ley⟩ := v
  obtain ⟨rfl, rfl, rfl, rfl, rfl, I⟩ := I
  unfold wpX_rule
  rcases pk_ix v1 (n := 5) (by decide) with e | e | ⟨a, ha, rfl⟩
  · exact gx_kind0 (Or.inl e) (br_t rfl (br_t e ⟨rfl, rfl, rfl, rfl, rfl, rfl, I⟩))
  · exact gx_kind0 (Or.inr e) (br_t rfl (br_f (gx_ge e (by decide)).2.2.2 (br_t (gx_ge e (by decide)).2.1 ⟨rfl, rfl, rfl, rfl, rfl, rfl, I⟩)))
  · refine gx_kind1 ha (br_f gx_10 ?_)
    have y0 : ¬ nI a < 0 := nI_pos (by omega)
    have y1 : ¬ (4 : Int32) < nI a := nI_nlt (a := 4) (by omega) (by omega)
    rcases pk_ix v2 (n := 4) (by decide) with e | e | ⟨l, hl, rfl⟩
    · exact br_t e (br_f y0 (br_f y1 (br_t e ⟨rfl, rfl, rfl, rfl, rfl, rfl, I⟩)))
    · have z := gx_ge e (by decide)
      exact br_f z.2.2.2 (br_f z.1 (br_f y0 (br_f y1 (br_f z.2.2.2 (br_t z.2.1 ⟨rfl, rfl, rfl, rfl, rfl, rfl, I⟩)))))
    · have y2 : ¬ nI l < 0 := nI_pos (by omega)
      have y3 : nI l ≤ 3 := nI_le (b := 3) (by omega) (by decide)
      have y4 : ¬ (3 : Int32) < nI l := nI_nlt (a := 3) (by omega) (by omega)
      refine br_f y2 (br_t y3 ?_)
      by_cases e : v3 < 0
      · exact br_t e (br_f y0 (br_f y1 (br_f y2 (br_f y4 (br_t e ⟨rfl, rfl, rfl, rfl, rfl, rfl, I⟩)))))
      · refine br_f e ?_
        by_cases e2 : v3 < (1 : Int32) <<< ((3 * nI l) &&& 31)
        · refine br_t e2 ?_
          obtain ⟨s, hs, rfl⟩ := nI_of e
          have hs2 : s < 512 := by
            have h8 := gx_sh8 l hl
            rw [Int32.le_iff_toInt_le, nI_toInt (by decide)] at h8
            rw [Int32.lt_iff_toInt_lt, nI_toInt hs] at e2
            omega
          have h5 := I.2.2.2.2.2.1
          rcases Classical.em (∃ r, r < 16 ∧ bt rs r = false) with ⟨r0, hr0, z0⟩ | hn
          · obtain ⟨r, ⟨hr, z⟩, hmin⟩ := pk_least (fun r => r < 16 ∧ bt rs r = false) ⟨r0, hr0, z0⟩
            have hlt : ∀ c, c < r → bt rs c = true := fun c hc => ts_nf fun y => hmin c hc ⟨by omega, y⟩
            refine gx_rule36 hr hlt z (br_f y0 (br_f y1 (br_f y2 (br_f y4 (br_f e (br_t e2 (gy_rule36 hr (fun c hc => by rw [h5 c (by omega), if_pos (hlt c hc)]) (by rw [h5 r hr, if_neg (by rw [z]; decide)]) ⟨rfl, rfl, rfl, rfl, rfl, rfl, gx_Irule I hr ha (by omega) hs2⟩)))))))
          · have hall : ∀ c, c < 16 → bt rs c = true := fun c hc => ts_nf fun y => hn ⟨c, hc, y⟩
            exact gx_rule36n hall (br_f y0 (br_f y1 (br_f y2 (br_f y4 (br_f e (br_t e2 (gy_rule36n (fun c hc => by rw [h5 c hc, if_pos (hall c hc)]) ⟨rfl, rfl, rfl, rfl, rfl, rfl, I⟩)))))))
        · exact br_f e2 (br_f y0 (br_f y1 (br_f y2 (br_f y4 (br_f e (br_f e2 ⟨rfl, rfl, rfl, rfl, rfl, rfl, I⟩))))))
theorem i_vc_drop {k : Nat} {u : SX} {v : SY} (I : i_Rel k u v) (hk : k + 5 ≤ 2560) (v1 : Int32) : wpX_drop (fun r u' => wpY_drop (fun r' v' => r' = r ∧ i_Rel (k + 5) u' v') v v1) u v1 := by
  obtain ⟨rs, wl, az, rk, rl, ry, wd, fd, fo, sg, st, re, ag, li, fw, bg, le, ls⟩ := u
  obtain ⟨sz, mn, gr, th, kd, lg, pt, wy, lsy, md, ley⟩ := v
  obtain ⟨rfl, rfl, rfl, rfl, rfl, I⟩ := I
  rcases pk_ix v1 (n := 16) (by decide) with e | e | ⟨r, hr, rfl⟩
  · exact br_t e (br_t e ⟨rfl, rfl, rfl, rfl, rfl, rfl, I⟩)
  · have z := gx_ge e (by decide)
    exact br_f z.2.2.2 (br_t e (br_f z.2.2.2 (br_t z.2.1 ⟨rfl, rfl, rfl, rfl, rfl, rfl, I⟩)))
  · have y0 : ¬ nI r < 0 := nI_pos (by omega)
    have y1 : ¬ (15 : Int32) < nI r := nI_nlt (a := 15) (by omega) (by omega)
    have v : vp_in (nI r) 16 := gx_in hr (by decide)
    have h5 := I.2.2.2.2.2.1 r hr
    refine br_f y0 (br_f (nI_ge hr (by decide)) (gx_bit (by omega) (fun z => br_f gx_10 (nm_e (br_f y0 (br_f y1 (And.intro v (br_f ?_ (And.intro v (nm_r (e' := upd th r 0) ?_ ⟨rfl, rfl, rfl, rfl, rfl, rfl, gx_Idrop I hr⟩)))))))) (fun z => br_t rfl (br_f y0 (br_f y1 (And.intro v (br_t ?_ ⟨rfl, rfl, rfl, rfl, rfl, rfl, I⟩)))))))
    · rw [gx_cl (by omega), h5, if_pos z]; exact gx_10
    · rw [gx_cl (by omega)]; rfl
    · rw [gx_cl (by omega), h5, if_neg (by rw [z]; decide)]
theorem i_vc_rules {k : Nat} {u : SX} {v : SY} (I : i_Rel k u v) (hk : k + 5 ≤ 2560) : wpX_rules (fun r => wpY_rules (fun r' => r' = r ∧ i_Rel (k + 5) u v) v) u := by
  obtain ⟨rs, wl, az, rk, rl, ry, wd, fd, fo, sg, st, re, ag, li, fw, bg, le, ls⟩ := u
  obtain ⟨sz, mn, gr, th, kd, lg, pt, wy, lsy, md, ley⟩ := v
  obtain ⟨rfl, rfl, rfl, rfl, rfl, I⟩ := I
  have h5 := I.2.2.2.2.2.1
  have h6 := I.2.2.2.2.2.2
  refine pk_loop (fun f c (x : Int32) => wY_rules_4 (fun r' => r' = rs ∧ i_Rel (k + 5) (rs, wl, az, rk, rl, ry, wd, fd, fo, sg, st, re, ag, li, fw, bg, le, ls) (wl, mn, gr, th, rk, rl, ry, wd, lsy, md, ley)) wl mn gr th rk rl ry wd lsy md ley f x (nI c)) (fun c x => ∀ s, bt x s = true ↔ s < c ∧ bt rs s = true) 16 0 0 (by omega) (fun s => by rw [b_0]; exact ⟨fun z => absurd z (by decide), fun z => absurd z.1 (by omega)⟩) ?_ ?_
  · intro f x hI
    refine br_t (nI_le (Nat.le_refl _) (by decide)) ⟨b_ext fun i _ => ?_, rfl, rfl, rfl, rfl, rfl, I⟩
    have z := hI i
    cases h1 : bt rs i with
    | true =>
      rcases Nat.lt_or_ge i 16 with y | y
      · exact z.mpr ⟨y, h1⟩
      · rw [h6 i y] at h1; exact absurd h1 (by decide)
    | false =>
      apply ts_nt
      intro y
      have w := (z.mp y).2
      rw [h1] at w
      exact absurd w (by decide)
  · intro f c x hc hI ih
    refine br_f (nI_ge hc (by decide)) (And.intro (gx_in hc (by decide)) ?_)
    rw [gx_cl (by omega), h5 c hc]
    by_cases z : bt rs c = true
    · rw [if_pos z]
      refine br_f gx_10 (nm_e (nm_r (nI_1 c) (ih _ fun s => ?_)))
      rw [gb_add x (by omega), hI s]
      constructor
      · intro y
        rcases y with y | y
        · exact ⟨by omega, y.2⟩
        · rw [y]; exact ⟨by omega, z⟩
      · intro y
        by_cases e : s = c
        · exact Or.inr e
        · exact Or.inl ⟨by omega, y.2⟩
    · rw [if_neg z]
      refine br_t rfl (nm_r (nI_1 c) (ih _ fun s => ?_))
      rw [hI s]
      constructor
      · intro y
        exact ⟨by omega, y.2⟩
      · intro y
        by_cases e : s = c
        · rw [e] at y; exact absurd y.2 z
        · exact ⟨by omega, y.2⟩
theorem i_vc_write {k : Nat} {u : SX} {v : SY} (I : i_Rel k u v) (hk : k + 5 ≤ 2560) (v1 : Int32) : wpX_write (fun r u' => wpY_write (fun r' v' => r' = r ∧ i_Rel (k + 5) u' v') v v1) u v1 := by
  obtain ⟨rs, wl, az, rk, rl, ry, wd, fd, fo, sg, st, re, ag, li, fw, bg, le, ls⟩ := u
  obtain ⟨sz, mn, gr, th, kd, lg, pt, wy, lsy, md, ley⟩ := v
  obtain ⟨rfl, rfl, rfl, rfl, rfl, I⟩ := I
  rcases pk_ix v1 (n := 3) (by decide) with e | e | ⟨a, ha, rfl⟩
  · exact br_t e (br_t e ⟨rfl, rfl, rfl, rfl, rfl, rfl, I⟩)
  · have z := gx_ge e (by decide)
    exact br_f z.2.2.2 (br_f z.2.2.1 (br_f z.2.2.2 (br_f z.1 ⟨rfl, rfl, rfl, rfl, rfl, rfl, I⟩)))
  · have y0 : ¬ nI a < 0 := nI_pos (by omega)
    have y1 : nI a < 3 := nI_lt (b := 3) ha (by decide)
    have y2 : nI a ≤ 2 := nI_le (b := 2) (by omega) (by decide)
    obtain ⟨⟨n, hn, e⟩, h1, hr⟩ := I
    subst e
    refine br_f y0 (br_t y1 (pk_lt n 10 (fun h10 => ?_) (fun h10 => ?_)))
    · have v : vp_in (nI n) 10 := gx_in h10 (by decide)
      refine And.intro v (nm_r (e' := upd wd n (nI a)) (by rw [gx_cl (by omega)]) (nm_r (nI_1 n) (br_f y0 (br_t y2 (br_t (nI_lt (b := 10) h10 (by decide)) (And.intro v (nm_r (e' := upd wd n (nI a)) (by rw [gx_cl (by omega)]) (nm_r (nI_1 n) ⟨rfl, rfl, rfl, rfl, rfl, rfl, ⟨n + 1, by omega, rfl⟩, fun i => ?_, hr⟩))))))))
      rw [gb_u]
      split
      · exact ⟨a, ha, rfl⟩
      · exact h1 i
    · exact br_f y0 (br_t y2 (br_f (nI_nlt (b := 10) h10 (by omega)) ⟨rfl, rfl, rfl, rfl, rfl, rfl, ⟨n, hn, rfl⟩, h1, hr⟩))
theorem i_vc_cut {k : Nat} {u : SX} {v : SY} (I : i_Rel k u v) (hk : k + 5 ≤ 2560) (v1 : Int32) : wpX_cut (fun r u' => wpY_cut (fun r' v' => r' = r ∧ i_Rel (k + 5) u' v') v v1) u v1 := by
  obtain ⟨rs, wl, az, rk, rl, ry, wd, fd, fo, sg, st, re, ag, li, fw, bg, le, ls⟩ := u
  obtain ⟨sz, mn, gr, th, kd, lg, pt, wy, lsy, md, ley⟩ := v
  obtain ⟨rfl, rfl, rfl, rfl, rfl, I⟩ := I
  rcases pk_ix v1 (n := 11) (by decide) with e | e | ⟨a, ha, rfl⟩
  · exact br_t e (br_t e ⟨rfl, rfl, rfl, rfl, rfl, rfl, I⟩)
  · have z := gx_ge e (by decide)
    exact br_f z.2.2.2 (br_f z.1 (br_f z.2.2.2 (br_f z.1 ⟨rfl, rfl, rfl, rfl, rfl, rfl, I⟩)))
  · have y0 : ¬ nI a < 0 := nI_pos (by omega)
    have y1 : nI a ≤ 10 := nI_le (b := 10) (by omega) (by decide)
    obtain ⟨⟨n, hn, e⟩, hr⟩ := I
    subst e
    refine br_f y0 (br_t y1 (pk_le n a (fun h => ?_) (fun h => ?_)))
    · exact br_f y0 (br_t y1 (br_t (nI_le h (by omega)) ⟨rfl, rfl, rfl, rfl, rfl, rfl, ⟨0, by decide, rfl⟩, hr⟩))
    · exact nm_r (pk_sub (by omega)) (br_f y0 (br_t y1 (br_f (nI_ge h (by omega)) (nm_r (pk_sub (by omega)) ⟨rfl, rfl, rfl, rfl, rfl, rfl, ⟨n - a, by omega, rfl⟩, hr⟩))))

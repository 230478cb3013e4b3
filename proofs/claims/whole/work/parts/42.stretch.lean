/-! makes, stretch, agree -/
section ystr
variable {sz mn gr : Int32} {th kd lg pt wd ls md le : Nat → Int32} {g : gm_G} {w : Nat → Nat} {n : Nat}
theorem gy_kind1 {post : Int32 → Prop} {k : Nat} (hk : k < 5) (h : post 1) : wpY_isKind post (sz, mn, gr, th, kd, lg, pt, wd, ls, md, le) (nI k) := br_f (nI_pos (by omega)) (br_f (nI_nlt (a := 4) (by omega) (by omega)) h)
theorem gy_kind0 {post : Int32 → Prop} {x : Int32} (hx : x < 0 ∨ nI 5 ≤ x) (h : post 0) : wpY_isKind post (sz, mn, gr, th, kd, lg, pt, wd, ls, md, le) x := br_c (fun _ => h) (fun hn => br_t (gx_ge (hx.resolve_left hn) (by decide)).2.1 h)
theorem gy_eng1 {post : Int32 → Prop} {k : Nat} (hk : k < 5) (h : post 1) : wpY_engine post (sz, mn, gr, th, kd, lg, pt, wd, ls, md, le) (nI k) := br_f (nI_pos (by omega)) (br_f (nI_nlt (a := 4) (by omega) (by omega)) h)
theorem gy_eng0 {post : Int32 → Prop} {x : Int32} (hx : x < 0 ∨ nI 5 ≤ x) (h : post 0) : wpY_engine post (sz, mn, gr, th, kd, lg, pt, wd, ls, md, le) x := br_c (fun _ => h) (fun hn => br_t (gx_ge (hx.resolve_left hn) (by decide)).2.1 h)
theorem gy_Dk {m : Nat → Int32} {s i j : Nat} (hs : s < 5) (hn : n ≤ 10) (ok : gy_ok g w n m) (hi : i ≤ j) (hj : j ≤ n) : gy_D m w s i j ↔ gm_mk g w n s i j := by
  unfold gy_D
  rw [if_pos hs]
  exact ok s i j hs (by omega) (by omega)
theorem gy_stretchV {post : Int32 → SY → Prop} (H : gy_G g th kd lg pt) (hw : ∀ i, wd i = nI (w i)) (hw3 : ∀ i, w i < 3) (hn : n ≤ 10) {a k i j : Nat} (ha : a < 5) (hk : k < 5) (hij : i ≤ j) (hj : j ≤ n)
    (h : ∀ r ls' md', (r = 1 ∧ gm_mk g w n k i j) ∨ (r = 0 ∧ ¬ gm_mk g w n k i j) → post r (nI n, nI n, 0, th, kd, lg, pt, wd, ls', md', le)) : wpY_stretch post (nI n, mn, gr, th, kd, lg, pt, wd, ls, md, le) (nI a) (nI k) (nI i) (nI j) := by
  unfold wpY_stretch
  refine gy_eng1 ha (br_f gx_10 (gy_kind1 hk (br_f gx_10 (br_f (nI_pos (by omega)) (br_f (nI_nlt hij (by omega)) (br_t (nI_le hj (by omega)) (gy_read H (fun i _ => hw i) hw3 hn fun ls' md' hl hz ok => ?_)))))))
  exact gy_covers hl hw3 hn hz (by omega) hij hj (fun D => And.intro rfl (h 1 ls' md' (Or.inl ⟨rfl, (gy_Dk hk hn ok hij hj).mp D⟩))) (fun D => And.intro rfl (h 0 ls' md' (Or.inr ⟨rfl, fun z => D ((gy_Dk hk hn ok hij hj).mpr z)⟩)))
end ystr
section xstr
variable {rs wl az : Int32} {rk rl ry wd fd fo sg st re ag li fw bg le ls : Nat → Int32} {g : gm_G} {w : Nat → Nat} {n : Nat}
theorem gx_stretchV {post : Int32 → SX → Prop} (H : gx_G g rs rk rl ry) (hw : ∀ i, wd i = nI (w i)) (hw3 : ∀ i, w i < 3) (hn : n ≤ 10) {a k i j : Nat} (ha : a < 5) (hk : k < 5) (hij : i ≤ j) (hj : j ≤ n)
    (h : ∀ r t az' sg' st' re' ag' li', (r = 1 ∧ gm_mk g w n k i j) ∨ (r = 0 ∧ ¬ gm_mk g w n k i j) → post r (rs, nI n, az', rk, rl, ry, wd, t, fo, sg', st', re', ag', li', fw, bg, le, ls)) : wpX_stretch post (rs, nI n, az, rk, rl, ry, wd, fd, fo, sg, st, re, ag, li, fw, bg, le, ls) (nI a) (nI k) (nI i) (nI j) := by
  unfold wpX_stretch
  refine gx_eng1 ha (br_f gx_10 (gx_kind1 hk (br_f gx_10 (br_f (nI_pos (by omega)) (br_f (nI_nlt hij (by omega)) (br_t (nI_le hj (by omega)) (gx_fill_found H hw hw3 hn ha fun t az' sg' st' re' ag' li' ok => ?_)))))))
  refine And.intro (by rw [gx_c11]; exact gx_in (by omega) (by decide)) ?_
  rw [gx_c11, gx_cl (by omega)]
  refine gx_bit (by omega) (fun hb => h 1 t az' sg' st' re' ag' li' (Or.inl ⟨rfl, (ok k i j).mp ⟨hij, hj, hb⟩⟩)) (fun hb => h 0 t az' sg' st' re' ag' li' (Or.inr ⟨rfl, fun z => ?_⟩))
  have y := ((ok k i j).mpr z).2.2
  rw [hb] at y
  exact absurd y (by decide)
theorem gx_makesV {post : Int32 → SX → Prop} (H : gx_G g rs rk rl ry) (hw : ∀ i, wd i = nI (w i)) (hw3 : ∀ i, w i < 3) (hn : n ≤ 10) {a k : Nat} (ha : a < 5) (hk : k < 5)
    (h : ∀ r t az' sg' st' re' ag' li', (r = 1 ∧ gm_mk g w n k 0 n) ∨ (r = 0 ∧ ¬ gm_mk g w n k 0 n) → post r (rs, nI n, az', rk, rl, ry, wd, t, fo, sg', st', re', ag', li', fw, bg, le, ls)) : wpX_makes post (rs, nI n, az, rk, rl, ry, wd, fd, fo, sg, st, re, ag, li, fw, bg, le, ls) (nI a) (nI k) := by
  unfold wpX_makes
  refine gx_eng1 ha (br_f gx_10 (gx_kind1 hk (br_f gx_10 (gx_fill_found H hw hw3 hn ha fun t az' sg' st' re' ag' li' ok => ?_))))
  refine And.intro (gx_in (by omega) (by decide)) ?_
  rw [gx_cl (by omega)]
  have e0 : 0 * 11 + n = n := by omega
  refine gx_bit (by omega) (fun hb => h 1 t az' sg' st' re' ag' li' (Or.inl ⟨rfl, (ok k 0 n).mp ⟨by omega, by omega, by rw [e0]; exact hb⟩⟩)) (fun hb => h 0 t az' sg' st' re' ag' li' (Or.inr ⟨rfl, fun z => ?_⟩))
  have y := ((ok k 0 n).mpr z).2.2
  rw [e0, hb] at y
  exact absurd y (by decide)
theorem gx_agree36 {post : Int32 → SX → Prop} (hn : n ≤ 10) (ok1 : gt_ok g w n fd) (ok2 : gt_ok g w n fo) (h : post 1 (rs, nI n, az, rk, rl, ry, wd, fd, fo, sg, st, re, ag, li, fw, bg, le, ls)) : ∃ f, wX_agree_36 post rs (nI n) az rk rl ry wd fd fo sg st re ag li fw bg le ls f 0 := by
  refine pk_loop (fun f i (_ : Unit) => wX_agree_36 post rs (nI n) az rk rl ry wd fd fo sg st re ag li fw bg le ls f (nI i)) (fun _ _ => True) (n + 1) 0 () (by omega) trivial ?_ ?_
  · intro f _ _
    exact br_t (nI_lt (Nat.lt_succ_self n) (by omega)) h
  · intro f i _ hi _ ih
    refine br_f (nI_nlt (by omega) (by omega)) ?_
    refine pk_loop (fun f2 j (_ : Unit) => wX_agree_47 post (wX_agree_36 post rs (nI n) az rk rl ry wd fd fo sg st re ag li fw bg le ls f) (nI i) rs (nI n) az rk rl ry wd fd fo sg st re ag li fw bg le ls f2 (nI j)) (fun j _ => i ≤ j) (n + 1) i () (by omega) (Nat.le_refl _) ?_ ?_
    · intro f2 _ _
      exact br_t (nI_lt (Nat.lt_succ_self n) (by omega)) (nm_r (nI_1 i) (ih () trivial))
    · intro f2 j _ hj hij ih2
      have v : vp_in (nI (i * 11 + j)) 121 := gx_in (by omega) (by decide)
      refine br_f (nI_nlt (by omega) (by omega)) (nm_r (gx_c11 i j) (And.intro v (And.intro v (br_t ?_ (nm_r (nI_1 j) (ih2 () (by omega)))))))
      rw [gx_cl (by omega), gb_z]
      intro s hs
      rw [b_and, b_xor, gb_31 s hs]
      have e : bt (fd (i * 11 + j)) s = bt (fo (i * 11 + j)) s := by
        have z : bt (fd (i * 11 + j)) s = true ↔ bt (fo (i * 11 + j)) s = true := ⟨fun z => ((ok2 s i j).mpr ((ok1 s i j).mp ⟨hij, by omega, z⟩)).2.2, fun z => ((ok1 s i j).mpr ((ok2 s i j).mp ⟨hij, by omega, z⟩)).2.2⟩
        exact Bool.eq_iff_iff.mpr z
      rw [e]
      simp
end xstr
theorem gx_ans {P : Prop} {r r' : Int32} (h : (r = 1 ∧ P) ∨ (r = 0 ∧ ¬ P)) (h' : (r' = 1 ∧ P) ∨ (r' = 0 ∧ ¬ P)) : r' = r := by
  rcases h with ⟨e, p⟩ | ⟨e, p⟩
  · rcases h' with ⟨e', q⟩ | ⟨e', q⟩
    · rw [e, e']
    · exact absurd p q
  · rcases h' with ⟨e', q⟩ | ⟨e', q⟩
    · exact absurd q p
    · rw [e, e']
theorem i_vc_stretch {k : Nat} {u : SX} {v : SY} (I : i_Rel k u v) (hk : k + 5 ≤ 2560) (v1 : Int32) (v2 : Int32) (v3 : Int32) (v4 : Int32) : wpX_stretch (fun r u' => wpY_stretch (fun r' v' => r' = r ∧ i_Rel (k + 5) u' v') v v1 v2 v3 v4) u v1 v2 v3 v4 := by
  obtain ⟨rs, wl, az, rk, rl, ry, wd, fd, fo, sg, st, re, ag, li, fw, bg, le, ls⟩ := u
  obtain ⟨sz, mn, gr, th, kd, lg, pt, wy, lsy, md, ley⟩ := v
  obtain ⟨rfl, rfl, rfl, rfl, rfl, I⟩ := I
  obtain ⟨g, w, n, HX, HY, hw, hw3, hn, e, _⟩ := gx_data I
  subst e
  have bad : ∀ x : Int32, x < 0 ∨ nI 5 ≤ x ∨ ∃ c, c < 5 ∧ x = nI c := fun x => pk_ix x (n := 5) (by decide)
  by_cases h1 : v1 < 0 ∨ nI 5 ≤ v1
  · unfold wpX_stretch wpY_stretch
    exact gx_eng0 h1 (br_t rfl (gy_eng0 h1 (br_t rfl ⟨rfl, rfl, rfl, rfl, rfl, rfl, I⟩)))
  · obtain ⟨a, ha, rfl⟩ : ∃ c, c < 5 ∧ v1 = nI c := by
      rcases bad v1 with z | z | z
      · exact absurd (Or.inl z) h1
      · exact absurd (Or.inr z) h1
      · exact z
    by_cases h2 : v2 < 0 ∨ nI 5 ≤ v2
    · unfold wpX_stretch wpY_stretch
      exact gx_eng1 ha (br_f gx_10 (gx_kind0 h2 (br_t rfl (gy_eng1 ha (br_f gx_10 (gy_kind0 h2 (br_t rfl ⟨rfl, rfl, rfl, rfl, rfl, rfl, I⟩)))))))
    · obtain ⟨c, hc, rfl⟩ : ∃ c, c < 5 ∧ v2 = nI c := by
        rcases bad v2 with z | z | z
        · exact absurd (Or.inl z) h2
        · exact absurd (Or.inr z) h2
        · exact z
      by_cases h3 : v3 < 0
      · unfold wpX_stretch wpY_stretch
        exact gx_eng1 ha (br_f gx_10 (gx_kind1 hc (br_f gx_10 (br_t h3 (gy_eng1 ha (br_f gx_10 (gy_kind1 hc (br_f gx_10 (br_t h3 ⟨rfl, rfl, rfl, rfl, rfl, rfl, I⟩)))))))))
      · by_cases h4 : v4 < v3
        · unfold wpX_stretch wpY_stretch
          exact gx_eng1 ha (br_f gx_10 (gx_kind1 hc (br_f gx_10 (br_f h3 (br_t h4 (gy_eng1 ha (br_f gx_10 (gy_kind1 hc (br_f gx_10 (br_f h3 (br_t h4 ⟨rfl, rfl, rfl, rfl, rfl, rfl, I⟩)))))))))))
        · by_cases h5 : v4 ≤ nI n
          · obtain ⟨i, hi, rfl⟩ := nI_of h3
            have h40 : ¬ v4 < 0 := fun z => by
              rw [Int32.lt_iff_toInt_lt] at z h4
              rw [nI_toInt hi] at h4
              have : (0 : Int32).toInt = 0 := rfl
              omega
            obtain ⟨j, hj, rfl⟩ := nI_of h40
            rw [nI_ltI hj hi] at h4
            rw [nI_leI hj (by omega)] at h5
            exact gx_stretchV HX hw hw3 hn ha hc (by omega) h5 fun r t az' sg' st' re' ag' li' hr => gy_stretchV HY hw hw3 hn ha hc (by omega) h5 fun r' ls' md' hr' => ⟨gx_ans hr hr', rfl, rfl, rfl, rfl, rfl, I⟩
          · unfold wpX_stretch wpY_stretch
            exact gx_eng1 ha (br_f gx_10 (gx_kind1 hc (br_f gx_10 (br_f h3 (br_f h4 (br_f h5 (gy_eng1 ha (br_f gx_10 (gy_kind1 hc (br_f gx_10 (br_f h3 (br_f h4 (br_f h5 ⟨rfl, rfl, rfl, rfl, rfl, rfl, I⟩)))))))))))))
theorem i_vc_makes {k : Nat} {u : SX} {v : SY} (I : i_Rel k u v) (hk : k + 5 ≤ 2560) (v1 : Int32) (v2 : Int32) : wpX_makes (fun r u' => wpY_makes (fun r' v' => r' = r ∧ i_Rel (k + 5) u' v') v v1 v2) u v1 v2 := by
  obtain ⟨rs, wl, az, rk, rl, ry, wd, fd, fo, sg, st, re, ag, li, fw, bg, le, ls⟩ := u
  obtain ⟨sz, mn, gr, th, kd, lg, pt, wy, lsy, md, ley⟩ := v
  obtain ⟨rfl, rfl, rfl, rfl, rfl, I⟩ := I
  obtain ⟨g, w, n, HX, HY, hw, hw3, hn, e, _⟩ := gx_data I
  subst e
  have bad : ∀ x : Int32, x < 0 ∨ nI 5 ≤ x ∨ ∃ c, c < 5 ∧ x = nI c := fun x => pk_ix x (n := 5) (by decide)
  by_cases h1 : v1 < 0 ∨ nI 5 ≤ v1
  · unfold wpX_makes wpY_makes wpY_stretch
    exact gx_eng0 h1 (br_t rfl (gy_eng0 h1 (br_t rfl ⟨rfl, rfl, rfl, rfl, rfl, rfl, rfl, I⟩)))
  · obtain ⟨a, ha, rfl⟩ : ∃ c, c < 5 ∧ v1 = nI c := by
      rcases bad v1 with z | z | z
      · exact absurd (Or.inl z) h1
      · exact absurd (Or.inr z) h1
      · exact z
    by_cases h2 : v2 < 0 ∨ nI 5 ≤ v2
    · unfold wpX_makes wpY_makes wpY_stretch
      exact gx_eng1 ha (br_f gx_10 (gx_kind0 h2 (br_t rfl (gy_eng1 ha (br_f gx_10 (gy_kind0 h2 (br_t rfl ⟨rfl, rfl, rfl, rfl, rfl, rfl, rfl, I⟩)))))))
    · obtain ⟨c, hc, rfl⟩ : ∃ c, c < 5 ∧ v2 = nI c := by
        rcases bad v2 with z | z | z
        · exact absurd (Or.inl z) h2
        · exact absurd (Or.inr z) h2
        · exact z
      refine gx_makesV HX hw hw3 hn ha hc fun r t az' sg' st' re' ag' li' hr => ?_
      unfold wpY_makes
      refine gy_stretchV HY hw hw3 hn ha hc (i := 0) (by omega) (Nat.le_refl n) fun r' ls' md' hr' => ⟨?_, gx_ans hr hr', rfl, rfl, rfl, rfl, rfl, I⟩
      exact gy_nar (hr'.elim (fun z => Or.inr z.1) (fun z => Or.inl z.1))
theorem i_vc_agree {k : Nat} {u : SX} {v : SY} (I : i_Rel k u v) (hk : k + 5 ≤ 2560) (v1 : Int32) (v2 : Int32) : wpX_agree (fun r u' => wpY_agree (fun r' => r' = r ∧ i_Rel (k + 5) u' v) v v1 v2) u v1 v2 := by
  obtain ⟨rs, wl, az, rk, rl, ry, wd, fd, fo, sg, st, re, ag, li, fw, bg, le, ls⟩ := u
  obtain ⟨sz, mn, gr, th, kd, lg, pt, wy, lsy, md, ley⟩ := v
  obtain ⟨rfl, rfl, rfl, rfl, rfl, I⟩ := I
  obtain ⟨g, w, n, HX, HY, hw, hw3, hn, e, _⟩ := gx_data I
  subst e
  have bad : ∀ x : Int32, x < 0 ∨ nI 5 ≤ x ∨ ∃ c, c < 5 ∧ x = nI c := fun x => pk_ix x (n := 5) (by decide)
  unfold wpX_agree wpY_agree
  by_cases h1 : v1 < 0 ∨ nI 5 ≤ v1
  · exact gx_eng0 h1 (br_t rfl (gy_eng0 h1 (br_t rfl ⟨rfl, rfl, rfl, rfl, rfl, rfl, I⟩)))
  · obtain ⟨a, ha, rfl⟩ : ∃ c, c < 5 ∧ v1 = nI c := by
      rcases bad v1 with z | z | z
      · exact absurd (Or.inl z) h1
      · exact absurd (Or.inr z) h1
      · exact z
    by_cases h2 : v2 < 0 ∨ nI 5 ≤ v2
    · exact gx_eng1 ha (br_f gx_10 (gx_eng0 h2 (br_t rfl (gy_eng1 ha (br_f gx_10 (gy_eng0 h2 (br_t rfl ⟨rfl, rfl, rfl, rfl, rfl, rfl, I⟩)))))))
    · obtain ⟨c, hc, rfl⟩ : ∃ c, c < 5 ∧ v2 = nI c := by
        rcases bad v2 with z | z | z
        · exact absurd (Or.inl z) h2
        · exact absurd (Or.inr z) h2
        · exact z
      refine gx_eng1 ha (br_f gx_10 (gx_eng1 hc (br_f gx_10 (gx_fill_found HX hw hw3 hn ha fun t az' sg' st' re' ag' li' ok => gx_fill_foundByOther HX hw hw3 hn hc fun t2 az2 sg2 st2 re2 ag2 li2 ok2 => gx_agree36 hn ok ok2 ?_))))
      exact gy_eng1 ha (br_f gx_10 (gy_eng1 hc (br_f gx_10 ⟨rfl, rfl, rfl, rfl, rfl, rfl, I⟩)))

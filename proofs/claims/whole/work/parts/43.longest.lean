/-! longest, parts -/
theorem gx_m3 {t : Nat} (h : t < 1000) : ¬ nI t = -3 := fun z => by
  have e := congrArg Int32.toInt z
  rw [nI_toInt (by omega), show (-3 : Int32).toInt = -3 from by decide] at e
  omega
theorem gx_m3l {t : Nat} (h : t < 1000) : ¬ nI t ≤ -3 := fun z => by
  rw [Int32.le_iff_toInt_le, nI_toInt (by omega), show (-3 : Int32).toInt = -3 from by decide] at z
  omega
def gl_I (P D : Nat → Nat → Prop) (x : Int32) : Prop := (x = -3 ∧ ∀ a b, P a b → ¬ D a b) ∨ ∃ a b, P a b ∧ D a b ∧ x = nI (b - a) ∧ ∀ c d, P c d → D c d → d - c ≤ b - a
theorem gl_Iw {P D D' : Nat → Nat → Prop} {x : Int32} (h : ∀ a b, P a b → (D a b ↔ D' a b)) (I : gl_I P D x) : gl_I P D' x := by
  rcases I with ⟨e, z⟩ | ⟨a, b, h1, h2, h3, h4⟩
  · exact Or.inl ⟨e, fun a b p d => z a b p ((h a b p).mpr d)⟩
  · exact Or.inr ⟨a, b, h1, (h a b h1).mp h2, h3, fun c d p q => h4 c d p ((h c d p).mpr q)⟩
theorem gl_step {P D D' : Nat → Nat → Prop} {x : Int32} {i j : Nat} (hb : ∀ a b, P a b → b ≤ 10) (hj : j ≤ 10) (hD : ∀ a b, P a b → (D' a b ↔ D a b ∨ (a = i ∧ b = j))) (I : gl_I P D x) :
    (P i j → nI (j - i) ≤ x → gl_I P D' x) ∧ (P i j → ¬ nI (j - i) ≤ x → gl_I P D' (nI (j - i))) ∧ (¬ P i j → gl_I P D' x) := by
  refine ⟨fun p hx => ?_, fun p hx => ?_, fun p => ?_⟩
  · rcases I with ⟨e, z⟩ | ⟨a, b, h1, h2, h3, h4⟩
    · rw [e] at hx
      exact absurd hx (gx_m3l (by omega))
    · have hb1 := hb a b h1
      rw [h3, nI_leI (by omega) (by omega)] at hx
      refine Or.inr ⟨a, b, h1, (hD a b h1).mpr (Or.inl h2), h3, fun c d q r => ?_⟩
      rcases (hD c d q).mp r with y | ⟨y1, y2⟩
      · exact h4 c d q y
      · rw [y1, y2]; exact hx
  · refine Or.inr ⟨i, j, p, (hD i j p).mpr (Or.inr ⟨rfl, rfl⟩), rfl, fun c d q r => ?_⟩
    rcases (hD c d q).mp r with y | ⟨y1, y2⟩
    · rcases I with ⟨e, z⟩ | ⟨a, b, h1, h2, h3, h4⟩
      · exact absurd y (z c d q)
      · have hb1 := hb a b h1
        rw [h3, nI_leI (by omega) (by omega)] at hx
        have := h4 c d q y
        omega
    · rw [y1, y2]; exact Nat.le_refl _
  · refine gl_Iw (fun a b q => ?_) I
    rw [hD a b q]
    refine ⟨Or.inl, fun y => y.resolve_right fun z => ?_⟩
    rw [z.1, z.2] at q
    exact p q
theorem gl_end {P D : Nat → Nat → Prop} {x : Int32} (h : ∀ a b, P a b → D a b) (I : gl_I P D x) : gl_F P x := by
  rcases I with ⟨e, z⟩ | ⟨a, b, h1, h2, h3, h4⟩
  · exact Or.inl ⟨e, fun a b p => z a b p (h a b p)⟩
  · exact Or.inr ⟨a, b, h1, h3, fun c d p => h4 c d p (h c d p)⟩
section xlong
variable {rs wl az : Int32} {rk rl ry wd fd fo sg st re ag li fw bg le ls : Nat → Int32} {g : gm_G} {w : Nat → Nat} {n : Nat}
theorem gx_longest30 {post : Int32 → SX → Prop} (hn : n ≤ 10) (ok : gt_ok g w n fd) {k : Nat} (hk : k < 5) (h : ∀ x, gl_F (gm_mk g w n k) x → post x (rs, nI n, az, rk, rl, ry, wd, fd, fo, sg, st, re, ag, li, fw, bg, le, ls)) : ∃ f, wX_longest_30 post (nI k) rs (nI n) az rk rl ry wd fd fo sg st re ag li fw bg le ls f (-3) 0 := by
  have hb : ∀ a b, gm_mk g w n k a b → b ≤ 10 := fun a b z => by have := gm_mb z; omega
  refine pk_loop (fun f i (x : Int32) => wX_longest_30 post (nI k) rs (nI n) az rk rl ry wd fd fo sg st re ag li fw bg le ls f x (nI i)) (fun i x => gl_I (gm_mk g w n k) (fun a _ => a < i) x) (n + 1) 0 (-3) (by omega) (Or.inl ⟨rfl, fun a b _ z => absurd z (by omega)⟩) ?_ ?_
  · intro f x I
    exact br_t (nI_lt (Nat.lt_succ_self n) (by omega)) (h x (gl_end (fun a b p => by have := gm_mb p; omega) I))
  · intro f i x hi I ih
    refine br_f (nI_nlt (by omega) (by omega)) ?_
    refine pk_loop (fun f2 j (x : Int32) => wX_longest_41 post (wX_longest_30 post (nI k) rs (nI n) az rk rl ry wd fd fo sg st re ag li fw bg le ls f) (nI k) (nI i) rs (nI n) az rk rl ry wd fd fo sg st re ag li fw bg le ls f2 x (nI j)) (fun j x => i ≤ j ∧ gl_I (gm_mk g w n k) (fun a b => a < i ∨ (a = i ∧ b < j)) x) (n + 1) i x (by omega) ⟨Nat.le_refl _, gl_Iw (fun a b p => by have := gm_mb p; omega) I⟩ ?_ ?_
    · intro f2 x2 ⟨_, I2⟩
      exact br_t (nI_lt (Nat.lt_succ_self n) (by omega)) (nm_r (nI_1 i) (ih x2 (gl_Iw (fun a b p => by have := gm_mb p; omega) I2)))
    · intro f2 j x2 hj ⟨hij, I2⟩ ih2
      refine br_f (nI_nlt (by omega) (by omega)) ?_
      have es : nI j - nI i = nI (j - i) := pk_sub hij
      rw [gx_c11, gx_cl (by omega), es]
      obtain ⟨a1, a2, a3⟩ := gl_step (D' := fun a b => a < i ∨ (a = i ∧ b < j + 1)) (i := i) (j := j) hb (by omega) (fun a b p => by omega) I2
      refine And.intro (gx_in (by omega) (by decide)) (gx_bit (by omega) (fun z => ?_) (fun z => nm_r (nI_1 j) (ih2 x2 ⟨by omega, a3 fun y => ?_⟩)))
      · have p := (ok k i j).mp ⟨hij, by omega, z⟩
        exact br_c (fun y => nm_r (nI_1 j) (ih2 x2 ⟨by omega, a1 p y⟩)) (fun y => nm_e (nm_r (nI_1 j) (ih2 _ ⟨by omega, a2 p y⟩)))
      · have y2 := ((ok k i j).mpr y).2.2
        rw [z] at y2
        exact absurd y2 (by decide)
/-! parts -/
def gp_I (P : Nat → Nat → Prop) (j i : Nat) (x : Int32) : Prop := (x = -3 ∧ ∀ c, c < i → P c j → ∀ t, ¬ gp_r P t c) ∨ ∃ t, x = nI (t + 1) ∧ (∃ c, c < i ∧ P c j ∧ gp_r P t c) ∧ ∀ c, c < i → P c j → ∀ u, gp_r P u c → t ≤ u
theorem gp_end {P : Nat → Nat → Prop} {j : Nat} {x : Int32} (hj : 0 < j) (I : gp_I P j j x) : gp_F P j x := by
  rcases I with ⟨e, z⟩ | ⟨t, e, ⟨c, h1, h2, h3⟩, h4⟩
  · refine Or.inr ⟨e, fun t => ?_⟩
    cases t with
    | zero => exact fun y => absurd (show j = 0 from y) (by omega)
    | succ t => exact fun ⟨c, h1, h2, h3⟩ => z c h1 h3 t h2
  · refine Or.inl ⟨t + 1, e, ⟨c, h1, h3, h2⟩, fun u hu => ?_⟩
    cases u with
    | zero => exact fun y => absurd (show j = 0 from y) (by omega)
    | succ u => exact fun ⟨d, d1, d2, d3⟩ => absurd (h4 d d1 d3 u d2) (by omega)
theorem gx_fewestUpTo {post : Int32 → Prop} (hn : n ≤ 10) (ok : gt_ok g w n fd) {k j : Nat} (hk : k < 5) (hj0 : 0 < j) (hj : j ≤ n) (hF : ∀ x, x < j → gp_F (gm_mk g w n k) x (fw x)) (h : ∀ x, gp_F (gm_mk g w n k) j x → post x) : wpX_fewestUpTo post (rs, wl, az, rk, rl, ry, wd, fd, fo, sg, st, re, ag, li, fw, bg, le, ls) (nI j) (nI k) := by
  refine pk_loop (fun f i (x : Int32) => wX_fewestUpTo_6 post (nI j) (nI k) rs wl az rk rl ry wd fd fo sg st re ag li fw bg le ls f x (nI i)) (fun i x => gp_I (gm_mk g w n k) j i x) j 0 (-3) (by omega) (Or.inl ⟨rfl, fun c hc => absurd hc (by omega)⟩) ?_ ?_
  · intro f x I
    exact br_t (nI_le (Nat.le_refl _) (by omega)) (h x (gp_end hj0 I))
  · intro f i x hi I ih
    refine br_f (nI_ge hi (by omega)) ?_
    have v : vp_in (nI i) 11 := gx_in (by omega) (by decide)
    have ecl : (nI i).toNatClampNeg = i := gx_cl (by omega)
    have skip : (¬ gm_mk g w n k i j ∨ ∀ t, ¬ gp_r (gm_mk g w n k) t i) → gp_I (gm_mk g w n k) j (i + 1) x := by
      intro hno
      rcases I with ⟨e, z⟩ | ⟨t, e, ⟨c, h1, h2, h3⟩, h4⟩
      · refine Or.inl ⟨e, lt_s z fun p t y => ?_⟩
        rcases hno with q | q
        · exact q p
        · exact q t y
      · refine Or.inr ⟨t, e, ⟨c, by omega, h2, h3⟩, lt_s h4 fun p u y => ?_⟩
        rcases hno with q | q
        · exact absurd p q
        · exact absurd y (q u)
    rw [gx_c11, gx_cl (by omega)]
    refine And.intro (gx_in (by omega) (by decide)) (gx_bit (by omega) (fun z => br_f gx_10 (And.intro v ?_)) (fun z => br_t rfl (nm_r (nI_1 i) (ih x (skip (Or.inl fun y => ?_))))))
    · have p := (ok k i j).mp ⟨by omega, hj, z⟩
      rw [ecl]
      rcases hF i hi with ⟨t, e, h1, h2⟩ | ⟨e, h1⟩
      · have ht := gp_le t i h1
        have low : ∀ u, gp_r (gm_mk g w n k) u i → t ≤ u := fun u y => Nat.le_of_not_lt fun q => h2 u q y
        rw [e, nI_1 t]
        have take : gp_I (gm_mk g w n k) j (i + 1) (nI (t + 1)) → wX_fewestUpTo_74 post (wX_fewestUpTo_6 post (nI j) (nI k) rs wl az rk rl ry wd fd fo sg st re ag li fw bg le ls f) (nI j) (nI k) (nI i) rs wl az rk rl ry wd fd fo sg st re ag li fw bg le ls := fun z => And.intro v (nm_r (e' := nI (t + 1)) (by rw [ecl, e, nI_1]) (nm_r (nI_1 i) (ih _ z)))
        refine br_f (gx_m3 (by omega)) (br_c (fun x0 => take ?_) (fun x0 => And.intro v (br_c (fun y => nm_r (nI_1 i) (ih x ?_)) (fun y => take ?_))))
        · rcases I with ⟨e2, z2⟩ | ⟨t2, e2, _, _⟩
          · exact Or.inr ⟨t, rfl, ⟨i, by omega, p, h1⟩, lt_s (fun c hc q u y => absurd y (z2 c hc q u)) fun _ => low⟩
          · rw [e2] at x0
            rename_i a _
            obtain ⟨c, c1, c2, c3⟩ := a
            have := gp_le t2 c c3
            exact absurd x0 (gx_m3 (by omega))
        · rcases I with ⟨e2, _⟩ | ⟨t2, e2, ⟨c, c1, c2, c3⟩, h4⟩
          · exact absurd e2 x0
          · have := gp_le t2 c c3
            rw [e2, nI_leI (by omega) (by omega)] at y
            exact Or.inr ⟨t2, e2, ⟨c, by omega, c2, c3⟩, lt_s h4 fun _ u y2 => by have := low u y2; omega⟩
        · rcases I with ⟨e2, _⟩ | ⟨t2, e2, ⟨c, c1, c2, c3⟩, h4⟩
          · exact absurd e2 x0
          · have := gp_le t2 c c3
            rw [e2, nI_leI (by omega) (by omega)] at y
            exact Or.inr ⟨t, rfl, ⟨i, by omega, p, h1⟩, lt_s (fun c hc q u y2 => by have := h4 c hc q u y2; omega) fun _ => low⟩
      · rw [e]
        exact br_t rfl (nm_r (nI_1 i) (ih x (skip (Or.inr h1))))
    · have y2 := ((ok k i j).mpr y).2.2
      rw [z] at y2
      exact absurd y2 (by decide)
theorem gx_parts34 {post : Int32 → SX → Prop} (hn : n ≤ 10) (ok : gt_ok g w n fd) {k : Nat} (hk : k < 5) (h : ∀ x fw', gp_F (gm_mk g w n k) n x → post x (rs, nI n, az, rk, rl, ry, wd, fd, fo, sg, st, re, ag, li, fw', bg, le, ls)) : ∃ f, wX_parts_34 post (nI k) rs (nI n) az f 1 rk rl ry wd fd fo sg st re ag li (upd fw 0 0) bg le ls := by
  refine pk_loop (fun f j (a : Nat → Int32) => wX_parts_34 post (nI k) rs (nI n) az f (nI j) rk rl ry wd fd fo sg st re ag li a bg le ls) (fun j a => 0 < j ∧ ∀ x, x < j → gp_F (gm_mk g w n k) x (a x)) (n + 1) 1 (upd fw 0 0) (by omega) ⟨by decide, fun x hx => ?_⟩ ?_ ?_
  · have e : x = 0 := by omega
    rw [e]
    exact Or.inl ⟨0, rfl, rfl, fun u hu => absurd hu (by omega)⟩
  · intro f a ⟨_, hI⟩
    refine br_t (nI_lt (Nat.lt_succ_self n) (by omega)) (And.intro (gx_in (by omega) (by decide)) ?_)
    rw [gx_cl (by omega)]
    exact h (a n) a (hI n (Nat.lt_succ_self n))
  · intro f j a hj ⟨hj0, hI⟩ ih
    refine br_f (nI_nlt (by omega) (by omega)) (gx_fewestUpTo hn ok hk hj0 (by omega) hI fun x hx => And.intro (gx_in (by omega) (by decide)) (nm_r (e' := upd a j x) (by rw [gx_cl (by omega)]) (nm_r (nI_1 j) (ih _ ⟨by omega, fun y hy => ?_⟩))))
    rw [gb_u]
    by_cases e : y = j
    · rw [if_pos e, e]; exact hx
    · rw [if_neg e]; exact hI y (by omega)
end xlong
section ylong
variable {sz mn gr : Int32} {th kd lg pt wd ls md le : Nat → Int32} {g : gm_G} {w : Nat → Nat} {n : Nat}
theorem gy_longest19 {post : Int32 → SY → Prop} (hn : n ≤ 10) (hl : ∀ i, i < n → ls i = nI (w i)) (hw3 : ∀ i, w i < 3) (hz : gy_Z md) (ok : gy_ok g w n md) {k : Nat} (hk : k < 5) (h : ∀ x, gl_F (gm_mk g w n k) x → post x (nI n, mn, gr, th, kd, lg, pt, wd, ls, md, le)) : ∃ f, wY_longest_19 post (nI k) (nI n) mn gr th kd lg pt wd ls md le f (-3) 0 := by
  have hb : ∀ a b, gm_mk g w n k a b → b ≤ 10 := fun a b z => by have := gm_mb z; omega
  refine pk_loop (fun f i (x : Int32) => wY_longest_19 post (nI k) (nI n) mn gr th kd lg pt wd ls md le f x (nI i)) (fun i x => gl_I (gm_mk g w n k) (fun a _ => a < i) x) (n + 1) 0 (-3) (by omega) (Or.inl ⟨rfl, fun a b _ z => absurd z (by omega)⟩) ?_ ?_
  · intro f x I
    exact br_t (nI_lt (Nat.lt_succ_self n) (by omega)) (h x (gl_end (fun a b p => by have := gm_mb p; omega) I))
  · intro f i x hi I ih
    refine br_f (nI_nlt (by omega) (by omega)) ?_
    refine pk_loop (fun f2 j (x : Int32) => wY_longest_30 post (wY_longest_19 post (nI k) (nI n) mn gr th kd lg pt wd ls md le f) (nI k) (nI i) (nI n) mn gr th kd lg pt wd ls md le f2 x (nI j)) (fun j x => i ≤ j ∧ gl_I (gm_mk g w n k) (fun a b => a < i ∨ (a = i ∧ b < j)) x) (n + 1) i x (by omega) ⟨Nat.le_refl _, gl_Iw (fun a b p => by have := gm_mb p; omega) I⟩ ?_ ?_
    · intro f2 x2 ⟨_, I2⟩
      exact br_t (nI_lt (Nat.lt_succ_self n) (by omega)) (nm_r (nI_1 i) (ih x2 (gl_Iw (fun a b p => by have := gm_mb p; omega) I2)))
    · intro f2 j x2 hj ⟨hij, I2⟩ ih2
      have es : nI j - nI i = nI (j - i) := pk_sub hij
      obtain ⟨a1, a2, a3⟩ := gl_step (D' := fun a b => a < i ∨ (a = i ∧ b < j + 1)) (i := i) (j := j) hb (by omega) (fun a b p => by omega) I2
      refine br_f (nI_nlt (by omega) (by omega)) (gy_covers hl hw3 hn hz (by omega) hij (by omega) (fun D => br_f gx_10 ?_) (fun D => br_t rfl (nm_r (nI_1 j) (ih2 x2 ⟨by omega, a3 fun y => D ((gy_Dk hk hn ok hij (by omega)).mpr y)⟩))))
      have p := (gy_Dk hk hn ok hij (by omega)).mp D
      rw [es]
      exact br_c (fun y => nm_r (nI_1 j) (ih2 x2 ⟨by omega, a1 p y⟩)) (fun y => nm_e (nm_r (nI_1 j) (ih2 _ ⟨by omega, a2 p y⟩)))
theorem gx_one {x : Int32} {s : Nat} {A B : Prop} (hs : s < 32) (h1 : bt x s = true → A) (h0 : bt x s = false → B) : (((x >>> (nI s &&& 31)) &&& 1) = 1 → A) ∧ (¬ ((x >>> (nI s &&& 31)) &&& 1) = 1 → B) := by
  rw [gb_val x hs]
  cases h : bt x s with
  | true => exact ⟨fun _ => h1 h, fun z => absurd rfl z⟩
  | false => exact ⟨fun z => absurd z (by decide), fun _ => h0 h⟩
theorem gy_behind {post : Int32 → Prop} (hn : n ≤ 10) (hl : ∀ i, i < n → ls i = nI (w i)) (hw3 : ∀ i, w i < 3) (hz : gy_Z md) (ok : gy_ok g w n md) {k : Nat} (hk : k < 5) {x : Int32} (h : ∀ y, (∀ j, bt y j = true ↔ ∃ i, i < j ∧ j ≤ n ∧ bt x i = true ∧ gm_mk g w n k i j) → post y) : wpY_behind post (nI n, mn, gr, th, kd, lg, pt, wd, ls, md, le) (nI k) x := by
  refine pk_loop (fun f c (y : Int32) => wY_behind_5 post (nI k) x (nI n) mn gr th kd lg pt wd ls md le f y (nI c)) (fun c y => ∀ j, bt y j = true ↔ ∃ i, i * 11 + j < c ∧ i < j ∧ j ≤ n ∧ bt x i = true ∧ gm_mk g w n k i j) 121 0 0 (by omega) (fun j => by rw [b_0]; exact ⟨fun z => absurd z (by decide), fun ⟨i, z, _⟩ => absurd z (by omega)⟩) ?_ ?_
  · intro f y hI
    refine br_t (nI_le (Nat.le_refl _) (by decide)) (h y fun j => ?_)
    rw [hI j]
    exact ⟨fun ⟨i, _, z⟩ => ⟨i, z⟩, fun ⟨i, z⟩ => ⟨i, by have := z.1; have := z.2.1; omega, z⟩⟩
  · intro f c y hc hI ih
    have skip : ¬ (c / 11 < c % 11 ∧ c % 11 ≤ n ∧ bt x (c / 11) = true ∧ gm_mk g w n k (c / 11) (c % 11)) → ∀ j, bt y j = true ↔ ∃ i, i * 11 + j < c + 1 ∧ i < j ∧ j ≤ n ∧ bt x i = true ∧ gm_mk g w n k i j := by
      intro hno j
      rw [hI j]
      refine ⟨fun ⟨i, z1, z2⟩ => ⟨i, by omega, z2⟩, fun ⟨i, z1, z2⟩ => ⟨i, ?_, z2⟩⟩
      rcases Nat.lt_or_ge (i * 11 + j) c with q | q
      · exact q
      · have hjn := z2.2.1
        have e1 : i = c / 11 := by omega
        have e2 : j = c % 11 := by omega
        rw [e1, e2] at z2
        exact absurd z2 hno
    have d1 : nI c / 11 = nI (c / 11) := pk_div (d := 11) (by omega) (by decide) (by decide)
    have d2 : nI c - nI c / 11 * 11 = nI (c % 11) := pk_rem (d := 11) (by omega) (by decide) (by decide)
    have off : ¬ (c / 11 < c % 11 ∧ c % 11 ≤ n ∧ bt x (c / 11) = true ∧ gm_mk g w n k (c / 11) (c % 11)) → wY_behind_68 post (wY_behind_5 post (nI k) x (nI n) mn gr th kd lg pt wd ls md le f) (nI k) x y (nI c) (nI (c % 11)) (nI n) mn gr th kd lg pt wd ls md le := fun hno => br_t rfl (nm_r (nI_1 c) (ih y (skip hno)))
    refine br_f (nI_ge hc (by decide)) (And.intro (by decide) (nm_r d1 (And.intro (by decide) (nm_r d2 ?_))))
    refine pk_le (c % 11) (c / 11) (fun q => off fun z => absurd z.1 (by omega)) (fun q => pk_lt n (c % 11) (fun q2 => off fun z => absurd z.2.1 (by omega)) (fun q2 => gx_one (by omega) (fun q3 => ?_) (fun q3 => off fun z => by rw [q3] at z; exact absurd z.2.2.1 (by decide))))
    refine gy_covers hl hw3 hn hz (by omega) (by omega) q2 (fun D => br_f gx_10 ?_) (fun D => br_t rfl (off fun z => D ((gy_Dk hk hn ok (by omega) q2).mpr z.2.2.2)))
    have p := (gy_Dk hk hn ok (by omega) q2).mp D
    refine br_f gx_10 (nm_e (nm_r (nI_1 c) (ih _ fun j => ?_)))
    rw [gb_add y (by omega), hI j]
    constructor
    · intro z
      rcases z with ⟨i, z1, z2⟩ | z
      · exact ⟨i, by omega, z2⟩
      · rw [z]
        exact ⟨c / 11, by omega, q, q2, q3, p⟩
    · intro ⟨i, z1, z2⟩
      by_cases e : j = c % 11
      · exact Or.inr e
      · refine Or.inl ⟨i, ?_, z2⟩
        have hjn := z2.2.1
        omega
theorem gy_parts18 {post : Int32 → SY → Prop} (hn : n ≤ 10) (hl : ∀ i, i < n → ls i = nI (w i)) (hw3 : ∀ i, w i < 3) (hz : gy_Z md) (ok : gy_ok g w n md) {k : Nat} (hk : k < 5) (h : ∀ x, gp_F (gm_mk g w n k) n x → post x (nI n, mn, gr, th, kd, lg, pt, wd, ls, md, le)) : ∃ f, wY_parts_18 post (nI k) (nI n) mn gr th kd lg pt wd ls md le f 1 0 := by
  refine pk_loop (fun f c (x : Int32) => wY_parts_18 post (nI k) (nI n) mn gr th kd lg pt wd ls md le f x (nI c)) (fun c x => (∀ s, bt x s = true ↔ s ≤ n ∧ gp_r (gm_mk g w n k) c s) ∧ ∀ u, u < c → ¬ gp_r (gm_mk g w n k) u n) (n + 1) 0 1 (by omega) ⟨fun s => ?_, lt_0⟩ ?_ ?_
  · rcases Nat.lt_or_ge s 32 with z | z
    · rw [gb_one s z]
      exact ⟨fun y => by have y2 := of_decide_eq_true y; exact ⟨by omega, y2⟩, fun y => decide_eq_true y.2⟩
    · rw [b_big z]
      exact ⟨fun y => absurd y (by decide), fun y => absurd y.1 (by omega)⟩
  · intro f x ⟨_, hI⟩
    exact br_t (nI_lt (Nat.lt_succ_self n) (by omega)) (h _ (Or.inr ⟨rfl, fun t z => hI t (by have := gp_le t n z; omega) z⟩))
  · intro f c x hc ⟨hx, hI⟩ ih
    refine br_f (nI_nlt (by omega) (by omega)) (gx_one (by omega) (fun z => h _ (Or.inl ⟨c, rfl, ((hx n).mp z).2, hI⟩)) (fun z => gy_behind hn hl hw3 hz ok hk fun y hy => nm_r (nI_1 c) (ih y ⟨fun s => ?_, lt_s hI fun q => ?_⟩)))
    · rw [hy s]
      constructor
      · intro ⟨i, z1, z2, z3, z4⟩
        exact ⟨z2, i, z1, ((hx i).mp z3).2, z4⟩
      · intro ⟨z1, i, z2, z3, z4⟩
        exact ⟨i, z2, z1, (hx i).mpr ⟨by omega, z3⟩, z4⟩
    · have z2 := (hx n).mpr ⟨Nat.le_refl _, q⟩
      rw [z] at z2
      exact absurd z2 (by decide)
end ylong
theorem i_vc_longest {k : Nat} {u : SX} {v : SY} (I : i_Rel k u v) (hk : k + 5 ≤ 2560) (v1 : Int32) : wpX_longest (fun r u' => wpY_longest (fun r' v' => r' = r ∧ i_Rel (k + 5) u' v') v v1) u v1 := by
  obtain ⟨rs, wl, az, rk, rl, ry, wd, fd, fo, sg, st, re, ag, li, fw, bg, le, ls⟩ := u
  obtain ⟨sz, mn, gr, th, kd, lg, pt, wy, lsy, md, ley⟩ := v
  obtain ⟨rfl, rfl, rfl, rfl, rfl, I⟩ := I
  obtain ⟨g, w, n, HX, HY, hw, hw3, hn, e, _⟩ := gx_data I
  subst e
  unfold wpX_longest wpY_longest
  by_cases h1 : v1 < 0 ∨ nI 5 ≤ v1
  · exact gx_kind0 h1 (br_t rfl (gy_kind0 h1 (br_t rfl ⟨rfl, rfl, rfl, rfl, rfl, rfl, I⟩)))
  · obtain ⟨a, ha, rfl⟩ : ∃ c, c < 5 ∧ v1 = nI c := by
      rcases pk_ix v1 (n := 5) (by decide) with z | z | z
      · exact absurd (Or.inl z) h1
      · exact absurd (Or.inr z) h1
      · exact z
    refine gx_kind1 ha (br_f gx_10 (gx_byLength_word_found HX (fun i _ => hw i) hw3 hn fun t sg' ok => gx_longest30 hn ok ha fun x hx => ?_))
    exact gy_kind1 ha (br_f gx_10 (gy_read HY (fun i _ => hw i) hw3 hn fun ls' md' hl hz ok2 => gy_longest19 hn hl hw3 hz ok2 ha fun x' hx' => ⟨gl_un hx' hx, rfl, rfl, rfl, rfl, rfl, I⟩))
theorem i_vc_parts {k : Nat} {u : SX} {v : SY} (I : i_Rel k u v) (hk : k + 5 ≤ 2560) (v1 : Int32) : wpX_parts (fun r u' => wpY_parts (fun r' v' => r' = r ∧ i_Rel (k + 5) u' v') v v1) u v1 := by
  obtain ⟨rs, wl, az, rk, rl, ry, wd, fd, fo, sg, st, re, ag, li, fw, bg, le, ls⟩ := u
  obtain ⟨sz, mn, gr, th, kd, lg, pt, wy, lsy, md, ley⟩ := v
  obtain ⟨rfl, rfl, rfl, rfl, rfl, I⟩ := I
  obtain ⟨g, w, n, HX, HY, hw, hw3, hn, e, _⟩ := gx_data I
  subst e
  unfold wpX_parts wpY_parts
  by_cases h1 : v1 < 0 ∨ nI 5 ≤ v1
  · exact gx_kind0 h1 (br_t rfl (gy_kind0 h1 (br_t rfl ⟨rfl, rfl, rfl, rfl, rfl, rfl, I⟩)))
  · obtain ⟨a, ha, rfl⟩ : ∃ c, c < 5 ∧ v1 = nI c := by
      rcases pk_ix v1 (n := 5) (by decide) with z | z | z
      · exact absurd (Or.inl z) h1
      · exact absurd (Or.inr z) h1
      · exact z
    refine gx_kind1 ha (br_f gx_10 (gx_byLength_word_found HX (fun i _ => hw i) hw3 hn fun t sg' ok => nm_e (gx_parts34 hn ok ha fun x fw' hx => ?_)))
    exact gy_kind1 ha (br_f gx_10 (gy_read HY (fun i _ => hw i) hw3 hn fun ls' md' hl hz ok2 => gy_parts18 hn hl hw3 hz ok2 ha fun x' hx' => ⟨gp_un hx' hx, rfl, rfl, rfl, rfl, rfl, I⟩))

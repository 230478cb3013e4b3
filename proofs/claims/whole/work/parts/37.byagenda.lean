section xbyagenda_found
variable {rs wl : Int32} {rk rl ry wd fd fo sg st re fw bg le ls : Nat → Int32} {g : gm_G} {w : Nat → Nat} {n : Nat}
theorem gx_goOn_found {post : SX → Prop} (H : gx_G g rs rk rl ry) {m : Nat} {ag li : Nat → Int32} (A : gg_A (m, ag, li)) (S : gg_S g w n li) (TS : gt_S g w n fd) {p i c : Nat} (hn : n ≤ 10) (hp : p < 64) (hi : i ≤ 10) (hc : c ≤ 10) (hd : p % 4 < gm_l g (p / 4)) (hF : gg_F g w n p i c)
    (h : ∀ s, gg_R g w n (m, ag, li) s → (∀ b, c ≤ b → b ≤ n → bt (fd (c * 11 + b)) (gm_y g (p / 4) (p % 4)) = true → s.2.2 ((p + 1) * 121 + i * 11 + b) = 1) → post (rs, wl, nI s.1, rk, rl, ry, wd, fd, fo, sg, st, re, s.2.1, s.2.2, fw, bg, le, ls)) : wpX_goOn__found post (rs, wl, nI m, rk, rl, ry, wd, fd, fo, sg, st, re, ag, li, fw, bg, le, ls) (nI p) (nI (i * 11 + c)) (nI n) := by
  have h3 := H.1.2.1 (p / 4)
  have h8 := H.1.2.2 (p / 4) (p % 4)
  have hr : p / 4 < 16 := by omega
  have e1 : nI (i * 11 + c) / 11 = nI i := (pk_div (a := i * 11 + c) (d := 11) (by omega) (by decide) (by decide)).trans (congrArg nI (by omega))
  have e2 : nI (i * 11 + c) - nI (i * 11 + c) / 11 * 11 = nI c := (pk_rem (a := i * 11 + c) (d := 11) (by omega) (by decide) (by decide)).trans (congrArg nI (by omega))
  refine And.intro (by decide) (nm_r e1 (And.intro (by decide) (nm_r e2 (And.intro (by decide) (And.intro (by decide) ?_)))))
  rw [gx_rem4 p (by omega), gx_div4 p (by omega)]
  refine gx_symbolAt H hr (by omega) ?_
  have hFn := hF.2.2.2.1
  refine pk_loop (fun f b (s : Nat × (Nat → Int32) × (Nat → Int32)) => wX_goOn__found_28 post (nI p) (nI n) (nI i) (nI c) (nI (gm_y g (p / 4) (p % 4))) f (nI b) rs wl (nI s.1) rk rl ry wd fd fo sg st re s.2.1 s.2.2 fw bg le ls) (fun b s => c ≤ b ∧ gg_R g w n (m, ag, li) s ∧ ∀ x, x < b → c ≤ x → bt (fd (c * 11 + x)) (gm_y g (p / 4) (p % 4)) = true → s.2.2 ((p + 1) * 121 + i * 11 + x) = 1) (n + 1) c (m, ag, li) (by omega) ⟨Nat.le_refl _, gg_rf A S, fun x hx hcx => absurd hx (by omega)⟩ ?_ ?_
  · intro f s ⟨_, R, hI⟩
    exact br_t (nI_lt (Nat.lt_succ_self n) (by omega)) (h s R fun b h1 h2 h4 => hI b (by omega) h1 h4)
  · intro f b s hb ⟨hcb, R, hI⟩ ih
    obtain ⟨m1, ag1, li1⟩ := s
    refine br_f (nI_nlt (by omega) (by omega)) ?_
    rw [gx_c11, gx_cl (n := c * 11 + b) (by omega)]
    refine And.intro (gx_in (by omega) (by decide)) (gx_bit (by omega) (fun hbt => ?_) (fun hbt => nm_r (nI_1 b) (ih (m1, ag1, li1) ⟨by omega, R, lt_s hI fun _ z => ?_⟩)))
    · rw [nI_1 p]
      exact gx_listItem R.1 R.2.1 (p := p + 1) (i := i) (j := b) (by omega) hi (by omega) (gg_Fn H.1 hd hF (TS _ c b hc (by omega) hbt)) fun s2 R2 e5 => nm_r (nI_1 b) (ih s2 ⟨by omega, gg_tr R R2, lt_s (fun x hx h1 h2 => R2.2.2.2.2 _ (by omega) (hI x hx h1 h2)) fun _ _ => e5⟩)
    · rw [hbt] at z
      exact absurd z (by decide)
theorem gx_finish_found {post : SX → Prop} (H : gx_G g rs rk rl ry) {m : Nat} {ag li : Nat → Int32} (A : gg_A (m, ag, li)) (S : gg_S g w n li) {k i j : Nat} (hn : n ≤ 10) (hk : k < 5) (hi : i ≤ 10) (hj : j ≤ 10) (hmk : gm_mk g w n k i j)
    (h : ∀ s t', gg_R g w n (m, ag, li) s → ((t' = fd ∧ bt (fd (i * 11 + j)) k = true) ∨ (t' = upd fd (i * 11 + j) (fd (i * 11 + j) ||| ((1 : Int32) <<< (nI k &&& 31))) ∧ ∀ x, x < 64 → x % 4 < gm_l g (x / 4) → gm_y g (x / 4) (x % 4) = k → ∀ a, a ≤ i → li (x * 121 + a * 11 + i) = 1 → s.2.2 ((x + 1) * 121 + a * 11 + j) = 1)) → post (rs, wl, nI s.1, rk, rl, ry, wd, t', fo, sg, st, re, s.2.1, s.2.2, fw, bg, le, ls)) : wpX_finish__found post (rs, wl, nI m, rk, rl, ry, wd, fd, fo, sg, st, re, ag, li, fw, bg, le, ls) (nI k) (nI (i * 11 + j)) := by
  have v : vp_in (nI (i * 11 + j)) 121 := gx_in (by omega) (by decide)
  have e1 : nI (i * 11 + j) / 11 = nI i := (pk_div (a := i * 11 + j) (d := 11) (by omega) (by decide) (by decide)).trans (congrArg nI (by omega))
  have e2 : nI (i * 11 + j) - nI (i * 11 + j) / 11 * 11 = nI j := (pk_rem (a := i * 11 + j) (d := 11) (by omega) (by decide) (by decide)).trans (congrArg nI (by omega))
  refine And.intro v ?_
  rw [gx_cl (n := i * 11 + j) (by omega)]
  refine gx_bit (by omega) (fun hb => h (m, ag, li) fd (gg_rf A S) (Or.inl ⟨rfl, hb⟩)) (fun hb => And.intro v (And.intro v (nm_e (And.intro (by decide) (nm_r e1 (And.intro (by decide) (nm_r e2 ?_)))))))
  refine pk_loop (fun f p (s : Nat × (Nat → Int32) × (Nat → Int32)) => wX_finish__found_35 post (nI k) (nI i) (nI j) f (nI p) rs wl (nI s.1) rk rl ry wd (upd fd (i * 11 + j) (fd (i * 11 + j) ||| ((1 : Int32) <<< (nI k &&& 31)))) fo sg st re s.2.1 s.2.2 fw bg le ls) (fun p s => gg_R g w n (m, ag, li) s ∧ ∀ x, x < p → x % 4 < gm_l g (x / 4) → gm_y g (x / 4) (x % 4) = k → ∀ a, a ≤ i → li (x * 121 + a * 11 + i) = 1 → s.2.2 ((x + 1) * 121 + a * 11 + j) = 1) 64 0 (m, ag, li) (by omega) ⟨gg_rf A S, fun x hx => absurd hx (by omega)⟩ ?_ ?_
  · intro f s ⟨R, hI⟩
    exact br_t (nI_le (Nat.le_refl _) (by decide)) (h s _ R (Or.inr ⟨rfl, hI⟩))
  · intro f p s hp ⟨R, hI⟩ ih
    obtain ⟨m1, ag1, li1⟩ := s
    have hr : p / 4 < 16 := by omega
    have h3 := H.1.2.1 (p / 4)
    have h8 := H.1.2.2 (p / 4) (p % 4)
    refine br_f (nI_ge hp (by decide)) (And.intro (by decide) (nm_r (gx_div4 p (by omega)) (And.intro (by decide) (nm_r (gx_rem4 p (by omega)) (gx_symbolAt H hr (by omega) (And.intro (gx_in hr (by decide)) ?_))))))
    rw [gx_Gl H hr]
    refine pk_le (gm_l g (p / 4)) (p % 4) (fun hl => nm_r (nI_1 p) (ih (m1, ag1, li1) ⟨R, lt_s hI fun z => absurd z (by omega)⟩)) (fun hl => pk_eq (gm_y g (p / 4) (p % 4)) k (fun hy => ?_) (fun hy => nm_r (nI_1 p) (ih (m1, ag1, li1) ⟨R, lt_s hI fun _ z => absurd z hy⟩)))
    exact gx_goOnWaiting H R.1 R.2.1 hn hp hl (by rw [hy]; exact hmk) fun s2 R2 h2 => nm_r (nI_1 p) (ih s2 ⟨gg_tr R R2, lt_s (fun x hx h5 h6 a ha h7 => R2.2.2.2.2 _ (by have := H.1.2.1 (x / 4); omega) (hI x hx h5 h6 a ha h7)) fun _ _ a ha h7 => h2 a ha (R.2.2.2.2 _ (by omega) h7)⟩)
theorem gx_byAgenda_found {post : SX → Prop} {az : Int32} {ag li : Nat → Int32} (H : gx_G g rs rk rl ry) (hw : ∀ i, i < n → wd i = nI (w i)) (hw3 : ∀ i, w i < 3) (hn : n ≤ 10) (h : ∀ t az' ag' li', gt_ok g w n t → post (rs, wl, az', rk, rl, ry, wd, t, fo, sg, st, re, ag', li', fw, bg, le, ls)) : wpX_byAgenda__word_found post (rs, wl, az, rk, rl, ry, wd, fd, fo, sg, st, re, ag, li, fw, bg, le, ls) (nI n) := by
  unfold wpX_byAgenda__word_found
  refine gx_putLetters_word_found hw hw3 hn fun t P => ?_
  refine gx_beginAgenda (w := w) H hn fun s A S hb => ?_
  refine pk_loop (fun f q (u : (Nat × (Nat → Int32) × (Nat → Int32)) × (Nat → Int32)) => wX_byAgenda__word_found_14 post (nI n) f (nI q) rs wl (nI u.1.1) rk rl ry wd u.2 fo sg st re u.1.2.1 u.1.2.2 fw bg le ls) (fun q u => gg_I g w n q u) 7744 0 (s, t) (by omega) ⟨A, S, gt_PS P, gt_PL hn P, hb, Nat.zero_le _, fun x p i j hx => absurd hx (by omega)⟩ ?_ ?_
  · intro f u I
    exact br_t (nI_le (Nat.le_refl _) (by decide)) (h _ _ _ _ (gg_end H.1 hn I (gg_7744 I.1)))
  · intro f q u hq I ih
    obtain ⟨⟨m, ag1, li1⟩, t1⟩ := u
    have hm := gg_7744 I.1
    have hm : m ≤ 7744 := hm
    refine br_f (nI_ge hq (by decide)) (pk_le m q (fun hmq => h _ _ _ _ (gg_end H.1 hn I hmq)) (fun hmq => And.intro (gx_in hq (by decide)) ?_))
    obtain ⟨e, he, ee, el⟩ := I.1.2.2.1 q hmq
    have ee : ag1 q = nI e := ee
    have el : li1 e = 1 := el
    obtain ⟨p, i, j, hp, hi, hj, e0⟩ : ∃ p i j, p < 64 ∧ i ≤ 10 ∧ j ≤ 10 ∧ e = p * 121 + i * 11 + j := ⟨e / 121, e % 121 / 11, e % 121 % 11, by omega, by omega, by omega, by omega⟩
    rw [e0] at ee el
    have hF := I.2.1 p i j hp hi hj el
    have hr : p / 4 < 16 := by omega
    have h3 := H.1.2.1 (p / 4)
    have a1 : nI (p * 121 + i * 11 + j) - nI (p * 121 + i * 11 + j) / 121 * 121 = nI (i * 11 + j) := (pk_rem (a := p * 121 + i * 11 + j) (d := 121) (by omega) (by decide) (by decide)).trans (congrArg nI (by omega))
    have a2 : nI (p * 121 + i * 11 + j) / 121 = nI p := (pk_div (a := p * 121 + i * 11 + j) (d := 121) (by omega) (by decide) (by decide)).trans (congrArg nI (by omega))
    have b1 : ag1 (nI q).toNatClampNeg - ag1 (nI q).toNatClampNeg / 121 * 121 = nI (i * 11 + j) := by rw [gx_cl (n := q) (by omega), ee]; exact a1
    have b2 : ag1 (nI q).toNatClampNeg / 121 = nI p := by rw [gx_cl (n := q) (by omega), ee]; exact a2
    refine And.intro (by decide) (nm_r b1 (And.intro (gx_in hq (by decide)) (And.intro (by decide) (nm_r b2 (And.intro (by decide) (nm_r (gx_div4 p (by omega)) (And.intro (by decide) (And.intro (gx_in hr (by decide)) ?_))))))))
    rw [gx_rem4 p (by omega), gx_Gl H hr]
    refine pk_eq (p % 4) (gm_l g (p / 4)) (fun hd => And.intro (gx_in hr (by decide)) ?_) (fun hd => ?_)
    · rw [gx_Gk H hr]
      have hq2 := hF.2.2.2.2
      rw [hd] at hq2
      have hmk := gm_mr hr hF.1 hF.2.2.1 hF.2.2.2.1 hq2
      exact gx_finish_found H I.1 I.2.1 hn (H.1.1 _) hi hj hmk fun s2 t2 R2 h2 => nm_r (nI_1 q) (ih (s2, t2) (gg_fin H.1 I hn hmq hp hi hj ee hd hmk R2 h2))
    · have hdl : p % 4 < gm_l g (p / 4) := by
        have := hF.2.1
        omega
      exact gx_goOn_found H I.1 I.2.1 I.2.2.1 hn hp hi hj hdl hF fun s2 R2 h2 => nm_r (nI_1 q) (ih (s2, t1) (gg_goon H.1 I hn hmq hp hi hj ee hdl R2 h2))
end xbyagenda_found

section xbyagenda_foundByOther
variable {rs wl : Int32} {rk rl ry wd fd fo sg st re fw bg le ls : Nat → Int32} {g : gm_G} {w : Nat → Nat} {n : Nat}
theorem gx_goOn_foundByOther {post : SX → Prop} (H : gx_G g rs rk rl ry) {m : Nat} {ag li : Nat → Int32} (A : gg_A (m, ag, li)) (S : gg_S g w n li) (TS : gt_S g w n fo) {p i c : Nat} (hn : n ≤ 10) (hp : p < 64) (hi : i ≤ 10) (hc : c ≤ 10) (hd : p % 4 < gm_l g (p / 4)) (hF : gg_F g w n p i c)
    (h : ∀ s, gg_R g w n (m, ag, li) s → (∀ b, c ≤ b → b ≤ n → bt (fo (c * 11 + b)) (gm_y g (p / 4) (p % 4)) = true → s.2.2 ((p + 1) * 121 + i * 11 + b) = 1) → post (rs, wl, nI s.1, rk, rl, ry, wd, fd, fo, sg, st, re, s.2.1, s.2.2, fw, bg, le, ls)) : wpX_goOn__foundByOther post (rs, wl, nI m, rk, rl, ry, wd, fd, fo, sg, st, re, ag, li, fw, bg, le, ls) (nI p) (nI (i * 11 + c)) (nI n) := by
  have h3 := H.1.2.1 (p / 4)
  have h8 := H.1.2.2 (p / 4) (p % 4)
  have hr : p / 4 < 16 := by omega
  have e1 : nI (i * 11 + c) / 11 = nI i := (pk_div (a := i * 11 + c) (d := 11) (by omega) (by decide) (by decide)).trans (congrArg nI (by omega))
  have e2 : nI (i * 11 + c) - nI (i * 11 + c) / 11 * 11 = nI c := (pk_rem (a := i * 11 + c) (d := 11) (by omega) (by decide) (by decide)).trans (congrArg nI (by omega))
  refine And.intro (by decide) (nm_r e1 (And.intro (by decide) (nm_r e2 (And.intro (by decide) (And.intro (by decide) ?_)))))
  rw [gx_rem4 p (by omega), gx_div4 p (by omega)]
  refine gx_symbolAt H hr (by omega) ?_
  have hFn := hF.2.2.2.1
  refine pk_loop (fun f b (s : Nat × (Nat → Int32) × (Nat → Int32)) => wX_goOn__foundByOther_28 post (nI p) (nI n) (nI i) (nI c) (nI (gm_y g (p / 4) (p % 4))) f (nI b) rs wl (nI s.1) rk rl ry wd fd fo sg st re s.2.1 s.2.2 fw bg le ls) (fun b s => c ≤ b ∧ gg_R g w n (m, ag, li) s ∧ ∀ x, x < b → c ≤ x → bt (fo (c * 11 + x)) (gm_y g (p / 4) (p % 4)) = true → s.2.2 ((p + 1) * 121 + i * 11 + x) = 1) (n + 1) c (m, ag, li) (by omega) ⟨Nat.le_refl _, gg_rf A S, fun x hx hcx => absurd hx (by omega)⟩ ?_ ?_
  · intro f s ⟨_, R, hI⟩
    exact br_t (nI_lt (Nat.lt_succ_self n) (by omega)) (h s R fun b h1 h2 h4 => hI b (by omega) h1 h4)
  · intro f b s hb ⟨hcb, R, hI⟩ ih
    obtain ⟨m1, ag1, li1⟩ := s
    refine br_f (nI_nlt (by omega) (by omega)) ?_
    rw [gx_c11, gx_cl (n := c * 11 + b) (by omega)]
    refine And.intro (gx_in (by omega) (by decide)) (gx_bit (by omega) (fun hbt => ?_) (fun hbt => nm_r (nI_1 b) (ih (m1, ag1, li1) ⟨by omega, R, lt_s hI fun _ z => ?_⟩)))
    · rw [nI_1 p]
      exact gx_listItem R.1 R.2.1 (p := p + 1) (i := i) (j := b) (by omega) hi (by omega) (gg_Fn H.1 hd hF (TS _ c b hc (by omega) hbt)) fun s2 R2 e5 => nm_r (nI_1 b) (ih s2 ⟨by omega, gg_tr R R2, lt_s (fun x hx h1 h2 => R2.2.2.2.2 _ (by omega) (hI x hx h1 h2)) fun _ _ => e5⟩)
    · rw [hbt] at z
      exact absurd z (by decide)
theorem gx_finish_foundByOther {post : SX → Prop} (H : gx_G g rs rk rl ry) {m : Nat} {ag li : Nat → Int32} (A : gg_A (m, ag, li)) (S : gg_S g w n li) {k i j : Nat} (hn : n ≤ 10) (hk : k < 5) (hi : i ≤ 10) (hj : j ≤ 10) (hmk : gm_mk g w n k i j)
    (h : ∀ s t', gg_R g w n (m, ag, li) s → ((t' = fo ∧ bt (fo (i * 11 + j)) k = true) ∨ (t' = upd fo (i * 11 + j) (fo (i * 11 + j) ||| ((1 : Int32) <<< (nI k &&& 31))) ∧ ∀ x, x < 64 → x % 4 < gm_l g (x / 4) → gm_y g (x / 4) (x % 4) = k → ∀ a, a ≤ i → li (x * 121 + a * 11 + i) = 1 → s.2.2 ((x + 1) * 121 + a * 11 + j) = 1)) → post (rs, wl, nI s.1, rk, rl, ry, wd, fd, t', sg, st, re, s.2.1, s.2.2, fw, bg, le, ls)) : wpX_finish__foundByOther post (rs, wl, nI m, rk, rl, ry, wd, fd, fo, sg, st, re, ag, li, fw, bg, le, ls) (nI k) (nI (i * 11 + j)) := by
  have v : vp_in (nI (i * 11 + j)) 121 := gx_in (by omega) (by decide)
  have e1 : nI (i * 11 + j) / 11 = nI i := (pk_div (a := i * 11 + j) (d := 11) (by omega) (by decide) (by decide)).trans (congrArg nI (by omega))
  have e2 : nI (i * 11 + j) - nI (i * 11 + j) / 11 * 11 = nI j := (pk_rem (a := i * 11 + j) (d := 11) (by omega) (by decide) (by decide)).trans (congrArg nI (by omega))
  refine And.intro v ?_
  rw [gx_cl (n := i * 11 + j) (by omega)]
  refine gx_bit (by omega) (fun hb => h (m, ag, li) fo (gg_rf A S) (Or.inl ⟨rfl, hb⟩)) (fun hb => And.intro v (And.intro v (nm_e (And.intro (by decide) (nm_r e1 (And.intro (by decide) (nm_r e2 ?_)))))))
  refine pk_loop (fun f p (s : Nat × (Nat → Int32) × (Nat → Int32)) => wX_finish__foundByOther_35 post (nI k) (nI i) (nI j) f (nI p) rs wl (nI s.1) rk rl ry wd fd (upd fo (i * 11 + j) (fo (i * 11 + j) ||| ((1 : Int32) <<< (nI k &&& 31)))) sg st re s.2.1 s.2.2 fw bg le ls) (fun p s => gg_R g w n (m, ag, li) s ∧ ∀ x, x < p → x % 4 < gm_l g (x / 4) → gm_y g (x / 4) (x % 4) = k → ∀ a, a ≤ i → li (x * 121 + a * 11 + i) = 1 → s.2.2 ((x + 1) * 121 + a * 11 + j) = 1) 64 0 (m, ag, li) (by omega) ⟨gg_rf A S, fun x hx => absurd hx (by omega)⟩ ?_ ?_
  · intro f s ⟨R, hI⟩
    exact br_t (nI_le (Nat.le_refl _) (by decide)) (h s _ R (Or.inr ⟨rfl, hI⟩))
  · intro f p s hp ⟨R, hI⟩ ih
    obtain ⟨m1, ag1, li1⟩ := s
    have hr : p / 4 < 16 := by omega
    have h3 := H.1.2.1 (p / 4)
    have h8 := H.1.2.2 (p / 4) (p % 4)
    refine br_f (nI_ge hp (by decide)) (And.intro (by decide) (nm_r (gx_div4 p (by omega)) (And.intro (by decide) (nm_r (gx_rem4 p (by omega)) (gx_symbolAt H hr (by omega) (And.intro (gx_in hr (by decide)) ?_))))))
    rw [gx_Gl H hr]
    refine pk_le (gm_l g (p / 4)) (p % 4) (fun hl => nm_r (nI_1 p) (ih (m1, ag1, li1) ⟨R, lt_s hI fun z => absurd z (by omega)⟩)) (fun hl => pk_eq (gm_y g (p / 4) (p % 4)) k (fun hy => ?_) (fun hy => nm_r (nI_1 p) (ih (m1, ag1, li1) ⟨R, lt_s hI fun _ z => absurd z hy⟩)))
    exact gx_goOnWaiting H R.1 R.2.1 hn hp hl (by rw [hy]; exact hmk) fun s2 R2 h2 => nm_r (nI_1 p) (ih s2 ⟨gg_tr R R2, lt_s (fun x hx h5 h6 a ha h7 => R2.2.2.2.2 _ (by have := H.1.2.1 (x / 4); omega) (hI x hx h5 h6 a ha h7)) fun _ _ a ha h7 => h2 a ha (R.2.2.2.2 _ (by omega) h7)⟩)
theorem gx_byAgenda_foundByOther {post : SX → Prop} {az : Int32} {ag li : Nat → Int32} (H : gx_G g rs rk rl ry) (hw : ∀ i, i < n → wd i = nI (w i)) (hw3 : ∀ i, w i < 3) (hn : n ≤ 10) (h : ∀ t az' ag' li', gt_ok g w n t → post (rs, wl, az', rk, rl, ry, wd, fd, t, sg, st, re, ag', li', fw, bg, le, ls)) : wpX_byAgenda__word_foundByOther post (rs, wl, az, rk, rl, ry, wd, fd, fo, sg, st, re, ag, li, fw, bg, le, ls) (nI n) := by
  unfold wpX_byAgenda__word_foundByOther
  refine gx_putLetters_word_foundByOther hw hw3 hn fun t P => ?_
  refine gx_beginAgenda (w := w) H hn fun s A S hb => ?_
  refine pk_loop (fun f q (u : (Nat × (Nat → Int32) × (Nat → Int32)) × (Nat → Int32)) => wX_byAgenda__word_foundByOther_14 post (nI n) f (nI q) rs wl (nI u.1.1) rk rl ry wd fd u.2 sg st re u.1.2.1 u.1.2.2 fw bg le ls) (fun q u => gg_I g w n q u) 7744 0 (s, t) (by omega) ⟨A, S, gt_PS P, gt_PL hn P, hb, Nat.zero_le _, fun x p i j hx => absurd hx (by omega)⟩ ?_ ?_
  · intro f u I
    exact br_t (nI_le (Nat.le_refl _) (by decide)) (h _ _ _ _ (gg_end H.1 hn I (gg_7744 I.1)))
  · intro f q u hq I ih
    obtain ⟨⟨m, ag1, li1⟩, t1⟩ := u
    have hm := gg_7744 I.1
    have hm : m ≤ 7744 := hm
    refine br_f (nI_ge hq (by decide)) (pk_le m q (fun hmq => h _ _ _ _ (gg_end H.1 hn I hmq)) (fun hmq => And.intro (gx_in hq (by decide)) ?_))
    obtain ⟨e, he, ee, el⟩ := I.1.2.2.1 q hmq
    have ee : ag1 q = nI e := ee
    have el : li1 e = 1 := el
    obtain ⟨p, i, j, hp, hi, hj, e0⟩ : ∃ p i j, p < 64 ∧ i ≤ 10 ∧ j ≤ 10 ∧ e = p * 121 + i * 11 + j := ⟨e / 121, e % 121 / 11, e % 121 % 11, by omega, by omega, by omega, by omega⟩
    rw [e0] at ee el
    have hF := I.2.1 p i j hp hi hj el
    have hr : p / 4 < 16 := by omega
    have h3 := H.1.2.1 (p / 4)
    have a1 : nI (p * 121 + i * 11 + j) - nI (p * 121 + i * 11 + j) / 121 * 121 = nI (i * 11 + j) := (pk_rem (a := p * 121 + i * 11 + j) (d := 121) (by omega) (by decide) (by decide)).trans (congrArg nI (by omega))
    have a2 : nI (p * 121 + i * 11 + j) / 121 = nI p := (pk_div (a := p * 121 + i * 11 + j) (d := 121) (by omega) (by decide) (by decide)).trans (congrArg nI (by omega))
    have b1 : ag1 (nI q).toNatClampNeg - ag1 (nI q).toNatClampNeg / 121 * 121 = nI (i * 11 + j) := by rw [gx_cl (n := q) (by omega), ee]; exact a1
    have b2 : ag1 (nI q).toNatClampNeg / 121 = nI p := by rw [gx_cl (n := q) (by omega), ee]; exact a2
    refine And.intro (by decide) (nm_r b1 (And.intro (gx_in hq (by decide)) (And.intro (by decide) (nm_r b2 (And.intro (by decide) (nm_r (gx_div4 p (by omega)) (And.intro (by decide) (And.intro (gx_in hr (by decide)) ?_))))))))
    rw [gx_rem4 p (by omega), gx_Gl H hr]
    refine pk_eq (p % 4) (gm_l g (p / 4)) (fun hd => And.intro (gx_in hr (by decide)) ?_) (fun hd => ?_)
    · rw [gx_Gk H hr]
      have hq2 := hF.2.2.2.2
      rw [hd] at hq2
      have hmk := gm_mr hr hF.1 hF.2.2.1 hF.2.2.2.1 hq2
      exact gx_finish_foundByOther H I.1 I.2.1 hn (H.1.1 _) hi hj hmk fun s2 t2 R2 h2 => nm_r (nI_1 q) (ih (s2, t2) (gg_fin H.1 I hn hmq hp hi hj ee hd hmk R2 h2))
    · have hdl : p % 4 < gm_l g (p / 4) := by
        have := hF.2.1
        omega
      exact gx_goOn_foundByOther H I.1 I.2.1 I.2.2.1 hn hp hi hj hdl hF fun s2 R2 h2 => nm_r (nI_1 q) (ih (s2, t1) (gg_goon H.1 I hn hmq hp hi hj ee hdl R2 h2))
end xbyagenda_foundByOther

section xleft_found
variable {rs wl az : Int32} {rk rl ry wd fd fo sg st re ag li fw bg le ls : Nat → Int32} {g : gm_G} {w : Nat → Nat} {n : Nat}
theorem gx_tellFinished_found {post : SX → Prop} (H : gx_G g rs rk rl ry) {p : Nat} (hp : p ≤ 10) (h : ∀ t, (∀ s a b, a ≤ 10 → b ≤ 10 → (bt (t (a * 11 + b)) s = true ↔ bt (fd (a * 11 + b)) s = true ∨ (b = p ∧ a ≤ p ∧ ∃ r, r < 16 ∧ s = gm_k g r ∧ gq_Z st p r (gm_l g r) a))) → post (rs, wl, az, rk, rl, ry, wd, t, fo, sg, st, re, ag, li, fw, bg, le, ls)) : wpX_tellFinished__found post (rs, wl, az, rk, rl, ry, wd, fd, fo, sg, st, re, ag, li, fw, bg, le, ls) (nI p) := by
  refine pk_loop (fun f r (t : Nat → Int32) => wX_tellFinished__found_2 post (nI p) rs wl az f (nI r) rk rl ry wd t fo sg st re ag li fw bg le ls) (fun r t => ∀ s a b, a ≤ 10 → b ≤ 10 → (bt (t (a * 11 + b)) s = true ↔ bt (fd (a * 11 + b)) s = true ∨ (b = p ∧ a ≤ p ∧ ∃ c, c < r ∧ s = gm_k g c ∧ gq_Z st p c (gm_l g c) a))) 16 0 fd (by omega) (fun s a b _ _ => ⟨Or.inl, fun z => z.resolve_right fun ⟨_, _, c, y, _⟩ => absurd y (by omega)⟩) ?_ ?_
  · intro f t hI
    exact br_t (nI_le (Nat.le_refl _) (by decide)) (h t hI)
  · intro f r t hr hI ih
    have h3 := H.1.2.1 r
    have hk := H.1.1 r
    refine br_f (nI_ge hr (by decide)) (And.intro (gx_in hr (by decide)) (nm_r (e' := nI (p * 64 + r * 4 + gm_l g r)) (by rw [gx_Gl H hr, gx_i64]) ?_))
    refine pk_loop (fun f2 m (t : Nat → Int32) => wX_tellFinished__found_28 post (wX_tellFinished__found_2 post (nI p) rs wl az f) (nI p) (nI r) (nI (p * 64 + r * 4 + gm_l g r)) rs wl az f2 (nI m) rk rl ry wd t fo sg st re ag li fw bg le ls) (fun m t => ∀ s a b, a ≤ 10 → b ≤ 10 → (bt (t (a * 11 + b)) s = true ↔ bt (fd (a * 11 + b)) s = true ∨ (b = p ∧ a ≤ p ∧ ∃ c, (c < r ∨ (c = r ∧ a < m)) ∧ s = gm_k g c ∧ gq_Z st p c (gm_l g c) a))) (p + 1) 0 t (by omega) (fun s a b ha hb => ?_) ?_ ?_
    · rw [hI s a b ha hb]
      exact ⟨fun z => z.imp id fun ⟨y1, y2, c, y3, y4⟩ => ⟨y1, y2, c, Or.inl y3, y4⟩, fun z => z.imp id fun ⟨y1, y2, c, y3, y4⟩ => ⟨y1, y2, c, by omega, y4⟩⟩
    · intro f2 t2 hI2
      refine br_t (nI_lt (Nat.lt_succ_self p) (by omega)) (nm_r (nI_1 r) (ih t2 fun s a b ha hb => ?_))
      rw [hI2 s a b ha hb]
      exact ⟨fun z => z.imp id fun ⟨y1, y2, c, y3, y4⟩ => ⟨y1, y2, c, by omega, y4⟩, fun z => z.imp id fun ⟨y1, y2, c, y3, y4⟩ => ⟨y1, y2, c, by omega, y4⟩⟩
    · intro f2 m t2 hm hI2 ih2
      refine br_f (nI_nlt (by omega) (by omega)) (And.intro (gx_in (by omega) (by decide)) ?_)
      rw [gx_cl (n := p * 64 + r * 4 + gm_l g r) (by omega)]
      refine gx_bit (by omega) (fun hb => ?_) (fun hb => nm_r (nI_1 m) (ih2 t2 fun s a b ha hb10 => ?_))
      · rw [gx_c11, gx_cl (n := m * 11 + p) (by omega), gx_Gk H hr]
        refine And.intro (gx_in (by omega) (by decide)) (And.intro (gx_in hr (by decide)) (And.intro (gx_in (by omega) (by decide)) (nm_e (nm_r (nI_1 m) (ih2 _ fun s a b ha hb10 => ?_)))))
        rw [gb_u]
        by_cases e : a * 11 + b = m * 11 + p
        · have e1 : a = m := by omega
          have e2 : b = p := by omega
          rw [if_pos e, gb_add _ (by omega), e1, e2, hI2 s m p (by omega) hp]
          constructor
          · intro z
            rcases z with (z | ⟨y1, y2, c, y3, y4⟩) | z
            · exact Or.inl z
            · exact Or.inr ⟨y1, y2, c, by omega, y4⟩
            · exact Or.inr ⟨rfl, by omega, r, by omega, z, hb⟩
          · intro z
            rcases z with z | ⟨y1, y2, c, y3, y4, y5⟩
            · exact Or.inl (Or.inl z)
            · by_cases e3 : c = r
              · rw [e3] at y4; exact Or.inr y4
              · exact Or.inl (Or.inr ⟨y1, y2, c, by omega, y4, y5⟩)
        · rw [if_neg e, hI2 s a b ha hb10]
          exact ⟨fun z => z.imp id fun ⟨y1, y2, c, y3, y4⟩ => ⟨y1, y2, c, by omega, y4⟩, fun z => z.imp id fun ⟨y1, y2, c, y3, y4⟩ => ⟨y1, y2, c, by omega, y4⟩⟩
      · rw [hI2 s a b ha hb10]
        refine ⟨fun z => z.imp id fun ⟨y1, y2, c, y3, y4⟩ => ⟨y1, y2, c, by omega, y4⟩, fun z => z.imp id fun ⟨y1, y2, c, y3, y4, y5⟩ => ⟨y1, y2, c, ?_, y4, y5⟩⟩
        by_cases e3 : c = r ∧ a = m
        · unfold gq_Z at y5
          rw [e3.1, e3.2, hb] at y5
          exact absurd y5 (by decide)
        · omega
theorem gx_rounds2_found {post : SX → Prop} {J : Int32 → Int32 → Int32 → Int32 → (Nat → Int32) → (Nat → Int32) → (Nat → Int32) → (Nat → Int32) → (Nat → Int32) → (Nat → Int32) → (Nat → Int32) → (Nat → Int32) → (Nat → Int32) → (Nat → Int32) → (Nat → Int32) → (Nat → Int32) → (Nat → Int32) → (Nat → Int32) → (Nat → Int32) → Prop} (H : gx_G g rs rk rl ry) {p : Nat} (hn : n ≤ 10) (hp : p ≤ n) (S : gq_S g w n (p + 1) st)
    (h : ∀ st3, gq_S g w n (p + 1) st3 → (∀ c, c < p * 64 → st3 c = st c) → (∀ c i, bt (st c) i = true → bt (st3 c) i = true) → gq_C g p st3 → wX_leftToRight__word_found_78 post J (nI n) (nI p) rs wl az rk rl ry wd fd fo sg st3 re ag li fw bg le ls) : ∃ f, wX_leftToRight__word_found_51 post J (nI n) (nI p) f 1 0 rs wl az rk rl ry wd fd fo sg st re ag li fw bg le ls := by
  refine pk_loop (fun f c (u : Int32 × (Nat → Int32)) => wX_leftToRight__word_found_51 post J (nI n) (nI p) f u.1 (nI c) rs wl az rk rl ry wd fd fo sg u.2 re ag li fw bg le ls) (fun c u => gq_S g w n (p + 1) u.2 ∧ (∀ c, c < p * 64 → u.2 c = st c) ∧ (∀ c i, bt (st c) i = true → bt (u.2 c) i = true) ∧ ((u.1 = 1 ∧ c ≤ gq_n u.2 p) ∨ (u.1 = 0 ∧ gq_C g p u.2))) 704 0 (1, st) (by omega) ⟨S, fun _ _ => rfl, fun _ _ z => z, Or.inl ⟨rfl, Nat.zero_le _⟩⟩ ?_ ?_
  · intro f u ⟨S1, lo, mo, A⟩
    refine br_t (nI_le (Nat.le_refl _) (by decide)) (h u.2 S1 lo mo ?_)
    rcases A with ⟨_, z⟩ | ⟨_, C⟩
    · have := gq_full S1
      omega
    · exact C
  · intro f c u hc ⟨S1, lo, mo, A⟩ ih
    refine br_f (nI_ge hc (by decide)) ?_
    rcases A with ⟨e1, z⟩ | ⟨e1, C⟩
    · refine br_f (by rw [e1]; exact gx_10) (gx_passFinished H hn hp S1 fun x st' F => nm_r (nI_1 c) (ih (x, st') ⟨F.1, fun c hc => (F.2.1 c hc).trans (lo c hc), fun c i hi => F.2.2.1 c i (mo c i hi), ?_⟩))
      rcases F.2.2.2 with ⟨e2, e3, C⟩ | ⟨e2, e3⟩
      · refine Or.inr ⟨e2, ?_⟩
        rw [e3]
        exact fun c m hc hm hz => C c m trivial hc hm hz
      · exact Or.inl ⟨e2, by omega⟩
    · exact br_t e1 (h u.2 S1 lo mo C)
theorem gx_left_found {post : SX → Prop} (H : gx_G g rs rk rl ry) (hw : ∀ i, i < n → wd i = nI (w i)) (hw3 : ∀ i, w i < 3) (hn : n ≤ 10) (h : ∀ t st', gt_ok g w n t → post (rs, wl, az, rk, rl, ry, wd, t, fo, sg, st', re, ag, li, fw, bg, le, ls)) : wpX_leftToRight__word_found post (rs, wl, az, rk, rl, ry, wd, fd, fo, sg, st, re, ag, li, fw, bg, le, ls) (nI n) := by
  unfold wpX_leftToRight__word_found
  refine gx_putLetters_word_found hw hw3 hn fun t P => ?_
  refine pk_loop (fun f p (u : (Nat → Int32) × (Nat → Int32)) => wX_leftToRight__word_found_9 post (nI n) f (nI p) rs wl az rk rl ry wd u.2 fo sg u.1 re ag li fw bg le ls) (fun p u => gq_I g w n p u.1 u.2) (n + 1) 0 (st, t) (by omega) ⟨fun p r d i z => absurd z (by omega), fun q r z => absurd z (by omega), fun q r d i z => absurd z (by omega), fun q z => absurd z (by omega), fun s a b ha hb => (P s a b ha hb).trans ⟨Or.inl, fun z => z.resolve_right fun y => absurd y.1 (by omega)⟩⟩ ?_ ?_
  · intro f u I
    exact br_t (nI_lt (Nat.lt_succ_self n) (by omega)) (h u.2 u.1 (gq_end H.1 hn I))
  · intro f p u hp I ih
    refine br_f (nI_nlt (by omega) (by omega)) (gx_beginRulesAt H (by omega) fun st1 lo1 b1 => ?_)
    have S1 : gq_S g w n (p + 1) st1 := by
      intro q r d i hq hr hd hz
      by_cases e : q = p
      · subst e
        obtain ⟨e1, e2, e3⟩ := (b1 r d i hr hd).mp hz
        subst e1 e3
        exact ⟨e2, Nat.le_refl _, rfl⟩
      · exact I.1 q r d i (by omega) hr hd ((gq_lo lo1 (by omega) hr hd).mp hz)
    refine pk_le p 0 (fun hp0 => ?_) (fun hp0 => ?_)
    · refine gx_rounds2_found H hn (by omega) S1 fun st3 S3 lo3 mo3 C3 => ?_
      refine gx_tellFinished_found H (by omega) fun t3 ht3 => nm_r (nI_1 p) (ih (st3, t3) ?_)
      exact gq_next H.1 I lo1 b1 (fun _ _ => rfl) (fun _ _ z => z) (fun q e => absurd e (by omega)) S3 lo3 mo3 C3 ht3
    · have hsub : nI p - 1 = nI (p - 1) := pk_sub (b := 1) (by omega)
      rw [hsub, gx_cl (by omega), hw (p - 1) (by omega), gx_5]
      have h3 := hw3 (p - 1)
      have hmk : gm_mk g w n (5 + w (p - 1)) (p - 1) p := by
        have z := gm_ml (g := g) (w := w) (n := n) (i := p - 1) (by omega)
        rw [Nat.sub_add_cancel hp0] at z
        exact z
      refine And.intro (gx_in (by omega) (by decide)) (gx_passSymbol H (by omega) (by omega) (by omega) hmk S1 fun x st2 R2 => ?_)
      refine gx_rounds2_found H hn (by omega) R2.1 fun st3 S3 lo3 mo3 C3 => ?_
      refine gx_tellFinished_found H (by omega) fun t3 ht3 => nm_r (nI_1 p) (ih (st3, t3) ?_)
      refine gq_next H.1 I lo1 b1 R2.2.1 R2.2.2.1 (fun q e r d i hr hd hy hz => ?_) S3 lo3 mo3 C3 ht3
      have e2 : p - 1 = q := by omega
      rw [e2] at R2
      exact R2.2.2.2.1 (by omega) r d i hr hd trivial hy hz
end xleft_found

section xleft_foundByOther
variable {rs wl az : Int32} {rk rl ry wd fd fo sg st re ag li fw bg le ls : Nat → Int32} {g : gm_G} {w : Nat → Nat} {n : Nat}
theorem gx_tellFinished_foundByOther {post : SX → Prop} (H : gx_G g rs rk rl ry) {p : Nat} (hp : p ≤ 10) (h : ∀ t, (∀ s a b, a ≤ 10 → b ≤ 10 → (bt (t (a * 11 + b)) s = true ↔ bt (fo (a * 11 + b)) s = true ∨ (b = p ∧ a ≤ p ∧ ∃ r, r < 16 ∧ s = gm_k g r ∧ gq_Z st p r (gm_l g r) a))) → post (rs, wl, az, rk, rl, ry, wd, fd, t, sg, st, re, ag, li, fw, bg, le, ls)) : wpX_tellFinished__foundByOther post (rs, wl, az, rk, rl, ry, wd, fd, fo, sg, st, re, ag, li, fw, bg, le, ls) (nI p) := by
  refine pk_loop (fun f r (t : Nat → Int32) => wX_tellFinished__foundByOther_2 post (nI p) rs wl az f (nI r) rk rl ry wd fd t sg st re ag li fw bg le ls) (fun r t => ∀ s a b, a ≤ 10 → b ≤ 10 → (bt (t (a * 11 + b)) s = true ↔ bt (fo (a * 11 + b)) s = true ∨ (b = p ∧ a ≤ p ∧ ∃ c, c < r ∧ s = gm_k g c ∧ gq_Z st p c (gm_l g c) a))) 16 0 fo (by omega) (fun s a b _ _ => ⟨Or.inl, fun z => z.resolve_right fun ⟨_, _, c, y, _⟩ => absurd y (by omega)⟩) ?_ ?_
  · intro f t hI
    exact br_t (nI_le (Nat.le_refl _) (by decide)) (h t hI)
  · intro f r t hr hI ih
    have h3 := H.1.2.1 r
    have hk := H.1.1 r
    refine br_f (nI_ge hr (by decide)) (And.intro (gx_in hr (by decide)) (nm_r (e' := nI (p * 64 + r * 4 + gm_l g r)) (by rw [gx_Gl H hr, gx_i64]) ?_))
    refine pk_loop (fun f2 m (t : Nat → Int32) => wX_tellFinished__foundByOther_28 post (wX_tellFinished__foundByOther_2 post (nI p) rs wl az f) (nI p) (nI r) (nI (p * 64 + r * 4 + gm_l g r)) rs wl az f2 (nI m) rk rl ry wd fd t sg st re ag li fw bg le ls) (fun m t => ∀ s a b, a ≤ 10 → b ≤ 10 → (bt (t (a * 11 + b)) s = true ↔ bt (fo (a * 11 + b)) s = true ∨ (b = p ∧ a ≤ p ∧ ∃ c, (c < r ∨ (c = r ∧ a < m)) ∧ s = gm_k g c ∧ gq_Z st p c (gm_l g c) a))) (p + 1) 0 t (by omega) (fun s a b ha hb => ?_) ?_ ?_
    · rw [hI s a b ha hb]
      exact ⟨fun z => z.imp id fun ⟨y1, y2, c, y3, y4⟩ => ⟨y1, y2, c, Or.inl y3, y4⟩, fun z => z.imp id fun ⟨y1, y2, c, y3, y4⟩ => ⟨y1, y2, c, by omega, y4⟩⟩
    · intro f2 t2 hI2
      refine br_t (nI_lt (Nat.lt_succ_self p) (by omega)) (nm_r (nI_1 r) (ih t2 fun s a b ha hb => ?_))
      rw [hI2 s a b ha hb]
      exact ⟨fun z => z.imp id fun ⟨y1, y2, c, y3, y4⟩ => ⟨y1, y2, c, by omega, y4⟩, fun z => z.imp id fun ⟨y1, y2, c, y3, y4⟩ => ⟨y1, y2, c, by omega, y4⟩⟩
    · intro f2 m t2 hm hI2 ih2
      refine br_f (nI_nlt (by omega) (by omega)) (And.intro (gx_in (by omega) (by decide)) ?_)
      rw [gx_cl (n := p * 64 + r * 4 + gm_l g r) (by omega)]
      refine gx_bit (by omega) (fun hb => ?_) (fun hb => nm_r (nI_1 m) (ih2 t2 fun s a b ha hb10 => ?_))
      · rw [gx_c11, gx_cl (n := m * 11 + p) (by omega), gx_Gk H hr]
        refine And.intro (gx_in (by omega) (by decide)) (And.intro (gx_in hr (by decide)) (And.intro (gx_in (by omega) (by decide)) (nm_e (nm_r (nI_1 m) (ih2 _ fun s a b ha hb10 => ?_)))))
        rw [gb_u]
        by_cases e : a * 11 + b = m * 11 + p
        · have e1 : a = m := by omega
          have e2 : b = p := by omega
          rw [if_pos e, gb_add _ (by omega), e1, e2, hI2 s m p (by omega) hp]
          constructor
          · intro z
            rcases z with (z | ⟨y1, y2, c, y3, y4⟩) | z
            · exact Or.inl z
            · exact Or.inr ⟨y1, y2, c, by omega, y4⟩
            · exact Or.inr ⟨rfl, by omega, r, by omega, z, hb⟩
          · intro z
            rcases z with z | ⟨y1, y2, c, y3, y4, y5⟩
            · exact Or.inl (Or.inl z)
            · by_cases e3 : c = r
              · rw [e3] at y4; exact Or.inr y4
              · exact Or.inl (Or.inr ⟨y1, y2, c, by omega, y4, y5⟩)
        · rw [if_neg e, hI2 s a b ha hb10]
          exact ⟨fun z => z.imp id fun ⟨y1, y2, c, y3, y4⟩ => ⟨y1, y2, c, by omega, y4⟩, fun z => z.imp id fun ⟨y1, y2, c, y3, y4⟩ => ⟨y1, y2, c, by omega, y4⟩⟩
      · rw [hI2 s a b ha hb10]
        refine ⟨fun z => z.imp id fun ⟨y1, y2, c, y3, y4⟩ => ⟨y1, y2, c, by omega, y4⟩, fun z => z.imp id fun ⟨y1, y2, c, y3, y4, y5⟩ => ⟨y1, y2, c, ?_, y4, y5⟩⟩
        by_cases e3 : c = r ∧ a = m
        · unfold gq_Z at y5
          rw [e3.1, e3.2, hb] at y5
          exact absurd y5 (by decide)
        · omega
theorem gx_rounds2_foundByOther {post : SX → Prop} {J : Int32 → Int32 → Int32 → Int32 → (Nat → Int32) → (Nat → Int32) → (Nat → Int32) → (Nat → Int32) → (Nat → Int32) → (Nat → Int32) → (Nat → Int32) → (Nat → Int32) → (Nat → Int32) → (Nat → Int32) → (Nat → Int32) → (Nat → Int32) → (Nat → Int32) → (Nat → Int32) → (Nat → Int32) → Prop} (H : gx_G g rs rk rl ry) {p : Nat} (hn : n ≤ 10) (hp : p ≤ n) (S : gq_S g w n (p + 1) st)
    (h : ∀ st3, gq_S g w n (p + 1) st3 → (∀ c, c < p * 64 → st3 c = st c) → (∀ c i, bt (st c) i = true → bt (st3 c) i = true) → gq_C g p st3 → wX_leftToRight__word_foundByOther_78 post J (nI n) (nI p) rs wl az rk rl ry wd fd fo sg st3 re ag li fw bg le ls) : ∃ f, wX_leftToRight__word_foundByOther_51 post J (nI n) (nI p) f 1 0 rs wl az rk rl ry wd fd fo sg st re ag li fw bg le ls := by
  refine pk_loop (fun f c (u : Int32 × (Nat → Int32)) => wX_leftToRight__word_foundByOther_51 post J (nI n) (nI p) f u.1 (nI c) rs wl az rk rl ry wd fd fo sg u.2 re ag li fw bg le ls) (fun c u => gq_S g w n (p + 1) u.2 ∧ (∀ c, c < p * 64 → u.2 c = st c) ∧ (∀ c i, bt (st c) i = true → bt (u.2 c) i = true) ∧ ((u.1 = 1 ∧ c ≤ gq_n u.2 p) ∨ (u.1 = 0 ∧ gq_C g p u.2))) 704 0 (1, st) (by omega) ⟨S, fun _ _ => rfl, fun _ _ z => z, Or.inl ⟨rfl, Nat.zero_le _⟩⟩ ?_ ?_
  · intro f u ⟨S1, lo, mo, A⟩
    refine br_t (nI_le (Nat.le_refl _) (by decide)) (h u.2 S1 lo mo ?_)
    rcases A with ⟨_, z⟩ | ⟨_, C⟩
    · have := gq_full S1
      omega
    · exact C
  · intro f c u hc ⟨S1, lo, mo, A⟩ ih
    refine br_f (nI_ge hc (by decide)) ?_
    rcases A with ⟨e1, z⟩ | ⟨e1, C⟩
    · refine br_f (by rw [e1]; exact gx_10) (gx_passFinished H hn hp S1 fun x st' F => nm_r (nI_1 c) (ih (x, st') ⟨F.1, fun c hc => (F.2.1 c hc).trans (lo c hc), fun c i hi => F.2.2.1 c i (mo c i hi), ?_⟩))
      rcases F.2.2.2 with ⟨e2, e3, C⟩ | ⟨e2, e3⟩
      · refine Or.inr ⟨e2, ?_⟩
        rw [e3]
        exact fun c m hc hm hz => C c m trivial hc hm hz
      · exact Or.inl ⟨e2, by omega⟩
    · exact br_t e1 (h u.2 S1 lo mo C)
theorem gx_left_foundByOther {post : SX → Prop} (H : gx_G g rs rk rl ry) (hw : ∀ i, i < n → wd i = nI (w i)) (hw3 : ∀ i, w i < 3) (hn : n ≤ 10) (h : ∀ t st', gt_ok g w n t → post (rs, wl, az, rk, rl, ry, wd, fd, t, sg, st', re, ag, li, fw, bg, le, ls)) : wpX_leftToRight__word_foundByOther post (rs, wl, az, rk, rl, ry, wd, fd, fo, sg, st, re, ag, li, fw, bg, le, ls) (nI n) := by
  unfold wpX_leftToRight__word_foundByOther
  refine gx_putLetters_word_foundByOther hw hw3 hn fun t P => ?_
  refine pk_loop (fun f p (u : (Nat → Int32) × (Nat → Int32)) => wX_leftToRight__word_foundByOther_9 post (nI n) f (nI p) rs wl az rk rl ry wd fd u.2 sg u.1 re ag li fw bg le ls) (fun p u => gq_I g w n p u.1 u.2) (n + 1) 0 (st, t) (by omega) ⟨fun p r d i z => absurd z (by omega), fun q r z => absurd z (by omega), fun q r d i z => absurd z (by omega), fun q z => absurd z (by omega), fun s a b ha hb => (P s a b ha hb).trans ⟨Or.inl, fun z => z.resolve_right fun y => absurd y.1 (by omega)⟩⟩ ?_ ?_
  · intro f u I
    exact br_t (nI_lt (Nat.lt_succ_self n) (by omega)) (h u.2 u.1 (gq_end H.1 hn I))
  · intro f p u hp I ih
    refine br_f (nI_nlt (by omega) (by omega)) (gx_beginRulesAt H (by omega) fun st1 lo1 b1 => ?_)
    have S1 : gq_S g w n (p + 1) st1 := by
      intro q r d i hq hr hd hz
      by_cases e : q = p
      · subst e
        obtain ⟨e1, e2, e3⟩ := (b1 r d i hr hd).mp hz
        subst e1 e3
        exact ⟨e2, Nat.le_refl _, rfl⟩
      · exact I.1 q r d i (by omega) hr hd ((gq_lo lo1 (by omega) hr hd).mp hz)
    refine pk_le p 0 (fun hp0 => ?_) (fun hp0 => ?_)
    · refine gx_rounds2_foundByOther H hn (by omega) S1 fun st3 S3 lo3 mo3 C3 => ?_
      refine gx_tellFinished_foundByOther H (by omega) fun t3 ht3 => nm_r (nI_1 p) (ih (st3, t3) ?_)
      exact gq_next H.1 I lo1 b1 (fun _ _ => rfl) (fun _ _ z => z) (fun q e => absurd e (by omega)) S3 lo3 mo3 C3 ht3
    · have hsub : nI p - 1 = nI (p - 1) := pk_sub (b := 1) (by omega)
      rw [hsub, gx_cl (by omega), hw (p - 1) (by omega), gx_5]
      have h3 := hw3 (p - 1)
      have hmk : gm_mk g w n (5 + w (p - 1)) (p - 1) p := by
        have z := gm_ml (g := g) (w := w) (n := n) (i := p - 1) (by omega)
        rw [Nat.sub_add_cancel hp0] at z
        exact z
      refine And.intro (gx_in (by omega) (by decide)) (gx_passSymbol H (by omega) (by omega) (by omega) hmk S1 fun x st2 R2 => ?_)
      refine gx_rounds2_foundByOther H hn (by omega) R2.1 fun st3 S3 lo3 mo3 C3 => ?_
      refine gx_tellFinished_foundByOther H (by omega) fun t3 ht3 => nm_r (nI_1 p) (ih (st3, t3) ?_)
      refine gq_next H.1 I lo1 b1 R2.2.1 R2.2.2.1 (fun q e r d i hr hd hy hz => ?_) S3 lo3 mo3 C3 ht3
      have e2 : p - 1 = q := by omega
      rw [e2] at R2
      exact R2.2.2.2.1 (by omega) r d i hr hd trivial hy hz
end xleft_foundByOther

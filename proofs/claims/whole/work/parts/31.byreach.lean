section xbyreach_found
variable {rs wl az : Int32} {rk rl ry wd fd fo sg st re ag li fw bg le ls : Nat → Int32} {g : gm_G} {w : Nat → Nat} {n : Nat}
theorem gx_tellReach_found {post : SX → Prop} (hn : n ≤ 10) {k : Nat} (hk : k < 5) (h : ∀ t, (∀ s a b, a ≤ b → b ≤ n → (bt (t (a * 11 + b)) s = true ↔ bt (fd (a * 11 + b)) s = true ∨ (s = k ∧ bt (re (k * 11 + a)) b = true))) → post (rs, wl, az, rk, rl, ry, wd, t, fo, sg, st, re, ag, li, fw, bg, le, ls)) : wpX_tellReach__found post (rs, wl, az, rk, rl, ry, wd, fd, fo, sg, st, re, ag, li, fw, bg, le, ls) (nI k) (nI n) := by
  refine pk_loop (fun f i (t : Nat → Int32) => wX_tellReach__found_3 post (nI k) (nI n) rs wl az f (nI i) rk rl ry wd t fo sg st re ag li fw bg le ls) (fun i t => ∀ s a b, a ≤ b → b ≤ n → (bt (t (a * 11 + b)) s = true ↔ bt (fd (a * 11 + b)) s = true ∨ (a < i ∧ s = k ∧ bt (re (k * 11 + a)) b = true))) (n + 1) 0 fd (by omega) (fun s a b _ _ => ⟨Or.inl, fun z => z.resolve_right fun y => absurd y.1 (by omega)⟩) ?_ ?_
  · intro f t hI
    refine br_t (nI_lt (Nat.lt_succ_self n) (by omega)) (h t fun s a b h1 h2 => ?_)
    rw [hI s a b h1 h2]
    exact ⟨fun z => z.imp id fun y => y.2, fun z => z.imp id fun y => ⟨by omega, y⟩⟩
  · intro f i t hi hI ih
    refine br_f (nI_nlt (by omega) (by omega)) ?_
    refine pk_loop (fun f2 j (t : Nat → Int32) => wX_tellReach__found_13 post (wX_tellReach__found_3 post (nI k) (nI n) rs wl az f) (nI k) (nI n) (nI i) rs wl az f2 (nI j) rk rl ry wd t fo sg st re ag li fw bg le ls) (fun j t => i ≤ j ∧ ∀ s a b, a ≤ b → b ≤ n → (bt (t (a * 11 + b)) s = true ↔ bt (fd (a * 11 + b)) s = true ∨ ((a < i ∨ (a = i ∧ b < j)) ∧ s = k ∧ bt (re (k * 11 + a)) b = true))) (n + 1) i t (by omega) ⟨Nat.le_refl _, fun s a b h1 h2 => ?_⟩ ?_ ?_
    · rw [hI s a b h1 h2]
      exact ⟨fun z => z.imp id fun y => ⟨Or.inl y.1, y.2⟩, fun z => z.imp id fun y => ⟨by omega, y.2⟩⟩
    · intro f2 t2 ⟨_, hI2⟩
      refine br_t (nI_lt (Nat.lt_succ_self n) (by omega)) (nm_r (nI_1 i) (ih t2 fun s a b h1 h2 => ?_))
      rw [hI2 s a b h1 h2]
      exact ⟨fun z => z.imp id fun y => ⟨by omega, y.2⟩, fun z => z.imp id fun y => ⟨by omega, y.2⟩⟩
    · intro f2 j t2 hj ⟨hij, hI2⟩ ih2
      refine br_f (nI_nlt (by omega) (by omega)) ?_
      rw [gx_c11, gx_c11, gx_cl (by omega), gx_cl (by omega)]
      refine And.intro (gx_in (by omega) (by decide)) (gx_bit (by omega) (fun hb => And.intro (gx_in (by omega) (by decide)) (And.intro (gx_in (by omega) (by decide)) (nm_e (nm_r (nI_1 j) (ih2 _ ⟨by omega, fun s a b h1 h2 => ?_⟩))))) (fun hb => nm_r (nI_1 j) (ih2 _ ⟨by omega, fun s a b h1 h2 => ?_⟩)))
      · rw [gb_u]
        by_cases e : a * 11 + b = i * 11 + j
        · have e1 : a = i := by omega
          have e2 : b = j := by omega
          rw [if_pos e, gb_add _ (by omega), e1, e2, hI2 s i j hij (by omega)]
          constructor
          · intro z
            rcases z with (z | z) | z
            · exact Or.inl z
            · exact absurd z.1 (by omega)
            · exact Or.inr ⟨by omega, z, hb⟩
          · intro z
            rcases z with z | z
            · exact Or.inl (Or.inl z)
            · exact Or.inr z.2.1
        · rw [if_neg e, hI2 s a b h1 h2]
          exact ⟨fun z => z.imp id fun y => ⟨by omega, y.2⟩, fun z => z.imp id fun y => ⟨by omega, y.2⟩⟩
      · rw [hI2 s a b h1 h2]
        refine ⟨fun z => z.imp id fun y => ⟨by omega, y.2⟩, fun z => z.imp id fun y => ⟨?_, y.2⟩⟩
        by_cases e : a = i ∧ b = j
        · have y3 := y.2.2
          rw [e.1, e.2, hb] at y3
          exact absurd y3 (by decide)
        · omega
theorem gx_byReach_found {post : SX → Prop} (H : gx_G g rs rk rl ry) (hw : ∀ i, i < n → wd i = nI (w i)) (hw3 : ∀ i, w i < 3) (hn : n ≤ 10) (h : ∀ t re', gt_ok g w n t → post (rs, wl, az, rk, rl, ry, wd, t, fo, sg, st, re', ag, li, fw, bg, le, ls)) : wpX_byReach__word_found post (rs, wl, az, rk, rl, ry, wd, fd, fo, sg, st, re, ag, li, fw, bg, le, ls) (nI n) := by
  unfold wpX_byReach__word_found
  refine gx_putLetters_word_found hw hw3 hn fun t P => ?_
  have tell : ∀ re', gr_S g w n re' → gr_L w n re' → gr_C g n re' → ∃ f, wX_byReach__word_found_103 post (nI n) f 0 rs wl az rk rl ry wd t fo sg st re' ag li fw bg le ls := by
    intro re' S L C
    refine pk_loop (fun f k (t : Nat → Int32) => wX_byReach__word_found_103 post (nI n) f (nI k) rs wl az rk rl ry wd t fo sg st re' ag li fw bg le ls) (fun k t => ∀ s a b, a ≤ b → b ≤ n → (bt (t (a * 11 + b)) s = true ↔ (a < n ∧ b = a + 1 ∧ s = 5 + w a) ∨ (s < k ∧ gm_mk g w n s a b))) 5 0 t (by omega) (fun s a b h1 h2 => (P s a b (by omega) (by omega)).trans ⟨Or.inl, fun z => z.resolve_right fun y => absurd y.1 (by omega)⟩) ?_ ?_
    · intro f t2 hI
      refine br_t (nI_le (Nat.le_refl _) (by decide)) (h t2 re' fun s i j => ?_)
      constructor
      · intro ⟨h1, h2, h3⟩
        rcases (hI s i j h1 h2).mp h3 with z | z
        · rw [z.2.1, z.2.2]; exact gm_ml z.1
        · exact z.2
      · intro z
        have hb := gm_mb z
        refine ⟨hb.1, hb.2, (hI s i j hb.1 hb.2).mpr ?_⟩
        rcases Nat.lt_or_ge s 5 with y | y
        · exact Or.inr ⟨y, z⟩
        · exact Or.inl (gm_mlet H.1 z y)
    · intro f k t2 hk hI ih
      refine br_f (nI_ge hk (by decide)) (gx_tellReach_found hn hk fun t3 h3 => nm_r (nI_1 k) (ih t3 fun s a b h1 h2 => ?_))
      rw [h3 s a b h1 h2, hI s a b h1 h2]
      have key := gr_mk hn S L C (s := k) (i := a) (j := b) (by omega)
      constructor
      · intro z
        rcases z with (z | z) | ⟨z1, z2⟩
        · exact Or.inl z
        · exact Or.inr ⟨by omega, z.2⟩
        · exact Or.inr ⟨by omega, by rw [z1]; exact key.mp ⟨h1, h2, z2⟩⟩
      · intro z
        rcases z with z | ⟨z1, z2⟩
        · exact Or.inl (Or.inl z)
        · by_cases e : s = k
          · rw [e] at z2
            exact Or.inr ⟨e, (key.mpr z2).2.2⟩
          · exact Or.inl (Or.inr ⟨by omega, z2⟩)
  refine pk_loop (fun f c (a : Nat → Int32) => wX_byReach__word_found_9 post (nI n) rs wl az f (nI c) rk rl ry wd t fo sg st a ag li fw bg le ls) (fun c a => ∀ x, x < c → a x = 0) 88 0 re (by omega) lt_0 ?_ ?_
  · intro f a ha
    refine br_t (nI_le (Nat.le_refl _) (by decide)) ?_
    refine pk_loop (fun f i (a : Nat → Int32) => wX_byReach__word_found_33 post (nI n) rs wl az f (nI i) rk rl ry wd t fo sg st a ag li fw bg le ls) (fun i a => ∀ s x b, s < 8 → x ≤ 10 → (bt (a (s * 11 + x)) b = true ↔ x < i ∧ s = 5 + w x ∧ b = x + 1)) n 0 a (by omega) (fun s x b hs hx => by rw [ha _ (by omega), b_0]; exact ⟨fun z => absurd z (by decide), fun z => absurd z.1 (by omega)⟩) ?_ ?_
    · intro f2 a2 hI
      refine br_t (nI_le (Nat.le_refl _) (by omega)) ?_
      have S0 : gr_S g w n a2 := fun s x b hs hx hb => by
        obtain ⟨z1, z2, z3⟩ := (hI s x b hs hx).mp hb
        rw [z2, z3]; exact gm_ml z1
      have L0 : gr_L w n a2 := fun i hi => by
        have := hw3 i
        exact (hI _ i _ (by omega) (by omega)).mpr ⟨hi, rfl, rfl⟩
      refine pk_loop (fun f c (s : Int32 × (Nat → Int32)) => wX_byReach__word_found_74 post (nI n) f s.1 (nI c) rs wl az rk rl ry wd t fo sg st s.2 ag li fw bg le ls) (fun c s => gr_S g w n s.2 ∧ gr_L w n s.2 ∧ ((s.1 = 1 ∧ c ≤ gr_n s.2) ∨ (s.1 = 0 ∧ gr_C g n s.2))) 605 0 (1, a2) (by omega) ⟨S0, L0, Or.inl ⟨rfl, Nat.zero_le _⟩⟩ ?_ ?_
      · intro f3 s ⟨S, L, A⟩
        refine br_t (nI_le (Nat.le_refl _) (by decide)) (tell s.2 S L ?_)
        rcases A with ⟨_, z⟩ | ⟨_, C⟩
        · have := gr_nS S
          omega
        · exact C
      · intro f3 c s hc ⟨S, L, A⟩ ih
        refine br_f (nI_ge hc (by decide)) ?_
        rcases A with ⟨e1, z⟩ | ⟨e1, C⟩
        · refine br_f (by rw [e1]; exact gx_10) (gx_widenReach H hn S L fun x re' R => nm_r (nI_1 c) (ih (x, re') ⟨R.1, R.2.1, ?_⟩))
          rcases R.2.2 with ⟨e2, e3, C⟩ | ⟨e2, e3⟩
          · refine Or.inr ⟨e2, ?_⟩
            rw [e3]
            exact fun r a b hr hp h1 hq => C r a b hr hp trivial h1 hq
          · exact Or.inl ⟨e2, by omega⟩
        · exact br_t e1 (tell s.2 S L C)
    · intro f2 i a2 hi hI ih
      have h3 := hw3 i
      refine br_f (nI_ge hi (by omega)) (And.intro (gx_in (by omega) (by decide)) ?_)
      rw [gx_cl (n := i) (by omega), hw i hi, gx_5, gx_c11, gx_cl (by omega), nI_1]
      refine And.intro (gx_in (by omega) (by decide)) (nm_e (nm_e (ih _ fun s x b hs hx => ?_)))
      rw [gb_u]
      by_cases e : s * 11 + x = (5 + w i) * 11 + i
      · have e1 : x = i := by omega
        have e2 : s = 5 + w i := by omega
        rw [if_pos e, gb_sg (by omega), e1, e2]
        exact ⟨fun z => ⟨by omega, rfl, z⟩, fun z => z.2.2⟩
      · rw [if_neg e, hI s x b hs hx]
        refine ⟨fun z => ⟨by omega, z.2⟩, fun z => ⟨?_, z.2⟩⟩
        by_cases e2 : x = i
        · have z2 := z.2.1
          rw [e2] at z2
          omega
        · omega
  · intro f c a hc hI ih
    refine br_f (nI_ge hc (by decide)) (And.intro (gx_in hc (by decide)) (nm_r (e' := upd a c 0) (by rw [gx_cl (by omega)]) (nm_r (nI_1 c) (ih _ ?_))))
    intro x hx
    rw [gb_u]
    split
    · rfl
    · exact hI x (by omega)
end xbyreach_found

section xbyreach_foundByOther
variable {rs wl az : Int32} {rk rl ry wd fd fo sg st re ag li fw bg le ls : Nat → Int32} {g : gm_G} {w : Nat → Nat} {n : Nat}
theorem gx_tellReach_foundByOther {post : SX → Prop} (hn : n ≤ 10) {k : Nat} (hk : k < 5) (h : ∀ t, (∀ s a b, a ≤ b → b ≤ n → (bt (t (a * 11 + b)) s = true ↔ bt (fo (a * 11 + b)) s = true ∨ (s = k ∧ bt (re (k * 11 + a)) b = true))) → post (rs, wl, az, rk, rl, ry, wd, fd, t, sg, st, re, ag, li, fw, bg, le, ls)) : wpX_tellReach__foundByOther post (rs, wl, az, rk, rl, ry, wd, fd, fo, sg, st, re, ag, li, fw, bg, le, ls) (nI k) (nI n) := by
  refine pk_loop (fun f i (t : Nat → Int32) => wX_tellReach__foundByOther_3 post (nI k) (nI n) rs wl az f (nI i) rk rl ry wd fd t sg st re ag li fw bg le ls) (fun i t => ∀ s a b, a ≤ b → b ≤ n → (bt (t (a * 11 + b)) s = true ↔ bt (fo (a * 11 + b)) s = true ∨ (a < i ∧ s = k ∧ bt (re (k * 11 + a)) b = true))) (n + 1) 0 fo (by omega) (fun s a b _ _ => ⟨Or.inl, fun z => z.resolve_right fun y => absurd y.1 (by omega)⟩) ?_ ?_
  · intro f t hI
    refine br_t (nI_lt (Nat.lt_succ_self n) (by omega)) (h t fun s a b h1 h2 => ?_)
    rw [hI s a b h1 h2]
    exact ⟨fun z => z.imp id fun y => y.2, fun z => z.imp id fun y => ⟨by omega, y⟩⟩
  · intro f i t hi hI ih
    refine br_f (nI_nlt (by omega) (by omega)) ?_
    refine pk_loop (fun f2 j (t : Nat → Int32) => wX_tellReach__foundByOther_13 post (wX_tellReach__foundByOther_3 post (nI k) (nI n) rs wl az f) (nI k) (nI n) (nI i) rs wl az f2 (nI j) rk rl ry wd fd t sg st re ag li fw bg le ls) (fun j t => i ≤ j ∧ ∀ s a b, a ≤ b → b ≤ n → (bt (t (a * 11 + b)) s = true ↔ bt (fo (a * 11 + b)) s = true ∨ ((a < i ∨ (a = i ∧ b < j)) ∧ s = k ∧ bt (re (k * 11 + a)) b = true))) (n + 1) i t (by omega) ⟨Nat.le_refl _, fun s a b h1 h2 => ?_⟩ ?_ ?_
    · rw [hI s a b h1 h2]
      exact ⟨fun z => z.imp id fun y => ⟨Or.inl y.1, y.2⟩, fun z => z.imp id fun y => ⟨by omega, y.2⟩⟩
    · intro f2 t2 ⟨_, hI2⟩
      refine br_t (nI_lt (Nat.lt_succ_self n) (by omega)) (nm_r (nI_1 i) (ih t2 fun s a b h1 h2 => ?_))
      rw [hI2 s a b h1 h2]
      exact ⟨fun z => z.imp id fun y => ⟨by omega, y.2⟩, fun z => z.imp id fun y => ⟨by omega, y.2⟩⟩
    · intro f2 j t2 hj ⟨hij, hI2⟩ ih2
      refine br_f (nI_nlt (by omega) (by omega)) ?_
      rw [gx_c11, gx_c11, gx_cl (by omega), gx_cl (by omega)]
      refine And.intro (gx_in (by omega) (by decide)) (gx_bit (by omega) (fun hb => And.intro (gx_in (by omega) (by decide)) (And.intro (gx_in (by omega) (by decide)) (nm_e (nm_r (nI_1 j) (ih2 _ ⟨by omega, fun s a b h1 h2 => ?_⟩))))) (fun hb => nm_r (nI_1 j) (ih2 _ ⟨by omega, fun s a b h1 h2 => ?_⟩)))
      · rw [gb_u]
        by_cases e : a * 11 + b = i * 11 + j
        · have e1 : a = i := by omega
          have e2 : b = j := by omega
          rw [if_pos e, gb_add _ (by omega), e1, e2, hI2 s i j hij (by omega)]
          constructor
          · intro z
            rcases z with (z | z) | z
            · exact Or.inl z
            · exact absurd z.1 (by omega)
            · exact Or.inr ⟨by omega, z, hb⟩
          · intro z
            rcases z with z | z
            · exact Or.inl (Or.inl z)
            · exact Or.inr z.2.1
        · rw [if_neg e, hI2 s a b h1 h2]
          exact ⟨fun z => z.imp id fun y => ⟨by omega, y.2⟩, fun z => z.imp id fun y => ⟨by omega, y.2⟩⟩
      · rw [hI2 s a b h1 h2]
        refine ⟨fun z => z.imp id fun y => ⟨by omega, y.2⟩, fun z => z.imp id fun y => ⟨?_, y.2⟩⟩
        by_cases e : a = i ∧ b = j
        · have y3 := y.2.2
          rw [e.1, e.2, hb] at y3
          exact absurd y3 (by decide)
        · omega
theorem gx_byReach_foundByOther {post : SX → Prop} (H : gx_G g rs rk rl ry) (hw : ∀ i, i < n → wd i = nI (w i)) (hw3 : ∀ i, w i < 3) (hn : n ≤ 10) (h : ∀ t re', gt_ok g w n t → post (rs, wl, az, rk, rl, ry, wd, fd, t, sg, st, re', ag, li, fw, bg, le, ls)) : wpX_byReach__word_foundByOther post (rs, wl, az, rk, rl, ry, wd, fd, fo, sg, st, re, ag, li, fw, bg, le, ls) (nI n) := by
  unfold wpX_byReach__word_foundByOther
  refine gx_putLetters_word_foundByOther hw hw3 hn fun t P => ?_
  have tell : ∀ re', gr_S g w n re' → gr_L w n re' → gr_C g n re' → ∃ f, wX_byReach__word_foundByOther_103 post (nI n) f 0 rs wl az rk rl ry wd fd t sg st re' ag li fw bg le ls := by
    intro re' S L C
    refine pk_loop (fun f k (t : Nat → Int32) => wX_byReach__word_foundByOther_103 post (nI n) f (nI k) rs wl az rk rl ry wd fd t sg st re' ag li fw bg le ls) (fun k t => ∀ s a b, a ≤ b → b ≤ n → (bt (t (a * 11 + b)) s = true ↔ (a < n ∧ b = a + 1 ∧ s = 5 + w a) ∨ (s < k ∧ gm_mk g w n s a b))) 5 0 t (by omega) (fun s a b h1 h2 => (P s a b (by omega) (by omega)).trans ⟨Or.inl, fun z => z.resolve_right fun y => absurd y.1 (by omega)⟩) ?_ ?_
    · intro f t2 hI
      refine br_t (nI_le (Nat.le_refl _) (by decide)) (h t2 re' fun s i j => ?_)
      constructor
      · intro ⟨h1, h2, h3⟩
        rcases (hI s i j h1 h2).mp h3 with z | z
        · rw [z.2.1, z.2.2]; exact gm_ml z.1
        · exact z.2
      · intro z
        have hb := gm_mb z
        refine ⟨hb.1, hb.2, (hI s i j hb.1 hb.2).mpr ?_⟩
        rcases Nat.lt_or_ge s 5 with y | y
        · exact Or.inr ⟨y, z⟩
        · exact Or.inl (gm_mlet H.1 z y)
    · intro f k t2 hk hI ih
      refine br_f (nI_ge hk (by decide)) (gx_tellReach_foundByOther hn hk fun t3 h3 => nm_r (nI_1 k) (ih t3 fun s a b h1 h2 => ?_))
      rw [h3 s a b h1 h2, hI s a b h1 h2]
      have key := gr_mk hn S L C (s := k) (i := a) (j := b) (by omega)
      constructor
      · intro z
        rcases z with (z | z) | ⟨z1, z2⟩
        · exact Or.inl z
        · exact Or.inr ⟨by omega, z.2⟩
        · exact Or.inr ⟨by omega, by rw [z1]; exact key.mp ⟨h1, h2, z2⟩⟩
      · intro z
        rcases z with z | ⟨z1, z2⟩
        · exact Or.inl (Or.inl z)
        · by_cases e : s = k
          · rw [e] at z2
            exact Or.inr ⟨e, (key.mpr z2).2.2⟩
          · exact Or.inl (Or.inr ⟨by omega, z2⟩)
  refine pk_loop (fun f c (a : Nat → Int32) => wX_byReach__word_foundByOther_9 post (nI n) rs wl az f (nI c) rk rl ry wd fd t sg st a ag li fw bg le ls) (fun c a => ∀ x, x < c → a x = 0) 88 0 re (by omega) lt_0 ?_ ?_
  · intro f a ha
    refine br_t (nI_le (Nat.le_refl _) (by decide)) ?_
    refine pk_loop (fun f i (a : Nat → Int32) => wX_byReach__word_foundByOther_33 post (nI n) rs wl az f (nI i) rk rl ry wd fd t sg st a ag li fw bg le ls) (fun i a => ∀ s x b, s < 8 → x ≤ 10 → (bt (a (s * 11 + x)) b = true ↔ x < i ∧ s = 5 + w x ∧ b = x + 1)) n 0 a (by omega) (fun s x b hs hx => by rw [ha _ (by omega), b_0]; exact ⟨fun z => absurd z (by decide), fun z => absurd z.1 (by omega)⟩) ?_ ?_
    · intro f2 a2 hI
      refine br_t (nI_le (Nat.le_refl _) (by omega)) ?_
      have S0 : gr_S g w n a2 := fun s x b hs hx hb => by
        obtain ⟨z1, z2, z3⟩ := (hI s x b hs hx).mp hb
        rw [z2, z3]; exact gm_ml z1
      have L0 : gr_L w n a2 := fun i hi => by
        have := hw3 i
        exact (hI _ i _ (by omega) (by omega)).mpr ⟨hi, rfl, rfl⟩
      refine pk_loop (fun f c (s : Int32 × (Nat → Int32)) => wX_byReach__word_foundByOther_74 post (nI n) f s.1 (nI c) rs wl az rk rl ry wd fd t sg st s.2 ag li fw bg le ls) (fun c s => gr_S g w n s.2 ∧ gr_L w n s.2 ∧ ((s.1 = 1 ∧ c ≤ gr_n s.2) ∨ (s.1 = 0 ∧ gr_C g n s.2))) 605 0 (1, a2) (by omega) ⟨S0, L0, Or.inl ⟨rfl, Nat.zero_le _⟩⟩ ?_ ?_
      · intro f3 s ⟨S, L, A⟩
        refine br_t (nI_le (Nat.le_refl _) (by decide)) (tell s.2 S L ?_)
        rcases A with ⟨_, z⟩ | ⟨_, C⟩
        · have := gr_nS S
          omega
        · exact C
      · intro f3 c s hc ⟨S, L, A⟩ ih
        refine br_f (nI_ge hc (by decide)) ?_
        rcases A with ⟨e1, z⟩ | ⟨e1, C⟩
        · refine br_f (by rw [e1]; exact gx_10) (gx_widenReach H hn S L fun x re' R => nm_r (nI_1 c) (ih (x, re') ⟨R.1, R.2.1, ?_⟩))
          rcases R.2.2 with ⟨e2, e3, C⟩ | ⟨e2, e3⟩
          · refine Or.inr ⟨e2, ?_⟩
            rw [e3]
            exact fun r a b hr hp h1 hq => C r a b hr hp trivial h1 hq
          · exact Or.inl ⟨e2, by omega⟩
        · exact br_t e1 (tell s.2 S L C)
    · intro f2 i a2 hi hI ih
      have h3 := hw3 i
      refine br_f (nI_ge hi (by omega)) (And.intro (gx_in (by omega) (by decide)) ?_)
      rw [gx_cl (n := i) (by omega), hw i hi, gx_5, gx_c11, gx_cl (by omega), nI_1]
      refine And.intro (gx_in (by omega) (by decide)) (nm_e (nm_e (ih _ fun s x b hs hx => ?_)))
      rw [gb_u]
      by_cases e : s * 11 + x = (5 + w i) * 11 + i
      · have e1 : x = i := by omega
        have e2 : s = 5 + w i := by omega
        rw [if_pos e, gb_sg (by omega), e1, e2]
        exact ⟨fun z => ⟨by omega, rfl, z⟩, fun z => z.2.2⟩
      · rw [if_neg e, hI s x b hs hx]
        refine ⟨fun z => ⟨by omega, z.2⟩, fun z => ⟨?_, z.2⟩⟩
        by_cases e2 : x = i
        · have z2 := z.2.1
          rw [e2] at z2
          omega
        · omega
  · intro f c a hc hI ih
    refine br_f (nI_ge hc (by decide)) (And.intro (gx_in hc (by decide)) (nm_r (e' := upd a c 0) (by rw [gx_cl (by omega)]) (nm_r (nI_1 c) (ih _ ?_))))
    intro x hx
    rw [gb_u]
    split
    · rfl
    · exact hI x (by omega)
end xbyreach_foundByOther

section xlen_word_found
variable {rs wl az : Int32} {rk rl ry wd fd fo sg st re ag li fw bg le ls : Nat → Int32} {g : gm_G} {w : Nat → Nat} {n : Nat}
theorem gx_byLength_word_found {post : SX → Prop} (H : gx_G g rs rk rl ry) (hw : ∀ i, i < n → wd i = nI (w i)) (hw3 : ∀ i, w i < 3) (hn : n ≤ 10) (h : ∀ t sg', gt_ok g w n t → post (rs, wl, az, rk, rl, ry, wd, t, fo, sg', st, re, ag, li, fw, bg, le, ls)) : wpX_byLength__word_found post (rs, wl, az, rk, rl, ry, wd, fd, fo, sg, st, re, ag, li, fw, bg, le, ls) (nI n) := by
  unfold wpX_byLength__word_found
  refine gx_putLetters_word_found hw hw3 hn fun t P => ?_
  refine gx_kmf H gx_gv0 fun e E => ?_
  have hbe : ∀ s, bt e s = true ↔ gn_e g s := E
  refine gx_findSingles H E fun sg' U => ?_
  refine pk_loop (fun f i (t : Nat → Int32) => wX_byLength__word_found_22 post (nI n) e rs wl az f (nI i) rk rl ry wd t fo sg' st re ag li fw bg le ls) (fun i t => gl_B g w n t (fun a b => a = b ∧ a < i)) (n + 1) 0 t (by omega) ?_ ?_ ?_
  · intro s a b h1 h2
    exact ⟨fun z => absurd z.2 (by omega), fun _ => P s a b (by omega) (by omega)⟩
  · intro f t2 B
    refine br_t (nI_lt (Nat.lt_succ_self n) (by omega)) ?_
    refine pk_loop (fun f l (t : Nat → Int32) => wX_byLength__word_found_49 post (nI n) rs wl az f (nI l) rk rl ry wd t fo sg' st re ag li fw bg le ls) (fun l t => 1 ≤ l ∧ gl_B g w n t (fun a b => b - a < l)) (n + 1) 1 t2 (by omega) ⟨Nat.le_refl _, ?_⟩ ?_ ?_
    · intro s a b h1 h2
      obtain ⟨b1, b2⟩ := B s a b h1 h2
      exact ⟨fun z => b1 (by omega), fun z => b2 (by omega)⟩
    · intro f3 t3 ⟨_, B3⟩
      refine br_t (nI_lt (Nat.lt_succ_self n) (by omega)) (h t3 sg' fun s i j => ?_)
      constructor
      · intro ⟨h1, h2, h3⟩
        exact ((B3 s i j h1 h2).1 (by omega)).mp h3
      · intro z
        have hb := gm_mb z
        exact ⟨hb.1, hb.2, ((B3 s i j hb.1 hb.2).1 (by omega)).mpr z⟩
    · intro f3 l t3 hl ⟨hl1, B3⟩ ih
      refine br_f (nI_nlt (by omega) (by omega)) ?_
      refine pk_loop (fun f4 i (t : Nat → Int32) => wX_byLength__word_found_58 post (wX_byLength__word_found_49 post (nI n) rs wl az f3) (nI n) (nI l) rs wl az f4 (nI i) rk rl ry wd t fo sg' st re ag li fw bg le ls) (fun i t => gl_B g w n t (fun a b => b - a < l ∨ (b - a = l ∧ a < i))) (n + 1 - l) 0 t3 (by omega) ?_ ?_ ?_
      · intro s a b h1 h2
        obtain ⟨b1, b2⟩ := B3 s a b h1 h2
        exact ⟨fun z => b1 (by omega), fun z => b2 (by omega)⟩
      · intro f4 t4 B4
        refine br_t (by rw [nI_add]; exact nI_lt (by omega) (by omega)) (nm_r (nI_1 l) (ih t4 ⟨by omega, fun s a b h1 h2 => ?_⟩))
        obtain ⟨b1, b2⟩ := B4 s a b h1 h2
        exact ⟨fun z => b1 (by omega), fun z => b2 (by omega)⟩
      · intro f4 i t4 hi B4 ih4
        refine br_f (by rw [nI_add]; exact nI_nlt (by omega) (by omega)) (nm_r (e' := nI (i * 11 + i + l)) (by rw [gx_c11, nI_add]) ?_)
        rw [nI_add]
        refine gx_kindsFitting_found H (n := n) (by omega) (by omega) (by omega) fun e2 he2 => And.intro (gx_in (by omega) (by decide)) ?_
        rw [gx_cl (by omega)]
        refine gx_withSingles fun y hy => And.intro (gx_in (by omega) (by decide)) (nm_e (nm_r (nI_1 i) (ih4 _ ?_)))
        exact gl_Bs H.1 (by omega) hw3 hl1 (by omega) B4 U he2 hy
  · intro f i t2 hi B ih
    refine br_f (nI_nlt (by omega) (by omega)) ?_
    rw [gx_c11, gx_cl (by omega)]
    refine And.intro (gx_in (by omega) (by decide)) (nm_e (nm_r (nI_1 i) (ih _ ?_)))
    intro s a b h1 h2
    rw [gb_u]
    by_cases e1 : a * 11 + b = i * 11 + i
    · have e2 : a = i := by omega
      have e3 : b = i := by omega
      rw [if_pos e1, e2, e3]
      exact ⟨fun _ => (hbe s).trans (gn_iff H.1 (by omega)).symm, fun z => absurd ⟨rfl, by omega⟩ z⟩
    · rw [if_neg e1]
      obtain ⟨b1, b2⟩ := B s a b h1 h2
      exact ⟨fun z => b1 (by omega), fun z => b2 (by omega)⟩
end xlen_word_found

section xlen_word_foundByOther
variable {rs wl az : Int32} {rk rl ry wd fd fo sg st re ag li fw bg le ls : Nat → Int32} {g : gm_G} {w : Nat → Nat} {n : Nat}
theorem gx_byLength_word_foundByOther {post : SX → Prop} (H : gx_G g rs rk rl ry) (hw : ∀ i, i < n → wd i = nI (w i)) (hw3 : ∀ i, w i < 3) (hn : n ≤ 10) (h : ∀ t sg', gt_ok g w n t → post (rs, wl, az, rk, rl, ry, wd, fd, t, sg', st, re, ag, li, fw, bg, le, ls)) : wpX_byLength__word_foundByOther post (rs, wl, az, rk, rl, ry, wd, fd, fo, sg, st, re, ag, li, fw, bg, le, ls) (nI n) := by
  unfold wpX_byLength__word_foundByOther
  refine gx_putLetters_word_foundByOther hw hw3 hn fun t P => ?_
  refine gx_kmf H gx_gv0 fun e E => ?_
  have hbe : ∀ s, bt e s = true ↔ gn_e g s := E
  refine gx_findSingles H E fun sg' U => ?_
  refine pk_loop (fun f i (t : Nat → Int32) => wX_byLength__word_foundByOther_22 post (nI n) e rs wl az f (nI i) rk rl ry wd fd t sg' st re ag li fw bg le ls) (fun i t => gl_B g w n t (fun a b => a = b ∧ a < i)) (n + 1) 0 t (by omega) ?_ ?_ ?_
  · intro s a b h1 h2
    exact ⟨fun z => absurd z.2 (by omega), fun _ => P s a b (by omega) (by omega)⟩
  · intro f t2 B
    refine br_t (nI_lt (Nat.lt_succ_self n) (by omega)) ?_
    refine pk_loop (fun f l (t : Nat → Int32) => wX_byLength__word_foundByOther_49 post (nI n) rs wl az f (nI l) rk rl ry wd fd t sg' st re ag li fw bg le ls) (fun l t => 1 ≤ l ∧ gl_B g w n t (fun a b => b - a < l)) (n + 1) 1 t2 (by omega) ⟨Nat.le_refl _, ?_⟩ ?_ ?_
    · intro s a b h1 h2
      obtain ⟨b1, b2⟩ := B s a b h1 h2
      exact ⟨fun z => b1 (by omega), fun z => b2 (by omega)⟩
    · intro f3 t3 ⟨_, B3⟩
      refine br_t (nI_lt (Nat.lt_succ_self n) (by omega)) (h t3 sg' fun s i j => ?_)
      constructor
      · intro ⟨h1, h2, h3⟩
        exact ((B3 s i j h1 h2).1 (by omega)).mp h3
      · intro z
        have hb := gm_mb z
        exact ⟨hb.1, hb.2, ((B3 s i j hb.1 hb.2).1 (by omega)).mpr z⟩
    · intro f3 l t3 hl ⟨hl1, B3⟩ ih
      refine br_f (nI_nlt (by omega) (by omega)) ?_
      refine pk_loop (fun f4 i (t : Nat → Int32) => wX_byLength__word_foundByOther_58 post (wX_byLength__word_foundByOther_49 post (nI n) rs wl az f3) (nI n) (nI l) rs wl az f4 (nI i) rk rl ry wd fd t sg' st re ag li fw bg le ls) (fun i t => gl_B g w n t (fun a b => b - a < l ∨ (b - a = l ∧ a < i))) (n + 1 - l) 0 t3 (by omega) ?_ ?_ ?_
      · intro s a b h1 h2
        obtain ⟨b1, b2⟩ := B3 s a b h1 h2
        exact ⟨fun z => b1 (by omega), fun z => b2 (by omega)⟩
      · intro f4 t4 B4
        refine br_t (by rw [nI_add]; exact nI_lt (by omega) (by omega)) (nm_r (nI_1 l) (ih t4 ⟨by omega, fun s a b h1 h2 => ?_⟩))
        obtain ⟨b1, b2⟩ := B4 s a b h1 h2
        exact ⟨fun z => b1 (by omega), fun z => b2 (by omega)⟩
      · intro f4 i t4 hi B4 ih4
        refine br_f (by rw [nI_add]; exact nI_nlt (by omega) (by omega)) (nm_r (e' := nI (i * 11 + i + l)) (by rw [gx_c11, nI_add]) ?_)
        rw [nI_add]
        refine gx_kindsFitting_foundByOther H (n := n) (by omega) (by omega) (by omega) fun e2 he2 => And.intro (gx_in (by omega) (by decide)) ?_
        rw [gx_cl (by omega)]
        refine gx_withSingles fun y hy => And.intro (gx_in (by omega) (by decide)) (nm_e (nm_r (nI_1 i) (ih4 _ ?_)))
        exact gl_Bs H.1 (by omega) hw3 hl1 (by omega) B4 U he2 hy
  · intro f i t2 hi B ih
    refine br_f (nI_nlt (by omega) (by omega)) ?_
    rw [gx_c11, gx_cl (by omega)]
    refine And.intro (gx_in (by omega) (by decide)) (nm_e (nm_r (nI_1 i) (ih _ ?_)))
    intro s a b h1 h2
    rw [gb_u]
    by_cases e1 : a * 11 + b = i * 11 + i
    · have e2 : a = i := by omega
      have e3 : b = i := by omega
      rw [if_pos e1, e2, e3]
      exact ⟨fun _ => (hbe s).trans (gn_iff H.1 (by omega)).symm, fun z => absurd ⟨rfl, by omega⟩ z⟩
    · rw [if_neg e1]
      obtain ⟨b1, b2⟩ := B s a b h1 h2
      exact ⟨fun z => b1 (by omega), fun z => b2 (by omega)⟩
end xlen_word_foundByOther

section xlen_list_found
variable {rs wl az : Int32} {rk rl ry wd fd fo sg st re ag li fw bg le ls : Nat → Int32} {g : gm_G} {w : Nat → Nat} {n : Nat}
theorem gx_byLength_list_found {post : SX → Prop} (H : gx_G g rs rk rl ry) (hw : ∀ i, i < n → ls i = nI (w i)) (hw3 : ∀ i, w i < 3) (hn : n ≤ 4) (h : ∀ t sg', gt_ok g w n t → post (rs, wl, az, rk, rl, ry, wd, t, fo, sg', st, re, ag, li, fw, bg, le, ls)) : wpX_byLength__list_found post (rs, wl, az, rk, rl, ry, wd, fd, fo, sg, st, re, ag, li, fw, bg, le, ls) (nI n) := by
  unfold wpX_byLength__list_found
  refine gx_putLetters_list_found hw hw3 hn fun t P => ?_
  refine gx_kmf H gx_gv0 fun e E => ?_
  have hbe : ∀ s, bt e s = true ↔ gn_e g s := E
  refine gx_findSingles H E fun sg' U => ?_
  refine pk_loop (fun f i (t : Nat → Int32) => wX_byLength__list_found_22 post (nI n) e rs wl az f (nI i) rk rl ry wd t fo sg' st re ag li fw bg le ls) (fun i t => gl_B g w n t (fun a b => a = b ∧ a < i)) (n + 1) 0 t (by omega) ?_ ?_ ?_
  · intro s a b h1 h2
    exact ⟨fun z => absurd z.2 (by omega), fun _ => P s a b (by omega) (by omega)⟩
  · intro f t2 B
    refine br_t (nI_lt (Nat.lt_succ_self n) (by omega)) ?_
    refine pk_loop (fun f l (t : Nat → Int32) => wX_byLength__list_found_49 post (nI n) rs wl az f (nI l) rk rl ry wd t fo sg' st re ag li fw bg le ls) (fun l t => 1 ≤ l ∧ gl_B g w n t (fun a b => b - a < l)) (n + 1) 1 t2 (by omega) ⟨Nat.le_refl _, ?_⟩ ?_ ?_
    · intro s a b h1 h2
      obtain ⟨b1, b2⟩ := B s a b h1 h2
      exact ⟨fun z => b1 (by omega), fun z => b2 (by omega)⟩
    · intro f3 t3 ⟨_, B3⟩
      refine br_t (nI_lt (Nat.lt_succ_self n) (by omega)) (h t3 sg' fun s i j => ?_)
      constructor
      · intro ⟨h1, h2, h3⟩
        exact ((B3 s i j h1 h2).1 (by omega)).mp h3
      · intro z
        have hb := gm_mb z
        exact ⟨hb.1, hb.2, ((B3 s i j hb.1 hb.2).1 (by omega)).mpr z⟩
    · intro f3 l t3 hl ⟨hl1, B3⟩ ih
      refine br_f (nI_nlt (by omega) (by omega)) ?_
      refine pk_loop (fun f4 i (t : Nat → Int32) => wX_byLength__list_found_58 post (wX_byLength__list_found_49 post (nI n) rs wl az f3) (nI n) (nI l) rs wl az f4 (nI i) rk rl ry wd t fo sg' st re ag li fw bg le ls) (fun i t => gl_B g w n t (fun a b => b - a < l ∨ (b - a = l ∧ a < i))) (n + 1 - l) 0 t3 (by omega) ?_ ?_ ?_
      · intro s a b h1 h2
        obtain ⟨b1, b2⟩ := B3 s a b h1 h2
        exact ⟨fun z => b1 (by omega), fun z => b2 (by omega)⟩
      · intro f4 t4 B4
        refine br_t (by rw [nI_add]; exact nI_lt (by omega) (by omega)) (nm_r (nI_1 l) (ih t4 ⟨by omega, fun s a b h1 h2 => ?_⟩))
        obtain ⟨b1, b2⟩ := B4 s a b h1 h2
        exact ⟨fun z => b1 (by omega), fun z => b2 (by omega)⟩
      · intro f4 i t4 hi B4 ih4
        refine br_f (by rw [nI_add]; exact nI_nlt (by omega) (by omega)) (nm_r (e' := nI (i * 11 + i + l)) (by rw [gx_c11, nI_add]) ?_)
        rw [nI_add]
        refine gx_kindsFitting_found H (n := n) (by omega) (by omega) (by omega) fun e2 he2 => And.intro (gx_in (by omega) (by decide)) ?_
        rw [gx_cl (by omega)]
        refine gx_withSingles fun y hy => And.intro (gx_in (by omega) (by decide)) (nm_e (nm_r (nI_1 i) (ih4 _ ?_)))
        exact gl_Bs H.1 (by omega) hw3 hl1 (by omega) B4 U he2 hy
  · intro f i t2 hi B ih
    refine br_f (nI_nlt (by omega) (by omega)) ?_
    rw [gx_c11, gx_cl (by omega)]
    refine And.intro (gx_in (by omega) (by decide)) (nm_e (nm_r (nI_1 i) (ih _ ?_)))
    intro s a b h1 h2
    rw [gb_u]
    by_cases e1 : a * 11 + b = i * 11 + i
    · have e2 : a = i := by omega
      have e3 : b = i := by omega
      rw [if_pos e1, e2, e3]
      exact ⟨fun _ => (hbe s).trans (gn_iff H.1 (by omega)).symm, fun z => absurd ⟨rfl, by omega⟩ z⟩
    · rw [if_neg e1]
      obtain ⟨b1, b2⟩ := B s a b h1 h2
      exact ⟨fun z => b1 (by omega), fun z => b2 (by omega)⟩
end xlen_list_found

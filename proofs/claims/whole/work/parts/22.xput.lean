section xput_word_found
variable {rs wl az : Int32} {rk rl ry wd fd fo sg st re ag li fw bg le ls : Nat → Int32} {w : Nat → Nat} {n : Nat}
theorem gx_putLetters_word_found {post : SX → Prop} (hw : ∀ i, i < n → wd i = nI (w i)) (hw3 : ∀ i, w i < 3) (hn : n ≤ 10) (h : ∀ t, gt_P w n t → post (rs, wl, az, rk, rl, ry, wd, t, fo, sg, st, re, ag, li, fw, bg, le, ls)) : wpX_putLetters__word_found post (rs, wl, az, rk, rl, ry, wd, fd, fo, sg, st, re, ag, li, fw, bg, le, ls) (nI n) := by
  refine pk_loop (fun f c (t : Nat → Int32) => wX_putLetters__word_found_2 post (nI n) rs wl az f (nI c) rk rl ry wd t fo sg st re ag li fw bg le ls) (fun c t => ∀ x, x < c → t x = 0) 121 0 fd (by omega) lt_0 ?_ ?_
  · intro f t ht
    refine br_t (nI_le (Nat.le_refl _) (by decide)) ?_
    refine pk_loop (fun f i (t : Nat → Int32) => wX_putLetters__word_found_20 post (nI n) rs wl az f (nI i) rk rl ry wd t fo sg st re ag li fw bg le ls) (fun i t => ∀ s a b, a ≤ 10 → b ≤ 10 → (bt (t (a * 11 + b)) s = true ↔ a < i ∧ b = a + 1 ∧ s = 5 + w a)) n 0 t (by omega) (fun s a b ha hb => by rw [ht _ (by omega), b_0]; exact ⟨fun z => absurd z (by decide), fun z => absurd z.1 (by omega)⟩) ?_ ?_
    · intro f2 t2 hI
      exact br_t (nI_le (Nat.le_refl _) (by omega)) (h t2 hI)
    · intro f2 i t2 hi hI ih
      have h3 := hw3 i
      refine br_f (nI_ge hi (by omega)) (And.intro (gx_in (by omega) (by decide)) ?_)
      rw [gx_c11, nI_1, gx_cl (by omega), gx_cl (by omega)]
      refine And.intro (gx_in (by omega) (by decide)) (nm_r (e' := upd t2 (i * 11 + i + 1) ((1 : Int32) <<< (nI (5 + w i) &&& 31))) (by rw [hw i hi, gx_5]) (nm_r (nI_1 i) (ih _ fun s a b ha hb => ?_)))
      rw [gb_u]
      by_cases e : a * 11 + b = i * 11 + i + 1
      · have e1 : a = i := by omega
        have e2 : b = i + 1 := by omega
        rw [if_pos e, gb_sg (by omega), e1, e2]
        exact ⟨fun z => ⟨by omega, rfl, z⟩, fun z => z.2.2⟩
      · rw [if_neg e, hI s a b ha hb]
        refine ⟨fun z => ⟨by omega, z.2⟩, fun z => ⟨?_, z.2⟩⟩
        have := z.2.1
        omega
  · intro f c t hc hI ih
    refine br_f (nI_ge hc (by decide)) (And.intro (gx_in hc (by decide)) (nm_r (e' := upd t c 0) (by rw [gx_cl (by omega)]) (nm_r (nI_1 c) (ih _ ?_))))
    intro x hx
    rw [gb_u]
    split
    · rfl
    · exact hI x (by omega)
end xput_word_found

section xput_word_foundByOther
variable {rs wl az : Int32} {rk rl ry wd fd fo sg st re ag li fw bg le ls : Nat → Int32} {w : Nat → Nat} {n : Nat}
theorem gx_putLetters_word_foundByOther {post : SX → Prop} (hw : ∀ i, i < n → wd i = nI (w i)) (hw3 : ∀ i, w i < 3) (hn : n ≤ 10) (h : ∀ t, gt_P w n t → post (rs, wl, az, rk, rl, ry, wd, fd, t, sg, st, re, ag, li, fw, bg, le, ls)) : wpX_putLetters__word_foundByOther post (rs, wl, az, rk, rl, ry, wd, fd, fo, sg, st, re, ag, li, fw, bg, le, ls) (nI n) := by
  refine pk_loop (fun f c (t : Nat → Int32) => wX_putLetters__word_foundByOther_2 post (nI n) rs wl az f (nI c) rk rl ry wd fd t sg st re ag li fw bg le ls) (fun c t => ∀ x, x < c → t x = 0) 121 0 fo (by omega) lt_0 ?_ ?_
  · intro f t ht
    refine br_t (nI_le (Nat.le_refl _) (by decide)) ?_
    refine pk_loop (fun f i (t : Nat → Int32) => wX_putLetters__word_foundByOther_20 post (nI n) rs wl az f (nI i) rk rl ry wd fd t sg st re ag li fw bg le ls) (fun i t => ∀ s a b, a ≤ 10 → b ≤ 10 → (bt (t (a * 11 + b)) s = true ↔ a < i ∧ b = a + 1 ∧ s = 5 + w a)) n 0 t (by omega) (fun s a b ha hb => by rw [ht _ (by omega), b_0]; exact ⟨fun z => absurd z (by decide), fun z => absurd z.1 (by omega)⟩) ?_ ?_
    · intro f2 t2 hI
      exact br_t (nI_le (Nat.le_refl _) (by omega)) (h t2 hI)
    · intro f2 i t2 hi hI ih
      have h3 := hw3 i
      refine br_f (nI_ge hi (by omega)) (And.intro (gx_in (by omega) (by decide)) ?_)
      rw [gx_c11, nI_1, gx_cl (by omega), gx_cl (by omega)]
      refine And.intro (gx_in (by omega) (by decide)) (nm_r (e' := upd t2 (i * 11 + i + 1) ((1 : Int32) <<< (nI (5 + w i) &&& 31))) (by rw [hw i hi, gx_5]) (nm_r (nI_1 i) (ih _ fun s a b ha hb => ?_)))
      rw [gb_u]
      by_cases e : a * 11 + b = i * 11 + i + 1
      · have e1 : a = i := by omega
        have e2 : b = i + 1 := by omega
        rw [if_pos e, gb_sg (by omega), e1, e2]
        exact ⟨fun z => ⟨by omega, rfl, z⟩, fun z => z.2.2⟩
      · rw [if_neg e, hI s a b ha hb]
        refine ⟨fun z => ⟨by omega, z.2⟩, fun z => ⟨?_, z.2⟩⟩
        have := z.2.1
        omega
  · intro f c t hc hI ih
    refine br_f (nI_ge hc (by decide)) (And.intro (gx_in hc (by decide)) (nm_r (e' := upd t c 0) (by rw [gx_cl (by omega)]) (nm_r (nI_1 c) (ih _ ?_))))
    intro x hx
    rw [gb_u]
    split
    · rfl
    · exact hI x (by omega)
end xput_word_foundByOther

section xput_list_found
variable {rs wl az : Int32} {rk rl ry wd fd fo sg st re ag li fw bg le ls : Nat → Int32} {w : Nat → Nat} {n : Nat}
theorem gx_putLetters_list_found {post : SX → Prop} (hw : ∀ i, i < n → ls i = nI (w i)) (hw3 : ∀ i, w i < 3) (hn : n ≤ 4) (h : ∀ t, gt_P w n t → post (rs, wl, az, rk, rl, ry, wd, t, fo, sg, st, re, ag, li, fw, bg, le, ls)) : wpX_putLetters__list_found post (rs, wl, az, rk, rl, ry, wd, fd, fo, sg, st, re, ag, li, fw, bg, le, ls) (nI n) := by
  refine pk_loop (fun f c (t : Nat → Int32) => wX_putLetters__list_found_2 post (nI n) rs wl az f (nI c) rk rl ry wd t fo sg st re ag li fw bg le ls) (fun c t => ∀ x, x < c → t x = 0) 121 0 fd (by omega) lt_0 ?_ ?_
  · intro f t ht
    refine br_t (nI_le (Nat.le_refl _) (by decide)) ?_
    refine pk_loop (fun f i (t : Nat → Int32) => wX_putLetters__list_found_20 post (nI n) rs wl az f (nI i) rk rl ry wd t fo sg st re ag li fw bg le ls) (fun i t => ∀ s a b, a ≤ 10 → b ≤ 10 → (bt (t (a * 11 + b)) s = true ↔ a < i ∧ b = a + 1 ∧ s = 5 + w a)) n 0 t (by omega) (fun s a b ha hb => by rw [ht _ (by omega), b_0]; exact ⟨fun z => absurd z (by decide), fun z => absurd z.1 (by omega)⟩) ?_ ?_
    · intro f2 t2 hI
      exact br_t (nI_le (Nat.le_refl _) (by omega)) (h t2 hI)
    · intro f2 i t2 hi hI ih
      have h3 := hw3 i
      refine br_f (nI_ge hi (by omega)) (And.intro (gx_in (by omega) (by decide)) ?_)
      rw [gx_c11, nI_1, gx_cl (by omega), gx_cl (by omega)]
      refine And.intro (gx_in (by omega) (by decide)) (nm_r (e' := upd t2 (i * 11 + i + 1) ((1 : Int32) <<< (nI (5 + w i) &&& 31))) (by rw [hw i hi, gx_5]) (nm_r (nI_1 i) (ih _ fun s a b ha hb => ?_)))
      rw [gb_u]
      by_cases e : a * 11 + b = i * 11 + i + 1
      · have e1 : a = i := by omega
        have e2 : b = i + 1 := by omega
        rw [if_pos e, gb_sg (by omega), e1, e2]
        exact ⟨fun z => ⟨by omega, rfl, z⟩, fun z => z.2.2⟩
      · rw [if_neg e, hI s a b ha hb]
        refine ⟨fun z => ⟨by omega, z.2⟩, fun z => ⟨?_, z.2⟩⟩
        have := z.2.1
        omega
  · intro f c t hc hI ih
    refine br_f (nI_ge hc (by decide)) (And.intro (gx_in hc (by decide)) (nm_r (e' := upd t c 0) (by rw [gx_cl (by omega)]) (nm_r (nI_1 c) (ih _ ?_))))
    intro x hx
    rw [gb_u]
    split
    · rfl
    · exact hI x (by omega)
end xput_list_found

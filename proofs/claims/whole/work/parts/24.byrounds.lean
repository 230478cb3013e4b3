section xrounds_found
variable {rs wl az : Int32} {rk rl ry wd fd fo sg st re ag li fw bg le ls : Nat → Int32} {g : gm_G} {w : Nat → Nat} {n : Nat}
theorem gx_byRounds_found {post : SX → Prop} (H : gx_G g rs rk rl ry) (hw : ∀ i, i < n → wd i = nI (w i)) (hw3 : ∀ i, w i < 3) (hn : n ≤ 10) (h : ∀ t, gt_ok g w n t → post (rs, wl, az, rk, rl, ry, wd, t, fo, sg, st, re, ag, li, fw, bg, le, ls)) : wpX_byRounds__word_found post (rs, wl, az, rk, rl, ry, wd, fd, fo, sg, st, re, ag, li, fw, bg, le, ls) (nI n) := by
  unfold wpX_byRounds__word_found
  refine gx_putLetters_word_found hw hw3 hn fun t P => ?_
  refine pk_loop (fun f c (s : Int32 × (Nat → Int32)) => wX_byRounds__word_found_12 post (nI n) rs wl az f s.1 (nI c) rk rl ry wd s.2 fo sg st re ag li fw bg le ls) (fun c s => gt_S g w n s.2 ∧ gt_L w n s.2 ∧ ((s.1 = 1 ∧ c ≤ gt_n s.2) ∨ (s.1 = 0 ∧ gt_C g n s.2))) 605 0 (1, t) (by omega) ⟨gt_PS P, gt_PL hn P, Or.inl ⟨rfl, Nat.zero_le _⟩⟩ ?_ ?_
  · intro f s ⟨S, L, A⟩
    refine br_t (nI_le (Nat.le_refl _) (by decide)) (h s.2 ?_)
    rcases A with ⟨_, z⟩ | ⟨_, C⟩
    · have := gt_nS S
      omega
    · exact gt_mk hn S L C
  · intro f c s hc ⟨S, L, A⟩ ih
    refine br_f (nI_ge hc (by decide)) ?_
    rcases A with ⟨e1, z⟩ | ⟨e1, C⟩
    · refine br_f (by rw [e1]; exact gx_10) ?_
      refine pk_loop (fun f2 i (s : Int32 × (Nat → Int32)) => wX_byRounds__word_found_31 post (wX_byRounds__word_found_12 post (nI n) rs wl az f) (nI n) (nI c) rs wl az f2 s.1 (nI i) rk rl ry wd s.2 fo sg st re ag li fw bg le ls) (fun i s2 => gt_R g w n s.2 (fun a _ => a < i) s2) (n + 1) 0 (0, s.2) (by omega) ⟨S, L, Or.inl ⟨rfl, rfl, fun r a b _ _ d => absurd d (by omega)⟩⟩ ?_ ?_
      · intro f2 s2 I
        refine br_t (nI_lt (Nat.lt_succ_self n) (by omega)) (nm_r (nI_1 c) (ih s2 ⟨I.1, I.2.1, ?_⟩))
        rcases I.2.2 with ⟨e2, e3, C⟩ | ⟨e2, e3⟩
        · refine Or.inr ⟨e2, ?_⟩
          rw [e3]
          exact fun r i j hr hp h1 h2 hq => C r i j hr hp (by omega) h1 h2 hq
        · exact Or.inl ⟨e2, by omega⟩
      · intro f2 i s2 hi I ih2
        refine br_f (nI_nlt (by omega) (by omega)) ?_
        refine pk_loop (fun f3 j (s : Int32 × (Nat → Int32)) => wX_byRounds__word_found_41 post (wX_byRounds__word_found_12 post (nI n) rs wl az f) (wX_byRounds__word_found_31 post (wX_byRounds__word_found_12 post (nI n) rs wl az f) (nI n) (nI c) rs wl az f2) (nI n) (nI c) (nI i) rs wl az f3 s.1 (nI j) rk rl ry wd s.2 fo sg st re ag li fw bg le ls) (fun j s3 => i ≤ j ∧ gt_R g w n s.2 (fun a b => a < i ∨ (a = i ∧ b < j)) s3) (n + 1) i s2 (by omega) ⟨Nat.le_refl _, gt_Rw (fun a b h1 h2 d => by omega) I⟩ ?_ ?_
        · intro f3 s3 ⟨_, I3⟩
          exact br_t (nI_lt (Nat.lt_succ_self n) (by omega)) (nm_r (nI_1 i) (ih2 s3 (gt_Rw (fun a b h1 h2 d => by omega) I3)))
        · intro f3 j ⟨x3, t3⟩ hj ⟨hij, I3⟩ ih3
          refine br_f (nI_nlt (by omega) (by omega)) (nm_r (gx_c11 i j) (And.intro (gx_in (by omega) (by decide)) (nm_r (e' := t3 (i * 11 + j)) (by rw [gx_cl (by omega)]) (gx_kindsFitting_found H hn hij (by omega) fun e he => And.intro (gx_in (by omega) (by decide)) (nm_r (e' := upd t3 (i * 11 + j) (t3 (i * 11 + j) ||| e)) (by rw [gx_cl (by omega)]) ?_)))))
          obtain ⟨a1, a2, a3⟩ := gt_Rs H.1 hn hij (by omega) I3 (D' := fun a b => a < i ∨ (a = i ∧ b < j + 1)) (fun a b h1 h2 d => by omega) he
          exact br_c (fun x0 => br_c (fun y0 => nm_r (nI_1 j) (ih3 _ ⟨by omega, a1 x0 y0⟩)) (fun y0 => nm_r (nI_1 j) (ih3 _ ⟨by omega, a2 x0 y0⟩))) (fun x0 => nm_r (nI_1 j) (ih3 _ ⟨by omega, a3 x0⟩))
    · exact br_t e1 (h s.2 (gt_mk hn S L C))
end xrounds_found

section xrounds_foundByOther
variable {rs wl az : Int32} {rk rl ry wd fd fo sg st re ag li fw bg le ls : Nat → Int32} {g : gm_G} {w : Nat → Nat} {n : Nat}
theorem gx_byRounds_foundByOther {post : SX → Prop} (H : gx_G g rs rk rl ry) (hw : ∀ i, i < n → wd i = nI (w i)) (hw3 : ∀ i, w i < 3) (hn : n ≤ 10) (h : ∀ t, gt_ok g w n t → post (rs, wl, az, rk, rl, ry, wd, fd, t, sg, st, re, ag, li, fw, bg, le, ls)) : wpX_byRounds__word_foundByOther post (rs, wl, az, rk, rl, ry, wd, fd, fo, sg, st, re, ag, li, fw, bg, le, ls) (nI n) := by
  unfold wpX_byRounds__word_foundByOther
  refine gx_putLetters_word_foundByOther hw hw3 hn fun t P => ?_
  refine pk_loop (fun f c (s : Int32 × (Nat → Int32)) => wX_byRounds__word_foundByOther_12 post (nI n) rs wl az f s.1 (nI c) rk rl ry wd fd s.2 sg st re ag li fw bg le ls) (fun c s => gt_S g w n s.2 ∧ gt_L w n s.2 ∧ ((s.1 = 1 ∧ c ≤ gt_n s.2) ∨ (s.1 = 0 ∧ gt_C g n s.2))) 605 0 (1, t) (by omega) ⟨gt_PS P, gt_PL hn P, Or.inl ⟨rfl, Nat.zero_le _⟩⟩ ?_ ?_
  · intro f s ⟨S, L, A⟩
    refine br_t (nI_le (Nat.le_refl _) (by decide)) (h s.2 ?_)
    rcases A with ⟨_, z⟩ | ⟨_, C⟩
    · have := gt_nS S
      omega
    · exact gt_mk hn S L C
  · intro f c s hc ⟨S, L, A⟩ ih
    refine br_f (nI_ge hc (by decide)) ?_
    rcases A with ⟨e1, z⟩ | ⟨e1, C⟩
    · refine br_f (by rw [e1]; exact gx_10) ?_
      refine pk_loop (fun f2 i (s : Int32 × (Nat → Int32)) => wX_byRounds__word_foundByOther_31 post (wX_byRounds__word_foundByOther_12 post (nI n) rs wl az f) (nI n) (nI c) rs wl az f2 s.1 (nI i) rk rl ry wd fd s.2 sg st re ag li fw bg le ls) (fun i s2 => gt_R g w n s.2 (fun a _ => a < i) s2) (n + 1) 0 (0, s.2) (by omega) ⟨S, L, Or.inl ⟨rfl, rfl, fun r a b _ _ d => absurd d (by omega)⟩⟩ ?_ ?_
      · intro f2 s2 I
        refine br_t (nI_lt (Nat.lt_succ_self n) (by omega)) (nm_r (nI_1 c) (ih s2 ⟨I.1, I.2.1, ?_⟩))
        rcases I.2.2 with ⟨e2, e3, C⟩ | ⟨e2, e3⟩
        · refine Or.inr ⟨e2, ?_⟩
          rw [e3]
          exact fun r i j hr hp h1 h2 hq => C r i j hr hp (by omega) h1 h2 hq
        · exact Or.inl ⟨e2, by omega⟩
      · intro f2 i s2 hi I ih2
        refine br_f (nI_nlt (by omega) (by omega)) ?_
        refine pk_loop (fun f3 j (s : Int32 × (Nat → Int32)) => wX_byRounds__word_foundByOther_41 post (wX_byRounds__word_foundByOther_12 post (nI n) rs wl az f) (wX_byRounds__word_foundByOther_31 post (wX_byRounds__word_foundByOther_12 post (nI n) rs wl az f) (nI n) (nI c) rs wl az f2) (nI n) (nI c) (nI i) rs wl az f3 s.1 (nI j) rk rl ry wd fd s.2 sg st re ag li fw bg le ls) (fun j s3 => i ≤ j ∧ gt_R g w n s.2 (fun a b => a < i ∨ (a = i ∧ b < j)) s3) (n + 1) i s2 (by omega) ⟨Nat.le_refl _, gt_Rw (fun a b h1 h2 d => by omega) I⟩ ?_ ?_
        · intro f3 s3 ⟨_, I3⟩
          exact br_t (nI_lt (Nat.lt_succ_self n) (by omega)) (nm_r (nI_1 i) (ih2 s3 (gt_Rw (fun a b h1 h2 d => by omega) I3)))
        · intro f3 j ⟨x3, t3⟩ hj ⟨hij, I3⟩ ih3
          refine br_f (nI_nlt (by omega) (by omega)) (nm_r (gx_c11 i j) (And.intro (gx_in (by omega) (by decide)) (nm_r (e' := t3 (i * 11 + j)) (by rw [gx_cl (by omega)]) (gx_kindsFitting_foundByOther H hn hij (by omega) fun e he => And.intro (gx_in (by omega) (by decide)) (nm_r (e' := upd t3 (i * 11 + j) (t3 (i * 11 + j) ||| e)) (by rw [gx_cl (by omega)]) ?_)))))
          obtain ⟨a1, a2, a3⟩ := gt_Rs H.1 hn hij (by omega) I3 (D' := fun a b => a < i ∨ (a = i ∧ b < j + 1)) (fun a b h1 h2 d => by omega) he
          exact br_c (fun x0 => br_c (fun y0 => nm_r (nI_1 j) (ih3 _ ⟨by omega, a1 x0 y0⟩)) (fun y0 => nm_r (nI_1 j) (ih3 _ ⟨by omega, a2 x0 y0⟩))) (fun x0 => nm_r (nI_1 j) (ih3 _ ⟨by omega, a3 x0⟩))
    · exact br_t e1 (h s.2 (gt_mk hn S L C))
end xrounds_foundByOther

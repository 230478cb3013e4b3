section xfill_found
variable {rs az : Int32} {rk rl ry wd fd fo sg st re ag li fw bg le ls : Nat → Int32} {g : gm_G} {w : Nat → Nat} {n : Nat}
theorem gx_fill_found {post : SX → Prop} (H : gx_G g rs rk rl ry) (hw : ∀ i, wd i = nI (w i)) (hw3 : ∀ i, w i < 3) (hn : n ≤ 10) {k : Nat} (hk : k < 5) (h : ∀ t az' sg' st' re' ag' li', gt_ok g w n t → post (rs, nI n, az', rk, rl, ry, wd, t, fo, sg', st', re', ag', li', fw, bg, le, ls)) : wpX_fill__found post (rs, nI n, az, rk, rl, ry, wd, fd, fo, sg, st, re, ag, li, fw, bg, le, ls) (nI k) := by
  have hw' : ∀ i, i < n → wd i = nI (w i) := fun i _ => hw i
  refine br_f (nI_pos (by omega)) (pk_lt 3 k (fun hk3 => ?_) (fun hk3 => ?_))
  · exact gx_byAgenda_found H hw' hw3 hn fun t az' ag' li' ok => h t az' sg st re ag' li' ok
  · refine pk_eq k 0 (fun e => ?_) (fun e0 => pk_eq k 1 (fun e => ?_) (fun e1 => pk_eq k 2 (fun e => ?_) (fun e2 => pk_eq k 3 (fun e => ?_) (fun e3 => trivial))))
    · exact gx_byRounds_found H hw' hw3 hn fun t ok => h t az sg st re ag li ok
    · exact gx_byLength_word_found H hw' hw3 hn fun t sg' ok => h t az sg' st re ag li ok
    · exact gx_left_found H hw' hw3 hn fun t st' ok => h t az sg st' re ag li ok
    · exact gx_byReach_found H hw' hw3 hn fun t re' ok => h t az sg st re' ag li ok
end xfill_found

section xfill_foundByOther
variable {rs az : Int32} {rk rl ry wd fd fo sg st re ag li fw bg le ls : Nat → Int32} {g : gm_G} {w : Nat → Nat} {n : Nat}
theorem gx_fill_foundByOther {post : SX → Prop} (H : gx_G g rs rk rl ry) (hw : ∀ i, wd i = nI (w i)) (hw3 : ∀ i, w i < 3) (hn : n ≤ 10) {k : Nat} (hk : k < 5) (h : ∀ t az' sg' st' re' ag' li', gt_ok g w n t → post (rs, nI n, az', rk, rl, ry, wd, fd, t, sg', st', re', ag', li', fw, bg, le, ls)) : wpX_fill__foundByOther post (rs, nI n, az, rk, rl, ry, wd, fd, fo, sg, st, re, ag, li, fw, bg, le, ls) (nI k) := by
  have hw' : ∀ i, i < n → wd i = nI (w i) := fun i _ => hw i
  refine br_f (nI_pos (by omega)) (pk_lt 3 k (fun hk3 => ?_) (fun hk3 => ?_))
  · exact gx_byAgenda_foundByOther H hw' hw3 hn fun t az' ag' li' ok => h t az' sg st re ag' li' ok
  · refine pk_eq k 0 (fun e => ?_) (fun e0 => pk_eq k 1 (fun e => ?_) (fun e1 => pk_eq k 2 (fun e => ?_) (fun e2 => pk_eq k 3 (fun e => ?_) (fun e3 => trivial))))
    · exact gx_byRounds_foundByOther H hw' hw3 hn fun t ok => h t az sg st re ag li ok
    · exact gx_byLength_word_foundByOther H hw' hw3 hn fun t sg' ok => h t az sg' st re ag li ok
    · exact gx_left_foundByOther H hw' hw3 hn fun t st' ok => h t az sg st' re ag li ok
    · exact gx_byReach_foundByOther H hw' hw3 hn fun t re' ok => h t az sg st re' ag li ok
end xfill_foundByOther

/-! the relation -/
def gx_I (rs wl : Int32) (rk rl ry wd th : Nat → Int32) : Prop :=
  (∃ n, n ≤ 10 ∧ wl = nI n) ∧ (∀ i, ∃ c, c < 3 ∧ wd i = nI c) ∧ (∀ r, ∃ c, c < 5 ∧ rk r = nI c) ∧ (∀ r, ∃ c, c ≤ 3 ∧ rl r = nI c) ∧ (∀ r, ∃ c, c < 512 ∧ ry r = nI c) ∧ (∀ r, r < 16 → th r = if bt rs r = true then 1 else 0) ∧ ∀ r, 16 ≤ r → bt rs r = false
def i_Rel (_ : Nat) (u : SX) (v : SY) : Prop := match u, v with
  | (rs, wl, az, rk, rl, ry, wd, fd, fo, sg, st, re, ag, li, fw, bg, le, ls), (sz, _, _, th, kd, lg, pt, wy, _, _, _) => rk = kd ∧ rl = lg ∧ ry = pt ∧ wd = wy ∧ wl = sz ∧ gx_I rs wl rk rl ry wd th
theorem i_up {k : Nat} {u : SX} {v : SY} (h : i_Rel k u v) : i_Rel (k + 5) u v := h
theorem gx_I0 : gx_I 0 0 (fun _ => 0) (fun _ => 0) (fun _ => 0) (fun _ => 0) (fun _ => 0) :=
  ⟨⟨0, by decide, rfl⟩, fun _ => ⟨0, by decide, rfl⟩, fun _ => ⟨0, by decide, rfl⟩, fun _ => ⟨0, by decide, rfl⟩, fun _ => ⟨0, by decide, rfl⟩, fun r _ => by rw [b_0]; rfl, fun r _ => b_0 r⟩
theorem i_vc0 : wpX_init (fun u => wpY_init (fun v => i_Rel 0 u v)) := ⟨rfl, rfl, rfl, rfl, rfl, gx_I0⟩
theorem gx_data {rs wl : Int32} {rk rl ry wd th : Nat → Int32} (I : gx_I rs wl rk rl ry wd th) : ∃ (g : gm_G) (w : Nat → Nat) (n : Nat), gx_G g rs rk rl ry ∧ gy_G g th rk rl ry ∧ (∀ i, wd i = nI (w i)) ∧ (∀ i, w i < 3) ∧ n ≤ 10 ∧ wl = nI n ∧ ∀ r, r < 16 → (gm_p g r = bt rs r) := by
  obtain ⟨⟨n, hn, e⟩, h1, h2, h3, h4, h5, h6⟩ := I
  have a2 : ∀ r, (rk r).toNatClampNeg < 5 ∧ rk r = nI (rk r).toNatClampNeg := fun r => by
    obtain ⟨c, hc, e⟩ := h2 r
    rw [e, gx_cl (by omega)]; exact ⟨hc, rfl⟩
  have a3 : ∀ r, (rl r).toNatClampNeg ≤ 3 ∧ rl r = nI (rl r).toNatClampNeg := fun r => by
    obtain ⟨c, hc, e⟩ := h3 r
    rw [e, gx_cl (by omega)]; exact ⟨hc, rfl⟩
  have a4 : ∀ r d, d ≤ 3 → ((ry r) >>> ((3 * nI d) &&& 31)) &&& 7 = nI ((ry r).toNatClampNeg / 8 ^ d % 8) := fun r d hd => by
    obtain ⟨c, hc, e⟩ := h4 r
    rw [e, gx_cl (by omega)]
    exact gx_sym hc hd
  have a1 : ∀ i, (wd i).toNatClampNeg < 3 ∧ wd i = nI (wd i).toNatClampNeg := fun i => by
    obtain ⟨c, hc, e⟩ := h1 i
    rw [e, gx_cl (by omega)]; exact ⟨hc, rfl⟩
  have ok : gm_ok (fun r => bt rs r, fun r => (rk r).toNatClampNeg, fun r => (rl r).toNatClampNeg, fun r d => (ry r).toNatClampNeg / 8 ^ d % 8) := ⟨fun r => (a2 r).1, fun r => (a3 r).1, fun r d => Nat.mod_lt _ (by decide)⟩
  exact ⟨(fun r => bt rs r, fun r => (rk r).toNatClampNeg, fun r => (rl r).toNatClampNeg, fun r d => (ry r).toNatClampNeg / 8 ^ d % 8), fun i => (wd i).toNatClampNeg, n,
    ⟨ok, fun _ _ => rfl, fun r => (a2 r).2, fun r => (a3 r).2, a4⟩, ⟨ok, h5, fun r => (a2 r).2, fun r => (a3 r).2, a4⟩, fun i => (a1 i).2, fun i => (a1 i).1, hn, e, fun _ _ => rfl⟩
theorem gx_ge {x : Int32} {a : Nat} (h : nI (a + 1) ≤ x) (ha : a < 1000) : ¬ x ≤ nI a ∧ nI a < x ∧ ¬ x < nI (a + 1) ∧ ¬ x < 0 := by
  rw [Int32.le_iff_toInt_le, nI_toInt (by omega)] at h
  rw [Int32.le_iff_toInt_le, Int32.lt_iff_toInt_lt, Int32.lt_iff_toInt_lt, Int32.lt_iff_toInt_lt, nI_toInt (by omega), nI_toInt (by omega), show (0 : Int32).toInt = 0 from rfl]
  omega
/-! rule, drop, rules, write, cut -/
section simple
variable {rs wl az : Int32} {rk rl ry wd fd fo sg st re ag li fw bg le ls : Nat → Int32} {sz mn gr : Int32} {th kd lg pt md wy lsy ley : Nat → Int32}
theorem gx_rule36 {post : Int32 → SX → Prop} {x1 x2 x3 : Int32} {r : Nat} (hr : r < 16) (h1 : ∀ c, c < r → bt rs c = true) (h0 : bt rs r = false) (h : post (nI r) (rs ||| ((1 : Int32) <<< (nI r &&& 31)), wl, az, upd rk r x1, upd rl r x2, upd ry r x3, wd, fd, fo, sg, st, re, ag, li, fw, bg, le, ls)) : ∃ f, wX_rule_36 post x1 x2 x3 rs wl az rk rl ry wd fd fo sg st re ag li fw bg le ls f 0 := by
  refine pk_loop (fun f c (_ : Unit) => wX_rule_36 post x1 x2 x3 rs wl az rk rl ry wd fd fo sg st re ag li fw bg le ls f (nI c)) (fun _ _ => True) r 0 () (by omega) trivial ?_ ?_
  · intro f _ _
    have v : vp_in (nI r) 16 := gx_in hr (by decide)
    refine br_f (nI_ge hr (by decide)) (gx_bit (by omega) (fun z => ?_) (fun _ => br_t rfl (nm_e (And.intro v (nm_r (e' := upd rk r x1) (by rw [gx_cl (by omega)]) (And.intro v (nm_r (e' := upd rl r x2) (by rw [gx_cl (by omega)]) (And.intro v (nm_r (e' := upd ry r x3) (by rw [gx_cl (by omega)]) h)))))))))
    rw [h0] at z
    exact absurd z (by decide)
  · intro f c _ hc _ ih
    refine br_f (nI_ge (b := 16) (by omega) (by decide)) (gx_bit (by omega) (fun z => br_f gx_10 (nm_r (nI_1 c) (ih () trivial))) (fun z => ?_))
    rw [h1 c hc] at z
    exact absurd z (by decide)
theorem gx_rule36n {post : Int32 → SX → Prop} {x1 x2 x3 : Int32} (h1 : ∀ c, c < 16 → bt rs c = true) (h : post (-2) (rs, wl, az, rk, rl, ry, wd, fd, fo, sg, st, re, ag, li, fw, bg, le, ls)) : ∃ f, wX_rule_36 post x1 x2 x3 rs wl az rk rl ry wd fd fo sg st re ag li fw bg le ls f 0 := by
  refine pk_loop (fun f c (_ : Unit) => wX_rule_36 post x1 x2 x3 rs wl az rk rl ry wd fd fo sg st re ag li fw bg le ls f (nI c)) (fun _ _ => True) 16 0 () (by omega) trivial ?_ ?_
  · intro f _ _
    exact br_t (nI_le (Nat.le_refl _) (by decide)) h
  · intro f c _ hc _ ih
    refine br_f (nI_ge (b := 16) (by omega) (by decide)) (gx_bit (by omega) (fun z => br_f gx_10 (nm_r (nI_1 c) (ih () trivial))) (fun z => ?_))
    rw [h1 c hc] at z
    exact absurd z (by decide)
theorem gy_rule36 {post : Int32 → SY → Prop} {x1 x2 x3 : Int32} {r : Nat} (hr : r < 16) (h1 : ∀ c, c < r → th c = 1) (h0 : th r = 0) (h : post (nI r) (sz, mn, gr, upd th r 1, upd kd r x1, upd lg r x2, upd pt r x3, wy, lsy, md, ley)) : ∃ f, wY_rule_36 post x1 x2 x3 sz mn gr th kd lg pt wy lsy md ley f 0 := by
  refine pk_loop (fun f c (_ : Unit) => wY_rule_36 post x1 x2 x3 sz mn gr th kd lg pt wy lsy md ley f (nI c)) (fun _ _ => True) r 0 () (by omega) trivial ?_ ?_
  · intro f _ _
    have v : vp_in (nI r) 16 := gx_in hr (by decide)
    exact br_f (nI_ge hr (by decide)) (And.intro v (br_t (by rw [gx_cl (by omega)]; exact h0) (And.intro v (nm_r (e' := upd th r 1) (by rw [gx_cl (by omega)]; rfl) (And.intro v (nm_r (e' := upd kd r x1) (by rw [gx_cl (by omega)]) (And.intro v (nm_r (e' := upd lg r x2) (by rw [gx_cl (by omega)]) (And.intro v (nm_r (e' := upd pt r x3) (by rw [gx_cl (by omega)]) h))))))))))
  · intro f c _ hc _ ih
    exact br_f (nI_ge (b := 16) (by omega) (by decide)) (And.intro (gx_in (by omega) (by decide)) (br_f (by rw [gx_cl (by omega), h1 c hc]; exact gx_10) (nm_r (nI_1 c) (ih () trivial))))
theorem gy_rule36n {post : Int32 → SY → Prop} {x1 x2 x3 : Int32} (h1 : ∀ c, c < 16 → th c = 1) (h : post (-2) (sz, mn, gr, th, kd, lg, pt, wy, lsy, md, ley)) : ∃ f, wY_rule_36 post x1 x2 x3 sz mn gr th kd lg pt wy lsy md ley f 0 := by
  refine pk_loop (fun f c (_ : Unit) => wY_rule_36 post x1 x2 x3 sz mn gr th kd lg pt wy lsy md ley f (nI c)) (fun _ _ => True) 16 0 () (by omega) trivial ?_ ?_
  · intro f _ _
    exact br_t (nI_le (Nat.le_refl _) (by decide)) h
  · intro f c _ hc _ ih
    exact br_f (nI_ge hc (by decide)) (And.intro (gx_in (by omega) (by decide)) (br_f (by rw [gx_cl (by omega), h1 c hc]; exact gx_10) (nm_r (nI_1 c) (ih () trivial))))
theorem gx_sh8 : ∀ l, l < 4 → ¬ nI 513 ≤ (1 : Int32) <<< ((3 * nI l) &&& 31) := by decide +kernel
theorem gx_Irule {r k l s : Nat} (I : gx_I rs wl rk rl ry wd th) (hr : r < 16) (hk : k < 5) (hl : l ≤ 3) (hs : s < 512) : gx_I (rs ||| ((1 : Int32) <<< (nI r &&& 31))) wl (upd rk r (nI k)) (upd rl r (nI l)) (upd ry r (nI s)) wd (upd th r 1) := by
  obtain ⟨h0, h1, h2, h3, h4, h5, h6⟩ := I
  refine ⟨h0, h1, fun c => ?_, fun c => ?_, fun c => ?_, fun c hc => ?_, fun c hc => ?_⟩
  · rw [gb_u]
    split
    · exact ⟨k, hk, rfl⟩
    · exact h2 c
  · rw [gb_u]
    split
    · exact ⟨l, hl, rfl⟩
    · exact h3 c
  · rw [gb_u]
    split
    · exact ⟨s, hs, rfl⟩
    · exact h4 c
  · rw [gb_u]
    by_cases e : c = r
    · rw [if_pos e, if_pos ((gb_add rs (by omega) c).mpr (Or.inr e))]
    · rw [if_neg e, h5 c hc]
      by_cases z : bt rs c = true
      · rw [if_pos z, if_pos ((gb_add rs (by omega) c).mpr (Or.inl z))]
      · rw [if_neg z, if_neg fun y => ((gb_add rs (by omega) c).mp y).elim z e]
  · apply ts_nt
    intro y
    rcases (gb_add rs (by omega) c).mp y with z | z
    · rw [h6 c hc] at z; exact absurd z (by decide)
    · omega
theorem gx_Idrop {r : Nat} (I : gx_I rs wl rk rl ry wd th) (hr : r < 16) : gx_I (rs &&& (((1 : Int32) <<< (nI r &&& 31)) ^^^ (-1))) wl rk rl ry wd (upd th r 0) := by
  obtain ⟨h0, h1, h2, h3, h4, h5, h6⟩ := I
  have key : ∀ c, c < 32 → (bt (rs &&& (((1 : Int32) <<< (nI r &&& 31)) ^^^ (-1))) c = true ↔ bt rs c = true ∧ ¬ c = r) := fun c hc => by
    rw [gb_and, gb_not _ hc, gb_sh (by omega) hc]
    simp
  refine ⟨h0, h1, h2, h3, h4, fun c hc => ?_, fun c hc => ?_⟩
  · rw [gb_u]
    by_cases e : c = r
    · rw [if_pos e, if_neg fun y => ((key c (by omega)).mp y).2 e]
    · rw [if_neg e, h5 c hc]
      by_cases z : bt rs c = true
      · rw [if_pos z, if_pos ((key c (by omega)).mpr ⟨z, e⟩)]
      · rw [if_neg z, if_neg fun y => z ((key c (by omega)).mp y).1]
  · apply ts_nt
    intro y
    have := ((gb_and _ _).mp y).1
    rw [h6 c hc] at this
    exact absurd this (by decide)
end simple

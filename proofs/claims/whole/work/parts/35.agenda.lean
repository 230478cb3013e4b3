/-! engine 4: the agenda; s = (how many, agenda, listed); an item is 121 p + 11 i + j for a point p = 4 r + d -/
def gg_A (s : Nat × (Nat → Int32) × (Nat → Int32)) : Prop :=
  (∀ e, e < 7744 → s.2.2 e = 0 ∨ s.2.2 e = 1) ∧ s.1 = gc_n (fun e => s.2.2 e = 1) 7744 ∧ (∀ q, q < s.1 → ∃ e, e < 7744 ∧ s.2.1 q = nI e ∧ s.2.2 e = 1) ∧ ∀ e, e < 7744 → s.2.2 e = 1 → ∃ q, q < s.1 ∧ s.2.1 q = nI e
def gg_F (g : gm_G) (w : Nat → Nat) (n p i j : Nat) : Prop := gm_p g (p / 4) = true ∧ p % 4 ≤ gm_l g (p / 4) ∧ i ≤ j ∧ j ≤ n ∧ gm_q g (gm_mk g w n) (p / 4) (p % 4) i j
def gg_S (g : gm_G) (w : Nat → Nat) (n : Nat) (li : Nat → Int32) : Prop := ∀ p i j, p < 64 → i ≤ 10 → j ≤ 10 → li (p * 121 + i * 11 + j) = 1 → gg_F g w n p i j
def gg_R (g : gm_G) (w : Nat → Nat) (n : Nat) (s s' : Nat × (Nat → Int32) × (Nat → Int32)) : Prop :=
  gg_A s' ∧ gg_S g w n s'.2.2 ∧ s.1 ≤ s'.1 ∧ (∀ q, q < s.1 → s'.2.1 q = s.2.1 q) ∧ ∀ e, e < 7744 → s.2.2 e = 1 → s'.2.2 e = 1
theorem gg_rf {g : gm_G} {w : Nat → Nat} {n : Nat} {s : Nat × (Nat → Int32) × (Nat → Int32)} (A : gg_A s) (S : gg_S g w n s.2.2) : gg_R g w n s s := ⟨A, S, Nat.le_refl _, fun _ _ => rfl, fun _ _ h => h⟩
theorem gg_tr {g : gm_G} {w : Nat → Nat} {n : Nat} {s s' s'' : Nat × (Nat → Int32) × (Nat → Int32)} (h1 : gg_R g w n s s') (h2 : gg_R g w n s' s'') : gg_R g w n s s'' :=
  ⟨h2.1, h2.2.1, Nat.le_trans h1.2.2.1 h2.2.2.1, fun q hq => (h2.2.2.2.1 q (Nat.lt_of_lt_of_le hq h1.2.2.1)).trans (h1.2.2.2.1 q hq), fun e he h => h2.2.2.2.2 e he (h1.2.2.2.2 e he h)⟩
theorem gg_7744 {s : Nat × (Nat → Int32) × (Nat → Int32)} (A : gg_A s) : s.1 ≤ 7744 := by
  rw [A.2.1]
  exact gc_nle _ _
theorem gx_i121 (p i j : Nat) : nI p * 121 + nI i * 11 + nI j = nI (p * 121 + i * 11 + j) := by
  rw [show (121 : Int32) = nI 121 from rfl, show (11 : Int32) = nI 11 from rfl, pk_mul, pk_mul, nI_add, nI_add]
theorem gg_add {g : gm_G} {w : Nat → Nat} {n m e : Nat} {ag li : Nat → Int32} (A : gg_A (m, ag, li)) (he : e < 7744) (hl : li e = 0) : m < 7744 ∧ gg_A (m + 1, upd ag m (nI e), upd li e 1) := by
  obtain ⟨a1, a2, a3, a4⟩ := A
  have a1 : ∀ e, e < 7744 → li e = 0 ∨ li e = 1 := a1
  have a2 : m = gc_n (fun e => li e = 1) 7744 := a2
  have hne : ¬ li e = 1 := by rw [hl]; decide
  have hm : m < 7744 := by
    rcases Nat.lt_or_ge m 7744 with z | z
    · exact z
    · rw [a2] at z
      exact absurd (gc_nfull 7744 z e he) hne
  refine ⟨hm, fun x hx => ?_, ?_, fun q hq => ?_, fun x hx h => ?_⟩
  · show upd li e 1 x = 0 ∨ upd li e 1 x = 1
    rw [gb_u]
    split
    · exact Or.inr rfl
    · exact a1 x hx
  · show m + 1 = gc_n (fun x => upd li e 1 x = 1) 7744
    rw [a2, ← gc_nadd (P := fun e => li e = 1) hne he]
    apply gc_neq
    intro x _
    rw [gb_u]
    by_cases z : x = e
    · rw [if_pos z]
      exact ⟨fun _ => rfl, fun _ => Or.inr z⟩
    · rw [if_neg z]
      exact ⟨fun y => y.resolve_right z, Or.inl⟩
  · show ∃ x, x < 7744 ∧ upd ag m (nI e) q = nI x ∧ upd li e 1 x = 1
    by_cases z : q = m
    · exact ⟨e, he, gb_us z, gb_us rfl⟩
    · have hq : q < m + 1 := hq
      obtain ⟨x, h1, h2, h3⟩ := a3 q (by show q < m; omega)
      refine ⟨x, h1, by rw [gb_u, if_neg z]; exact h2, ?_⟩
      rw [gb_u]
      split
      · rfl
      · exact h3
  · have h : upd li e 1 x = 1 := h
    show ∃ q, q < m + 1 ∧ upd ag m (nI e) q = nI x
    by_cases z : x = e
    · exact ⟨m, by omega, by rw [gb_us rfl, z]⟩
    · rw [gb_u, if_neg z] at h
      obtain ⟨q, h1, h2⟩ := a4 x hx h
      have h1 : q < m := h1
      exact ⟨q, by omega, by rw [gb_u, if_neg (by omega)]; exact h2⟩
theorem gg_Su {g : gm_G} {w : Nat → Nat} {n p i j : Nat} {li : Nat → Int32} (S : gg_S g w n li) (hp : p < 64) (hi : i ≤ 10) (hj : j ≤ 10) (hF : gg_F g w n p i j) : gg_S g w n (upd li (p * 121 + i * 11 + j) 1) := by
  intro q a b hq ha hb h
  rw [gb_u] at h
  by_cases z : q * 121 + a * 11 + b = p * 121 + i * 11 + j
  · have e1 : q = p := by omega
    have e2 : a = i := by omega
    have e3 : b = j := by omega
    rw [e1, e2, e3]; exact hF
  · rw [if_neg z] at h
    exact S q a b hq ha hb h
theorem gg_Fn {g : gm_G} (G : gm_ok g) {w : Nat → Nat} {n p i m j : Nat} (hd : p % 4 < gm_l g (p / 4)) (h : gg_F g w n p i m) (hk : gm_mk g w n (gm_y g (p / 4) (p % 4)) m j) : gg_F g w n (p + 1) i j := by
  have h3 := G.2.1 (p / 4)
  have e1 : (p + 1) / 4 = p / 4 := by omega
  have e2 : (p + 1) % 4 = p % 4 + 1 := by omega
  obtain ⟨h1, h2, h4, h5, h6⟩ := h
  have hb := gm_mb hk
  unfold gg_F
  rw [e1, e2]
  exact ⟨h1, hd, by omega, hb.2, m, h6, hk⟩
section xagenda
variable {rs wl : Int32} {rk rl ry wd fd fo sg st re fw bg le ls : Nat → Int32} {g : gm_G} {w : Nat → Nat} {n : Nat}
theorem gx_listItem {post : SX → Prop} {m : Nat} {ag li : Nat → Int32} (A : gg_A (m, ag, li)) (S : gg_S g w n li) {p i j : Nat} (hp : p < 64) (hi : i ≤ 10) (hj : j ≤ 10) (hF : gg_F g w n p i j)
    (h : ∀ s, gg_R g w n (m, ag, li) s → s.2.2 (p * 121 + i * 11 + j) = 1 → post (rs, wl, nI s.1, rk, rl, ry, wd, fd, fo, sg, st, re, s.2.1, s.2.2, fw, bg, le, ls)) : wpX_listItem post (rs, wl, nI m, rk, rl, ry, wd, fd, fo, sg, st, re, ag, li, fw, bg, le, ls) (nI p) (nI i) (nI j) := by
  refine nm_r (gx_i121 p i j) ?_
  have he : p * 121 + i * 11 + j < 7744 := by omega
  have v : vp_in (nI (p * 121 + i * 11 + j)) 7744 := gx_in he (by decide)
  rw [gx_cl (n := p * 121 + i * 11 + j) (by omega)]
  refine And.intro v ?_
  rcases A.1 _ he with z | z
  · obtain ⟨hm, A'⟩ := gg_add (g := g) (w := w) (n := n) A he z
    refine br_t z (br_f (nI_ge hm (by decide)) (And.intro v (nm_r (e' := upd li (p * 121 + i * 11 + j) 1) rfl (And.intro (gx_in hm (by decide)) (nm_r (e' := upd ag m (nI (p * 121 + i * 11 + j))) (by rw [gx_cl (by omega)]) (nm_r (nI_1 m) (h (m + 1, upd ag m (nI (p * 121 + i * 11 + j)), upd li (p * 121 + i * 11 + j) 1) ⟨A', gg_Su S hp hi hj hF, Nat.le_succ _, fun q hq => ?_, fun x hx y => ?_⟩ (gb_us rfl))))))))
    · have hq : q < m := hq
      exact pk_un (by omega)
    · show upd li _ 1 x = 1
      rw [gb_u]
      split
      · rfl
      · exact y
  · have z' : li (p * 121 + i * 11 + j) = 1 := z
    exact br_f (by rw [z']; exact gx_10) (h (m, ag, li) (gg_rf A S) z)
theorem gx_goOnWaiting {post : SX → Prop} (H : gx_G g rs rk rl ry) {m : Nat} {ag li : Nat → Int32} (A : gg_A (m, ag, li)) (S : gg_S g w n li) {p c j : Nat} (hn : n ≤ 10) (hp : p < 64) (hd : p % 4 < gm_l g (p / 4)) (hk : gm_mk g w n (gm_y g (p / 4) (p % 4)) c j)
    (h : ∀ s, gg_R g w n (m, ag, li) s → (∀ a, a ≤ c → li (p * 121 + a * 11 + c) = 1 → s.2.2 ((p + 1) * 121 + a * 11 + j) = 1) → post (rs, wl, nI s.1, rk, rl, ry, wd, fd, fo, sg, st, re, s.2.1, s.2.2, fw, bg, le, ls)) : wpX_goOnWaiting post (rs, wl, nI m, rk, rl, ry, wd, fd, fo, sg, st, re, ag, li, fw, bg, le, ls) (nI p) (nI c) (nI j) := by
  have hb := gm_mb hk
  have h3 := H.1.2.1 (p / 4)
  refine pk_loop (fun f i (s : Nat × (Nat → Int32) × (Nat → Int32)) => wX_goOnWaiting_3 post (nI p) (nI c) (nI j) f (nI i) rs wl (nI s.1) rk rl ry wd fd fo sg st re s.2.1 s.2.2 fw bg le ls) (fun i s => gg_R g w n (m, ag, li) s ∧ ∀ a, a < i → li (p * 121 + a * 11 + c) = 1 → s.2.2 ((p + 1) * 121 + a * 11 + j) = 1) (c + 1) 0 (m, ag, li) (by omega) ⟨gg_rf A S, lt_0⟩ ?_ ?_
  · intro f s ⟨R, hI⟩
    exact br_t (nI_lt (Nat.lt_succ_self c) (by omega)) (h s R fun a ha => hI a (by omega))
  · intro f i s hi ⟨R, hI⟩ ih
    obtain ⟨m1, ag1, li1⟩ := s
    refine br_f (nI_nlt (by omega) (by omega)) ?_
    rw [gx_i121, gx_cl (n := p * 121 + i * 11 + c) (by omega)]
    refine And.intro (gx_in (by omega) (by decide)) ?_
    rcases R.1.1 (p * 121 + i * 11 + c) (by omega) with z | z
    · refine br_t z (nm_r (nI_1 i) (ih (m1, ag1, li1) ⟨R, lt_s hI fun y => ?_⟩))
      have y2 := R.2.2.2.2 _ (by omega) y
      rw [z] at y2
      exact absurd y2 (by decide)
    · have z' : li1 (p * 121 + i * 11 + c) = 1 := z
      refine br_f (by rw [z]; exact gx_10) ?_
      rw [nI_1 p]
      refine gx_listItem R.1 R.2.1 (p := p + 1) (i := i) (j := j) (by omega) (by omega) (by omega) (gg_Fn H.1 hd (R.2.1 p i c hp (by omega) (by omega) z') hk) fun s2 R2 e2 => nm_r (nI_1 i) (ih s2 ⟨gg_tr R R2, lt_s (fun a ha y => R2.2.2.2.2 _ (by omega) (hI a ha y)) fun _ => e2⟩)
def gg_0 : ∀ N, gc_n (fun _ => False) N = 0
  | 0 => rfl
  | N + 1 => by
    simp only [gc_n, gg_0 N]
    rw [gc_b_f (fun z => z)]
theorem gx_beginAgenda {post : SX → Prop} {az : Int32} {ag li : Nat → Int32} (H : gx_G g rs rk rl ry) (hn : n ≤ 10)
    (h : ∀ s, gg_A s → gg_S g w n s.2.2 → (∀ r i, r < 16 → gm_p g r = true → i ≤ n → s.2.2 (r * 4 * 121 + i * 11 + i) = 1) → post (rs, wl, nI s.1, rk, rl, ry, wd, fd, fo, sg, st, re, s.2.1, s.2.2, fw, bg, le, ls)) : wpX_beginAgenda post (rs, wl, az, rk, rl, ry, wd, fd, fo, sg, st, re, ag, li, fw, bg, le, ls) (nI n) := by
  refine pk_loop (fun f e (l : Nat → Int32) => wX_beginAgenda_7 post (nI n) rs wl 0 f (nI e) rk rl ry wd fd fo sg st re ag l fw bg le ls) (fun e l => ∀ x, x < e → l x = 0) 7744 0 li (by omega) lt_0 ?_ ?_
  · intro f l hl
    refine br_t (nI_le (Nat.le_refl _) (by decide)) ?_
    have A0 : gg_A (0, ag, l) := by
      refine ⟨fun e he => Or.inl (hl e he), ?_, fun q hq => absurd hq (Nat.not_lt_zero q), fun e he z => ?_⟩
      · show 0 = gc_n (fun e => l e = 1) 7744
        rw [← gg_0 7744]
        apply gc_neq
        intro x hx
        rw [hl x hx]
        exact ⟨fun z => z.elim, fun z => absurd z (by decide)⟩
      · have z : l e = 1 := z
        rw [hl e he] at z
        exact absurd z (by decide)
    have S0 : gg_S g w n l := fun p i j hp hi hj z => by
      rw [hl _ (by omega)] at z
      exact absurd z (by decide)
    refine pk_loop (fun f r (s : Nat × (Nat → Int32) × (Nat → Int32)) => wX_beginAgenda_29 post (nI n) f (nI r) rs wl (nI s.1) rk rl ry wd fd fo sg st re s.2.1 s.2.2 fw bg le ls) (fun r s => gg_A s ∧ gg_S g w n s.2.2 ∧ ∀ c i, c < r → gm_p g c = true → i ≤ n → s.2.2 (c * 4 * 121 + i * 11 + i) = 1) 16 0 (0, ag, l) (by omega) ⟨A0, S0, fun c i z => absurd z (by omega)⟩ ?_ ?_
    · intro f2 s ⟨A, S, hI⟩
      exact br_t (nI_le (Nat.le_refl _) (by decide)) (h s A S fun r i hr => hI r i hr)
    · intro f2 r s hr ⟨A, S, hI⟩ ih
      refine br_f (nI_ge hr (by decide)) (gx_hasRule H hr (fun hp => br_f gx_10 ?_) (fun hp => br_t rfl (nm_r (nI_1 r) (ih s ⟨A, S, fun c i hc hpc => ?_⟩))))
      · refine pk_loop (fun f3 i (s : Nat × (Nat → Int32) × (Nat → Int32)) => wX_beginAgenda_45 post (wX_beginAgenda_29 post (nI n) f2) (nI n) (nI r) f3 (nI i) rs wl (nI s.1) rk rl ry wd fd fo sg st re s.2.1 s.2.2 fw bg le ls) (fun i s => gg_A s ∧ gg_S g w n s.2.2 ∧ ∀ c x, (c < r ∨ (c = r ∧ x < i)) → gm_p g c = true → x ≤ n → s.2.2 (c * 4 * 121 + x * 11 + x) = 1) (n + 1) 0 s (by omega) ⟨A, S, fun c x z => hI c x (by omega)⟩ ?_ ?_
        · intro f3 s3 ⟨A3, S3, hI3⟩
          exact br_t (nI_lt (Nat.lt_succ_self n) (by omega)) (nm_r (nI_1 r) (ih s3 ⟨A3, S3, fun c x z hpc hx => hI3 c x (by omega) hpc hx⟩))
        · intro f3 i s3 hi ⟨A3, S3, hI3⟩ ih3
          obtain ⟨m3, ag3, li3⟩ := s3
          refine br_f (nI_nlt (by omega) (by omega)) ?_
          have e4 : nI r * 4 = nI (r * 4) := pk_mul r 4
          rw [e4]
          have d1 : r * 4 / 4 = r := by omega
          have d2 : r * 4 % 4 = 0 := by omega
          refine gx_listItem A3 S3 (p := r * 4) (i := i) (j := i) (by omega) (by omega) (by omega) (by unfold gg_F; rw [d1, d2]; exact ⟨hp, Nat.zero_le _, Nat.le_refl _, by omega, rfl⟩) fun s4 R4 e5 => nm_r (nI_1 i) (ih3 s4 ⟨R4.1, R4.2.1, fun c x z hpc hx => ?_⟩)
          by_cases e6 : c = r ∧ x = i
          · rw [e6.1, e6.2]; exact e5
          · exact R4.2.2.2.2 _ (by omega) (hI3 c x (by omega) hpc hx)
      · by_cases e : c = r
        · subst e; rw [hpc] at hp; exact absurd hp (by decide)
        · exact hI c i (by omega) hpc
  · intro f e l he hl ih
    refine br_f (nI_ge he (by decide)) (And.intro (gx_in he (by decide)) (nm_r (e' := upd l e 0) (by rw [gx_cl (by omega)]; rfl) (nm_r (nI_1 e) (ih _ ?_))))
    intro x hx
    rw [gb_u]
    split
    · rfl
    · exact hl x (by omega)
end xagenda

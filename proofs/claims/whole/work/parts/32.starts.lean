/-! engine 2: starts; Z st p r d i: the place i is among the starts of point d of rule r at place p -/
def gq_Z (st : Nat → Int32) (p r d i : Nat) : Prop := bt (st (p * 64 + r * 4 + d)) i = true
def gq_S (g : gm_G) (w : Nat → Nat) (n q : Nat) (st : Nat → Int32) : Prop := ∀ p r d i, p < q → r < 16 → d < 4 → gq_Z st p r d i → gm_p g r = true ∧ i ≤ p ∧ gm_q g (gm_mk g w n) r d i p
theorem gq_full {g : gm_G} {w : Nat → Nat} {n p : Nat} {st : Nat → Int32} (S : gq_S g w n (p + 1) st) : gq_n st p < 704 := by
  apply Classical.byContradiction
  intro h
  have f := gc_nfull 704 (Nat.le_of_not_lt h)
  rcases Nat.eq_zero_or_pos p with z | z
  · have h1 : bt (st (p * 64 + 1 / 11)) (1 % 11) = true := f 1 (by decide)
    have h2 : p = 1 := ((S p 0 0 1 (by omega) (by decide) (by decide) h1).2.2).symm
    omega
  · have h1 : bt (st (p * 64 + 0 / 11)) (0 % 11) = true := f 0 (by decide)
    have h2 : p = 0 := ((S p 0 0 0 (by omega) (by decide) (by decide) h1).2.2).symm
    omega
theorem gx_i64 (p r d : Nat) : nI p * 64 + nI r * 4 + nI d = nI (p * 64 + r * 4 + d) := by
  rw [show (64 : Int32) = nI 64 from rfl, show (4 : Int32) = nI 4 from rfl, pk_mul, pk_mul, nI_add, nI_add]
theorem gx_i64r (p r : Nat) : nI p * 64 + nI r * 4 = nI (p * 64 + r * 4) := by
  rw [show (64 : Int32) = nI 64 from rfl, show (4 : Int32) = nI 4 from rfl, pk_mul, pk_mul, nI_add]
theorem gx_i64p (p c : Nat) : nI p * 64 + nI c = nI (p * 64 + c) := by
  rw [show (64 : Int32) = nI 64 from rfl, pk_mul, nI_add]
/-- what passing symbol s from m to p may do to the starts -/
def gq_R (g : gm_G) (w : Nat → Nat) (n p s m : Nat) (st0 : Nat → Int32) (D : Nat → Nat → Prop) (u : Int32 × (Nat → Int32)) : Prop :=
  gq_S g w n (p + 1) u.2 ∧ (∀ c, c < p * 64 → u.2 c = st0 c) ∧ (∀ c i, bt (st0 c) i = true → bt (u.2 c) i = true) ∧
  (m < p → ∀ r d i, r < 16 → d < gm_l g r → D r d → gm_y g r d = s → gq_Z st0 m r d i → gq_Z u.2 p r (d + 1) i) ∧
  ((u.1 = 0 ∧ u.2 = st0 ∧ ∀ r d i, r < 16 → d < gm_l g r → D r d → gm_y g r d = s → gq_Z st0 m r d i → gq_Z st0 p r (d + 1) i) ∨ (u.1 = 1 ∧ gq_n st0 p < gq_n u.2 p))
theorem gq_Rw {g : gm_G} {w : Nat → Nat} {n p s m : Nat} {st0 : Nat → Int32} {D D' : Nat → Nat → Prop} {u : Int32 × (Nat → Int32)} (h : ∀ r d, r < 16 → d < gm_l g r → D' r d → gm_y g r d = s → D r d) (I : gq_R g w n p s m st0 D u) : gq_R g w n p s m st0 D' u :=
  ⟨I.1, I.2.1, I.2.2.1, fun hm r d i hr hd hD hy => I.2.2.2.1 hm r d i hr hd (h r d hr hd hD hy) hy, I.2.2.2.2.imp (fun z => ⟨z.1, z.2.1, fun r d i hr hd hD hy => z.2.2 r d i hr hd (h r d hr hd hD hy) hy⟩) id⟩
theorem gq_Rs {g : gm_G} (G : gm_ok g) {w : Nat → Nat} {n p s m r d : Nat} {st0 st : Nat → Int32} {D D' : Nat → Nat → Prop} {x : Int32} (hp : p ≤ 10) (hmp : m ≤ p) (hmk : gm_mk g w n s m p) (hr : r < 16) (hd : d < gm_l g r) (hy : gm_y g r d = s) (I : gq_R g w n p s m st0 D (x, st)) (hD : ∀ c e, D' c e → D c e ∨ (c = r ∧ e = d)) :
    ((st (m * 64 + r * 4 + d) &&& (st (p * 64 + r * 4 + d + 1) ^^^ (-1))) = 0 → gq_R g w n p s m st0 D' (x, st)) ∧
    (¬ (st (m * 64 + r * 4 + d) &&& (st (p * 64 + r * 4 + d + 1) ^^^ (-1))) = 0 → gq_R g w n p s m st0 D' (1, upd st (p * 64 + r * 4 + d + 1) (st (p * 64 + r * 4 + d + 1) ||| st (m * 64 + r * 4 + d)))) := by
  have h3 := G.2.1 r
  obtain ⟨S, hlo, hmo, hlet, A⟩ := I
  have S : gq_S g w n (p + 1) st := S
  have hlo : ∀ c, c < p * 64 → st c = st0 c := hlo
  have hmo : ∀ c i, bt (st0 c) i = true → bt (st c) i = true := hmo
  constructor
  · intro h0
    have key : ∀ i, gq_Z st m r d i → gq_Z st p r (d + 1) i := fun i hi => by
      have h5 := congrArg (fun z => bt z i) (gt_or0 h0)
      show bt (st (p * 64 + r * 4 + d + 1)) i = true
      rw [← h5, gb_or]
      exact Or.inr hi
    refine ⟨S, hlo, hmo, fun hm c e i hc he hDc hyc hz => ?_, A.imp (fun z => ⟨z.1, z.2.1, fun c e i hc he hDc hyc hz => ?_⟩) id⟩
    · rcases hD c e hDc with y | ⟨y1, y2⟩
      · exact hlet hm c e i hc he y hyc hz
      · subst y1 y2
        exact key i (hmo _ _ hz)
    · have e2 : st = st0 := z.2.1
      rcases hD c e hDc with y | ⟨y1, y2⟩
      · exact z.2.2 c e i hc he y hyc hz
      · subst y1 y2
        rw [← e2] at hz ⊢
        exact key i hz
  · intro h1
    have M : ∀ c i, bt (st c) i = true → bt (upd st (p * 64 + r * 4 + d + 1) (st (p * 64 + r * 4 + d + 1) ||| st (m * 64 + r * 4 + d)) c) i = true := fun c i h => gt_orM c i h
    refine ⟨?_, fun c hc => ?_, fun c i h => M c i (hmo c i h), fun hm c e i hc he hDc hyc hz => ?_, Or.inr ⟨rfl, ?_⟩⟩
    · intro q c e i hq hc he hz
      have hz : bt (upd st (p * 64 + r * 4 + d + 1) (st (p * 64 + r * 4 + d + 1) ||| st (m * 64 + r * 4 + d)) (q * 64 + c * 4 + e)) i = true := hz
      rw [gb_u] at hz
      by_cases e1 : q * 64 + c * 4 + e = p * 64 + r * 4 + d + 1
      · have a1 : q = p := by omega
        have a2 : c = r := by omega
        have a3 : e = d + 1 := by omega
        rw [if_pos e1, gb_or] at hz
        rcases hz with z | z
        · exact S q c e i hq hc he (by unfold gq_Z; rw [e1]; exact z)
        · obtain ⟨b1, b2, b3⟩ := S m r d i (by omega) hr (by omega) z
          rw [a1, a2, a3]
          refine ⟨b1, by omega, m, b3, ?_⟩
          rw [hy]
          exact hmk
      · rw [if_neg e1] at hz
        exact S q c e i hq hc he hz
    · show upd st (p * 64 + r * 4 + d + 1) _ c = st0 c
      rw [gb_u, if_neg (by omega)]
      exact hlo c hc
    · show bt (upd st (p * 64 + r * 4 + d + 1) _ (p * 64 + c * 4 + (e + 1))) i = true
      rcases hD c e hDc with y | ⟨y1, y2⟩
      · exact M _ _ (hlet hm c e i hc he y hyc hz)
      · subst y1 y2
        rw [gb_us (by omega), gb_or]
        exact Or.inr (hmo _ _ hz)
    · obtain ⟨i, hi, b1, b2⟩ := (gb_new _ _).mp h1
      obtain ⟨c1, c2, c3⟩ := S m r d i (by omega) hr (by omega) b1
      have h6 : gq_n st p < gq_n (upd st (p * 64 + r * 4 + d + 1) (st (p * 64 + r * 4 + d + 1) ||| st (m * 64 + r * 4 + d))) p := gq_nlt M (c := r * 4 + d + 1) (i := i) (by omega) (by omega) (by rw [← Nat.add_assoc, ← Nat.add_assoc]; exact b2) (by rw [gb_us (by omega), gb_or]; exact Or.inr b1)
      rcases A with ⟨_, e2, _⟩ | ⟨_, e2⟩
      · have e2 : st = st0 := e2
        rw [← e2]; exact h6
      · exact Nat.lt_trans e2 h6
section xstarts
variable {rs wl az : Int32} {rk rl ry wd fd fo sg st re ag li fw bg le ls : Nat → Int32} {g : gm_G} {w : Nat → Nat} {n : Nat}
theorem gx_beginRulesAt {post : SX → Prop} (H : gx_G g rs rk rl ry) {p : Nat} (hp : p ≤ 10) (h : ∀ st', (∀ c, c < p * 64 → st' c = st c) → (∀ r d i, r < 16 → d < 4 → (gq_Z st' p r d i ↔ d = 0 ∧ gm_p g r = true ∧ i = p)) → post (rs, wl, az, rk, rl, ry, wd, fd, fo, sg, st', re, ag, li, fw, bg, le, ls)) : wpX_beginRulesAt post (rs, wl, az, rk, rl, ry, wd, fd, fo, sg, st, re, ag, li, fw, bg, le, ls) (nI p) := by
  refine pk_loop (fun f c (a : Nat → Int32) => wX_beginRulesAt_2 post (nI p) rs wl az f (nI c) rk rl ry wd fd fo sg a re ag li fw bg le ls) (fun c a => (∀ x, x < p * 64 → a x = st x) ∧ ∀ x, x < c → a (p * 64 + x) = 0) 64 0 st (by omega) ⟨fun _ _ => rfl, lt_0⟩ ?_ ?_
  · intro f a ⟨h1, h2⟩
    refine br_t (nI_le (Nat.le_refl _) (by decide)) ?_
    refine pk_loop (fun f r (a : Nat → Int32) => wX_beginRulesAt_28 post (nI p) rs wl az f (nI r) rk rl ry wd fd fo sg a re ag li fw bg le ls) (fun r a => (∀ x, x < p * 64 → a x = st x) ∧ ∀ c d i, c < 16 → d < 4 → (gq_Z a p c d i ↔ c < r ∧ d = 0 ∧ gm_p g c = true ∧ i = p)) 16 0 a (by omega) ⟨h1, fun c d i hc hd => ?_⟩ ?_ ?_
    · unfold gq_Z
      rw [Nat.add_assoc, h2 (c * 4 + d) (by omega), b_0]
      exact ⟨fun z => absurd z (by decide), fun z => absurd z.1 (by omega)⟩
    · intro f2 a2 ⟨h3, h4⟩
      refine br_t (nI_le (Nat.le_refl _) (by decide)) (h a2 h3 fun r d i hr hd => ?_)
      rw [h4 r d i hr hd]
      exact ⟨fun z => z.2, fun z => ⟨hr, z⟩⟩
    · intro f2 r a2 hr ⟨h3, h4⟩ ih
      refine br_f (nI_ge hr (by decide)) (gx_hasRule H hr (fun hpr => br_f gx_10 ?_) (fun hpr => br_t rfl (nm_r (nI_1 r) (ih a2 ⟨h3, fun c d i hc hd => ?_⟩))))
      · rw [gx_i64r, gx_cl (by omega)]
        refine And.intro (gx_in (by omega) (by decide)) (nm_e (nm_r (nI_1 r) (ih _ ⟨fun x hx => ?_, fun c d i hc hd => ?_⟩)))
        · rw [gb_u, if_neg (by omega)]
          exact h3 x hx
        · unfold gq_Z
          rw [gb_u]
          by_cases e : p * 64 + c * 4 + d = p * 64 + r * 4
          · have e1 : c = r := by omega
            have e2 : d = 0 := by omega
            rw [if_pos e, gb_sg (by omega), e1, e2]
            exact ⟨fun z => ⟨by omega, rfl, hpr, z⟩, fun z => z.2.2.2⟩
          · rw [if_neg e]
            refine (h4 c d i hc hd).trans ⟨fun z => ⟨by omega, z.2⟩, fun z => ⟨?_, z.2⟩⟩
            have := z.2.1
            omega
      · refine (h4 c d i hc hd).trans ⟨fun z => ⟨by omega, z.2⟩, fun z => ⟨?_, z.2⟩⟩
        by_cases e : c = r
        · have z2 := z.2.2.1
          rw [e, hpr] at z2
          exact absurd z2 (by decide)
        · omega
  · intro f c a hc ⟨h1, h2⟩ ih
    refine br_f (nI_ge hc (by decide)) ?_
    rw [gx_i64p, gx_cl (by omega)]
    refine And.intro (gx_in (by omega) (by decide)) (nm_e (nm_r (nI_1 c) (ih _ ⟨fun x hx => ?_, fun x hx => ?_⟩)))
    · rw [gb_u, if_neg (by omega)]
      exact h1 x hx
    · rw [gb_u]
      by_cases e : x = c
      · rw [if_pos (by omega)]
      · rw [if_neg (by omega)]
        exact h2 x (by omega)
theorem gx_passSymbol {post : Int32 → SX → Prop} (H : gx_G g rs rk rl ry) {p s m : Nat} (hp : p ≤ 10) (hmp : m ≤ p) (hs : s < 8) (hmk : gm_mk g w n s m p) (S : gq_S g w n (p + 1) st) (h : ∀ x st', gq_R g w n p s m st (fun _ _ => True) (x, st') → post x (rs, wl, az, rk, rl, ry, wd, fd, fo, sg, st', re, ag, li, fw, bg, le, ls)) : wpX_passSymbol post (rs, wl, az, rk, rl, ry, wd, fd, fo, sg, st, re, ag, li, fw, bg, le, ls) (nI s) (nI m) (nI p) := by
  refine pk_loop (fun f r (u : Int32 × (Nat → Int32)) => wX_passSymbol_6 post (nI s) (nI m) (nI p) rs wl az f u.1 (nI r) rk rl ry wd fd fo sg u.2 re ag li fw bg le ls) (fun r u => gq_R g w n p s m st (fun c _ => c < r) u) 16 0 (0, st) (by omega) ⟨S, fun _ _ => rfl, fun _ _ z => z, fun _ r d i _ _ z => absurd z (by omega), Or.inl ⟨rfl, rfl, fun r d i _ _ z => absurd z (by omega)⟩⟩ ?_ ?_
  · intro f ⟨x, st1⟩ I
    refine br_t (nI_le (Nat.le_refl _) (by decide)) (And.intro (gy_nar ?_) (h x st1 (gq_Rw (fun r d hr _ _ _ => hr) I)))
    rcases I.2.2.2.2 with ⟨e, _⟩ | ⟨e, _⟩
    · exact Or.inl e
    · exact Or.inr e
  · intro f r u hr I ih
    have h3 := H.1.2.1 r
    have el := gx_Gl H hr
    refine br_f (nI_ge hr (by decide)) ?_
    refine pk_loop (fun f2 d (u : Int32 × (Nat → Int32)) => wX_passSymbol_16 post (wX_passSymbol_6 post (nI s) (nI m) (nI p) rs wl az f) (nI s) (nI m) (nI p) (nI r) rs wl az f2 u.1 (nI d) rk rl ry wd fd fo sg u.2 re ag li fw bg le ls) (fun d u => gq_R g w n p s m st (fun c e => c < r ∨ (c = r ∧ e < d)) u) (gm_l g r) 0 u (by omega) (gq_Rw (fun c e _ _ z _ => by omega) I) ?_ ?_
    · intro f2 u2 I2
      refine And.intro (gx_in hr (by decide)) (br_t (by rw [el]; exact nI_le (Nat.le_refl _) (by omega)) (nm_r (nI_1 r) (ih u2 (gq_Rw (fun c e hc he z _ => ?_) I2))))
      by_cases e1 : c = r
      · subst e1; exact Or.inr ⟨rfl, he⟩
      · exact Or.inl (by omega)
    · intro f2 d ⟨x2, st2⟩ hd I2 ih2
      refine And.intro (gx_in hr (by decide)) (br_f (by rw [el]; exact nI_ge hd (by omega)) (gx_symbolAt H hr (by omega) ?_))
      have h8 := H.1.2.2 r d
      rw [gx_i64, gx_i64, nI_1, gx_cl (n := m * 64 + r * 4 + d) (by omega)]
      refine And.intro (gx_in (by omega) (by decide)) (nm_e (nm_e (pk_eq (gm_y g r d) s (fun hy => ?_) (fun hy => nm_r (nI_1 d) (ih2 (x2, st2) (gq_Rw (fun c e hc he z hyc => ?_) I2))))))
      · rw [gx_cl (by omega)]
        obtain ⟨a1, a2⟩ := gq_Rs H.1 hp hmp hmk hr hd hy I2 (D' := fun c e => c < r ∨ (c = r ∧ e < d + 1)) (fun c e z => by omega)
        have v : vp_in (nI (p * 64 + r * 4 + d + 1)) 704 := gx_in (by omega) (by decide)
        exact And.intro v (br_c (fun y0 => nm_r (nI_1 d) (ih2 (x2, st2) (a1 y0))) (fun y0 => And.intro v (And.intro v (nm_e (nm_r (nI_1 d) (ih2 (1, _) (a2 y0)))))))
      · by_cases e1 : c = r ∧ e = d
        · rw [e1.1, e1.2] at hyc
          exact absurd hyc hy
        · omega
def gq_F (g : gm_G) (w : Nat → Nat) (n p : Nat) (st0 : Nat → Int32) (D : Nat → Nat → Prop) (u : Int32 × (Nat → Int32)) : Prop :=
  gq_S g w n (p + 1) u.2 ∧ (∀ c, c < p * 64 → u.2 c = st0 c) ∧ (∀ c i, bt (st0 c) i = true → bt (u.2 c) i = true) ∧
  ((u.1 = 0 ∧ u.2 = st0 ∧ ∀ c m, D c m → c < 16 → m ≤ p → gq_Z st0 p c (gm_l g c) m → ∀ r d i, r < 16 → d < gm_l g r → gm_y g r d = gm_k g c → gq_Z st0 m r d i → gq_Z st0 p r (d + 1) i) ∨ (u.1 = 1 ∧ gq_n st0 p < gq_n u.2 p))
theorem gq_Fw {g : gm_G} {w : Nat → Nat} {n p : Nat} {st0 : Nat → Int32} {D D' : Nat → Nat → Prop} {u : Int32 × (Nat → Int32)} (h : ∀ c m, c < 16 → m ≤ p → D' c m → D c m) (I : gq_F g w n p st0 D u) : gq_F g w n p st0 D' u :=
  ⟨I.1, I.2.1, I.2.2.1, I.2.2.2.imp (fun z => ⟨z.1, z.2.1, fun c m hD hc hm hz => z.2.2 c m (h c m hc hm hD) hc hm hz⟩) id⟩
theorem gx_passFinished {post : Int32 → SX → Prop} (H : gx_G g rs rk rl ry) {p : Nat} (hn : n ≤ 10) (hp : p ≤ n) (S : gq_S g w n (p + 1) st) (h : ∀ x st', gq_F g w n p st (fun _ _ => True) (x, st') → post x (rs, wl, az, rk, rl, ry, wd, fd, fo, sg, st', re, ag, li, fw, bg, le, ls)) : wpX_passFinished post (rs, wl, az, rk, rl, ry, wd, fd, fo, sg, st, re, ag, li, fw, bg, le, ls) (nI p) := by
  refine pk_loop (fun f r (u : Int32 × (Nat → Int32)) => wX_passFinished_4 post (nI p) f u.1 (nI r) rs wl az rk rl ry wd fd fo sg u.2 re ag li fw bg le ls) (fun r u => gq_F g w n p st (fun c _ => c < r) u) 16 0 (0, st) (by omega) ⟨S, fun _ _ => rfl, fun _ _ z => z, Or.inl ⟨rfl, rfl, fun c m z => absurd z (by omega)⟩⟩ ?_ ?_
  · intro f ⟨x, st1⟩ I
    refine br_t (nI_le (Nat.le_refl _) (by decide)) (And.intro (gy_nar ?_) (h x st1 (gq_Fw (fun c m hc _ _ => hc) I)))
    rcases I.2.2.2 with ⟨e, _⟩ | ⟨e, _⟩
    · exact Or.inl e
    · exact Or.inr e
  · intro f r u hr I ih
    have h3 := H.1.2.1 r
    have hk := H.1.1 r
    refine br_f (nI_ge hr (by decide)) (And.intro (gx_in hr (by decide)) (nm_r (e' := nI (p * 64 + r * 4 + gm_l g r)) (by rw [gx_Gl H hr, gx_i64]) ?_))
    refine pk_loop (fun f2 m (u : Int32 × (Nat → Int32)) => wX_passFinished_30 post (wX_passFinished_4 post (nI p) f) (nI p) (nI r) (nI (p * 64 + r * 4 + gm_l g r)) f2 u.1 (nI m) rs wl az rk rl ry wd fd fo sg u.2 re ag li fw bg le ls) (fun m u => gq_F g w n p st (fun c x => c < r ∨ (c = r ∧ x < m)) u) (p + 1) 0 u (by omega) (gq_Fw (fun c x _ _ z => by omega) I) ?_ ?_
    · intro f2 u2 I2
      exact br_t (nI_lt (Nat.lt_succ_self p) (by omega)) (nm_r (nI_1 r) (ih u2 (gq_Fw (fun c x _ _ z => by omega) I2)))
    · intro f2 m ⟨x2, st2⟩ hm I2 ih2
      refine br_f (nI_nlt (by omega) (by omega)) (And.intro (gx_in (by omega) (by decide)) ?_)
      rw [gx_cl (n := p * 64 + r * 4 + gm_l g r) (by omega)]
      refine gx_bit (by omega) (fun hb => And.intro (gx_in hr (by decide)) ?_) (fun hb => nm_r (nI_1 m) (ih2 (x2, st2) ⟨I2.1, I2.2.1, I2.2.2.1, I2.2.2.2.imp (fun z => ⟨z.1, z.2.1, fun c x hD hc hx hz => ?_⟩) id⟩))
      · rw [gx_Gk H hr]
        obtain ⟨S2, lo2, mo2, A2⟩ := I2
        have S2 : gq_S g w n (p + 1) st2 := S2
        have hz2 := S2 p r (gm_l g r) m (by omega) hr (by omega) hb
        refine gx_passSymbol H (by omega) (by omega) (by omega) (gm_mr hr hz2.1 hz2.2.1 hp hz2.2.2) S2 fun x3 st3 R3 => ?_
        obtain ⟨S3, lo3, mo3, _, A3⟩ := R3
        have keep1 : gq_n st p < gq_n st3 p → gq_F g w n p st (fun c x => c < r ∨ (c = r ∧ x < m + 1)) (1, st3) := fun z => ⟨S3, fun c hc => (lo3 c hc).trans (lo2 c hc), fun c i hi => mo3 c i (mo2 c i hi), Or.inr ⟨rfl, z⟩⟩
        refine br_c (fun x0 => br_c (fun y0 => nm_r (nI_1 m) (ih2 (0, st3) ?_)) (fun y0 => nm_r (nI_1 m) (ih2 (1, st3) (keep1 ?_)))) (fun x0 => nm_r (nI_1 m) (ih2 (1, st3) (keep1 ?_)))
        · rcases A3 with ⟨_, e3, C3⟩ | ⟨e3, _⟩
          · have e3 : st3 = st2 := e3
            rcases A2 with ⟨_, e2, C2⟩ | ⟨e2, _⟩
            · have e2 : st2 = st := e2
              subst e3 e2
              refine ⟨S3, fun c hc => lo3 c hc, fun c i hi => mo3 c i hi, Or.inl ⟨rfl, rfl, fun c x hD hc hx hz => ?_⟩⟩
              rcases hD with y | ⟨y1, y2⟩
              · exact C2 c x (Or.inl y) hc hx hz
              · by_cases e4 : x = m
                · subst y1 e4
                  exact fun r d i hr hd hy hz => C3 r d i hr hd trivial hy hz
                · exact C2 c x (Or.inr ⟨y1, by omega⟩) hc hx hz
            · have e2 : x2 = 1 := e2
              have x0 : x2 = 0 := x0
              rw [x0] at e2
              exact absurd e2 (by decide)
          · have e3 : x3 = 1 := e3
            rw [y0] at e3
            exact absurd e3 (by decide)
        · rcases A3 with ⟨e3, _, _⟩ | ⟨_, e3⟩
          · exact absurd e3 y0
          · have e3 : gq_n st2 p < gq_n st3 p := e3
            rcases A2 with ⟨_, e2, _⟩ | ⟨_, e2⟩
            · have e2 : st2 = st := e2
              rw [← e2]; exact e3
            · exact Nat.lt_trans e2 e3
        · rcases A2 with ⟨e2, _, _⟩ | ⟨_, e2⟩
          · exact absurd e2 x0
          · exact Nat.lt_of_lt_of_le e2 (gq_nle mo3)
      · have e2 : st2 = st := z.2.1
        rcases hD with y | ⟨y1, y2⟩
        · exact z.2.2 c x (Or.inl y) hc hx hz
        · by_cases e4 : x = m
          · subst y1 e4
            unfold gq_Z at hz
            have hb : bt (st2 (p * 64 + c * 4 + gm_l g c)) x = false := hb
            rw [← e2, hb] at hz
            exact absurd hz (by decide)
          · exact z.2.2 c x (Or.inr ⟨y1, by omega⟩) hc hx hz
end xstarts

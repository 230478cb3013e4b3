/-! first -/
theorem gf_step {g : gm_G} {a c s r : Nat} (h : c % 16 = r) : gf_s g a (c + 1) s ↔ gf_s g a c s ∨ (s = gm_k g r ∧ gf_on g r ∧ gf_h g (gf_s g a c) r (gm_l g r)) := by
  subst h
  exact Iff.rfl
theorem gf_let {g : gm_G} (G : gm_ok g) {a s : Nat} (hs : 5 ≤ s) : ∀ c, gf_s g a c s ↔ s = 5 + a
  | 0 => Iff.rfl
  | c + 1 => by
    rw [gf_step rfl, gf_let G hs c]
    refine ⟨fun z => z.resolve_right fun y => ?_, Or.inl⟩
    have := G.1 (c % 16)
    omega
theorem gf_hs {g : gm_G} {S : Nat → Prop} {r d : Nat} (hd : ∀ e, e < d → gn_e g (gm_y g r e)) : gf_h g S r (d + 1) ↔ gf_h g S r d ∨ S (gm_y g r d) := by
  constructor
  · intro ⟨x, h1, h2, h3⟩
    by_cases e : x = d
    · rw [e] at h3; exact Or.inr h3
    · exact Or.inl ⟨x, by omega, h2, h3⟩
  · intro z
    rcases z with ⟨x, h1, h2, h3⟩ | z
    · exact ⟨x, by omega, h2, h3⟩
    · exact ⟨d, by omega, hd, z⟩
theorem gf_hn {g : gm_G} {S : Nat → Prop} {r d : Nat} (hd : ¬ ∀ e, e < d → gn_e g (gm_y g r e)) : gf_h g S r (d + 1) ↔ gf_h g S r d := by
  constructor
  · intro ⟨x, h1, h2, h3⟩
    by_cases e : x = d
    · rw [e] at h2; exact absurd h2 hd
    · exact ⟨x, by omega, h2, h3⟩
  · intro ⟨x, h1, h2, h3⟩
    exact ⟨x, by omega, h2, h3⟩
theorem gf_hstop {g : gm_G} {S : Nat → Prop} {r d : Nat} (hd : ¬ gn_e g (gm_y g r d)) : ∀ n, d + 1 ≤ n → (gf_h g S r n ↔ gf_h g S r (d + 1))
  | 0, h => absurd h (by omega)
  | n + 1, h => by
    by_cases e : d = n
    · rw [e]
    · rw [gf_hn (d := n) fun z => hd (z d (by omega)), gf_hstop hd n (by omega)]
theorem gf_ab {g : gm_G} {e : Int32} (E : gx_E g 1 e) {s : Nat} (hs : s < 8) : bt (e ||| 224) s = true ↔ gf_able g s := by
  rw [gb_or, E s, gb_224 s (by omega)]
  unfold gf_able
  constructor
  · intro z
    rcases z with z | z
    · exact Or.inr z.2
    · exact Or.inl (of_decide_eq_true z).1
  · intro z
    rcases z with z | z
    · exact Or.inr (decide_eq_true ⟨z, hs⟩)
    · by_cases h : s < 5
      · exact Or.inl ⟨h, z⟩
      · exact Or.inr (decide_eq_true ⟨by omega, hs⟩)
def gf_B (g : gm_G) (c : Nat) (bg : Nat → Int32) : Prop := ∀ s, s < 8 → ∀ a, bt (bg s) a = true ↔ a < 3 ∧ gf_s g a c s
section xfirst
variable {rs wl az : Int32} {rk rl ry wd fd fo sg st re ag li fw bg le ls : Nat → Int32} {g : gm_G}
theorem gx_beginsOfRule {post : Int32 → Prop} (H : gx_G g rs rk rl ry) {c r : Nat} (hr : r < 16) (B : gf_B g c bg) {e : Int32} (E : gx_E g 100000 e) (h : ∀ x, (∀ a, bt x a = true ↔ a < 3 ∧ gf_h g (gf_s g a c) r (gm_l g r)) → post x) : wpX_beginsOfRule post (rs, wl, az, rk, rl, ry, wd, fd, fo, sg, st, re, ag, li, fw, bg, le, ls) (nI r) e := by
  have hbe : ∀ s, bt e s = true ↔ gn_e g s := E
  have h3 := H.1.2.1 r
  have el := gx_Gl H hr
  refine pk_loop (fun f d (x : Int32) => wX_beginsOfRule_5 post (nI r) e rs wl az rk rl ry wd fd fo sg st re ag li fw bg le ls f x (nI d)) (fun d x => (∀ y, y < d → gn_e g (gm_y g r y)) ∧ ∀ a, bt x a = true ↔ a < 3 ∧ gf_h g (gf_s g a c) r d) (gm_l g r) 0 0 (by omega) ⟨lt_0, fun a => by rw [b_0]; exact ⟨fun z => absurd z (by decide), fun ⟨_, d, z, _⟩ => absurd z (by omega)⟩⟩ ?_ ?_
  · intro f x ⟨_, hI⟩
    exact And.intro (gx_in hr (by decide)) (br_t (by rw [el]; exact nI_le (Nat.le_refl _) (by omega)) (h x hI))
  · intro f d x hd ⟨hN, hI⟩ ih
    have h8 := H.1.2.2 r d
    have key : ∀ a, bt (x ||| bg (gm_y g r d)) a = true ↔ a < 3 ∧ gf_h g (gf_s g a c) r (d + 1) := fun a => by
      rw [gb_or, hI a, B _ h8 a, gf_hs hN]
      exact ⟨fun z => z.elim (fun y => ⟨y.1, Or.inl y.2⟩) (fun y => ⟨y.1, Or.inr y.2⟩), fun z => z.2.elim (fun y => Or.inl ⟨z.1, y⟩) (fun y => Or.inr ⟨z.1, y⟩)⟩
    refine And.intro (gx_in hr (by decide)) (br_f (by rw [el]; exact nI_ge hd (by omega)) (gx_symbolAt H hr (by omega) (And.intro (gx_in h8 (by decide)) (nm_r (e' := x ||| bg (gm_y g r d)) (by rw [gx_cl (by omega)]) (gx_bit (by omega) (fun hb => nm_r (nI_1 d) (ih _ ⟨lt_s hN ((hbe _).mp hb), key⟩)) (fun hb => h _ fun a => ?_))))))
    rw [key a, gf_hstop (fun z => by rw [(hbe _).mpr z] at hb; exact absurd hb (by decide)) (gm_l g r) (by omega)]
theorem gx_first30 {post : Int32 → SX → Prop} (H : gx_G g rs rk rl ry) {e1 e2 : Int32} (E1 : gx_E g 100000 e1) (E2 : gx_E g 1 e2) {k : Nat} (hk : k < 5) (h : ∀ x bg', (∀ a, bt x a = true ↔ a < 3 ∧ gf_s g a 80 k) → post x (rs, wl, az, rk, rl, ry, wd, fd, fo, sg, st, re, ag, li, fw, bg', le, ls)) : ∃ f, wX_first_30 post (nI k) e1 (e2 ||| 224) rs wl az f 0 rk rl ry wd fd fo sg st re ag li fw bg le ls := by
  refine pk_loop (fun f s (b : Nat → Int32) => wX_first_30 post (nI k) e1 (e2 ||| 224) rs wl az f (nI s) rk rl ry wd fd fo sg st re ag li fw b le ls) (fun s b => ∀ x, x < s → ∀ a, bt (b x) a = true ↔ a < 3 ∧ x = 5 + a) 8 0 bg (by omega) lt_0 ?_ ?_
  · intro f b hb
    refine br_t (nI_le (Nat.le_refl _) (by decide)) ?_
    refine pk_loop (fun f t (b : Nat → Int32) => wX_first_69 post (nI k) e1 (e2 ||| 224) rs wl az f (nI t) rk rl ry wd fd fo sg st re ag li fw b le ls) (fun t b => gf_B g (16 * t) b) 5 0 b (by omega) hb ?_ ?_
    · intro f2 b2 hI
      refine br_t (nI_le (Nat.le_refl _) (by decide)) (And.intro (gx_in (by omega) (by decide)) ?_)
      rw [gx_cl (by omega)]
      exact h (b2 k) b2 (hI k (by omega))
    · intro f2 t b2 ht hI ih
      refine br_f (nI_ge ht (by decide)) ?_
      refine pk_loop (fun f3 r (b : Nat → Int32) => wX_first_78 post (wX_first_69 post (nI k) e1 (e2 ||| 224) rs wl az f2) (nI k) e1 (e2 ||| 224) (nI t) rs wl az f3 (nI r) rk rl ry wd fd fo sg st re ag li fw b le ls) (fun r b => gf_B g (16 * t + r) b) 16 0 b2 (by omega) hI ?_ ?_
      · intro f3 b3 hI3
        exact br_t (nI_le (Nat.le_refl _) (by decide)) (nm_r (nI_1 t) (ih b3 (by rw [Nat.mul_succ]; exact hI3)))
      · intro f3 r b3 hr hI3 ih3
        have hm : (16 * t + r) % 16 = r := by omega
        have hkr := H.1.1 r
        have ek := gx_Gk H hr
        have vk : vp_in (nI (gm_k g r)) 8 := gx_in (by omega) (by decide)
        have skip : ¬ gf_on g r → gf_B g (16 * t + (r + 1)) b3 := fun hno s hs a => by
          rw [hI3 s hs a, ← Nat.add_assoc, gf_step hm]
          exact ⟨fun z => ⟨z.1, Or.inl z.2⟩, fun z => ⟨z.1, z.2.resolve_right fun y => hno y.2.1⟩⟩
        refine br_f (nI_ge hr (by decide)) (gx_hasRule H hr (fun hp => br_f gx_10 (gx_isWithin H hr (fun hw => br_f gx_10 (And.intro (gx_in hr (by decide)) ?_)) (fun hw => br_t rfl (nm_r (nI_1 r) (ih3 b3 (skip fun z => hw fun d hd => (gf_ab E2 (H.1.2.2 r d)).mpr (z.2 d hd))))))) (fun hp => br_t rfl (nm_r (nI_1 r) (ih3 b3 (skip fun z => by rw [z.1] at hp; exact absurd hp (by decide))))))
        have on : gf_on g r := ⟨hp, fun d hd => (gf_ab E2 (H.1.2.2 r d)).mp (hw d hd)⟩
        rw [ek, gx_cl (n := gm_k g r) (by omega)]
        refine And.intro vk (gx_beginsOfRule H hr hI3 E1 fun x hx => And.intro vk (nm_e (nm_r (nI_1 r) (ih3 _ fun s hs a => ?_))))
        rw [gb_u, ← Nat.add_assoc, gf_step hm]
        by_cases e : s = gm_k g r
        · rw [if_pos e, gb_or, e, hI3 _ (by omega) a, hx a]
          exact ⟨fun z => z.elim (fun y => ⟨y.1, Or.inl y.2⟩) (fun y => ⟨y.1, Or.inr ⟨rfl, on, y.2⟩⟩), fun z => z.2.elim (fun y => Or.inl ⟨z.1, y⟩) (fun y => Or.inr ⟨z.1, y.2.2⟩)⟩
        · rw [if_neg e, hI3 s hs a]
          exact ⟨fun z => ⟨z.1, Or.inl z.2⟩, fun z => ⟨z.1, z.2.resolve_right fun y => e y.1⟩⟩
  · intro f s b hs hb ih
    have v8 : vp_in (nI s) 8 := gx_in hs (by decide)
    refine br_f (nI_ge hs (by decide)) (pk_le 5 s (fun h5 => And.intro v8 (nm_r (e' := upd b s ((1 : Int32) <<< (nI (s - 5) &&& 31))) (by rw [gx_cl (by omega), gy_sub5 h5]) (nm_r (nI_1 s) (ih _ fun x hx a => ?_)))) (fun h5 => And.intro v8 (nm_r (e' := upd b s 0) (by rw [gx_cl (by omega)]) (nm_r (nI_1 s) (ih _ fun x hx a => ?_)))))
    · rw [gb_u]
      by_cases e : x = s
      · rw [if_pos e, gb_sg (by omega)]
        omega
      · rw [if_neg e]; exact hb x (by omega) a
    · rw [gb_u]
      by_cases e : x = s
      · rw [if_pos e, b_0]
        exact ⟨fun z => absurd z (by decide), fun z => by omega⟩
      · rw [if_neg e]; exact hb x (by omega) a
end xfirst
/-! the reference's: bit 3 k + a of a number -/
def gf_Y (g : gm_G) (c : Nat) (x : Int32) : Prop := ∀ k a, k < 5 → a < 3 → (bt x (3 * k + a) = true ↔ gf_s g a c k)
theorem gb_7 : ∀ i, i < 32 → bt 7 i = decide (i < 3) := by decide +kernel
theorem gf_cut {x : Int32} {k : Nat} (hk : k < 5) (a : Nat) : bt ((x >>> ((3 * nI k) &&& 31)) &&& 7) a = true ↔ a < 3 ∧ bt x (3 * k + a) = true := by
  rw [gx_mul3, gb_and]
  rcases Nat.lt_or_ge a 32 with z | z
  · rw [gb_7 a z, b_sshr (3 * k) (by omega) x z]
    constructor
    · intro ⟨h1, h2⟩
      have h3 := of_decide_eq_true h2
      rw [if_pos (by omega)] at h1
      exact ⟨h3, h1⟩
    · intro ⟨h1, h2⟩
      rw [if_pos (by omega)]
      exact ⟨h2, decide_eq_true h1⟩
  · rw [b_big z, b_big z]
    exact ⟨fun y => absurd y.1 (by decide), fun y => absurd y.1 (by omega)⟩
section yfirst
variable {sz mn gr : Int32} {th kd lg pt wd ls md le : Nat → Int32} {g : gm_G}
theorem gy_heads {post : Int32 → Prop} (H : gy_G g th kd lg pt) {c r : Nat} (hr : r < 16) {e x : Int32} (E : gx_E g 100000 e) (F : gf_Y g c x) (h : ∀ y, (∀ a, bt y a = true ↔ a < 3 ∧ gf_h g (gf_s g a c) r (gm_l g r)) → post y) : wpY_heads post (sz, mn, gr, th, kd, lg, pt, wd, ls, md, le) (nI r) e x := by
  have hbe : ∀ s, bt e s = true ↔ gn_e g s := E
  have h3 := H.1.2.1 r
  have el : lg (nI r).toNatClampNeg = nI (gm_l g r) := by rw [gx_cl (by omega)]; exact H.2.2.2.1 r
  refine pk_loop (fun f d (u : Int32 × Int32) => wY_heads_9 post (nI r) e x sz mn gr th kd lg pt wd ls md le f u.1 u.2 (nI d)) (fun d u => ((u.2 = 1 ∧ ∀ y, y < d → gn_e g (gm_y g r y)) ∨ (u.2 = 0 ∧ ¬ ∀ y, y < d → gn_e g (gm_y g r y))) ∧ ∀ a, bt u.1 a = true ↔ a < 3 ∧ gf_h g (gf_s g a c) r d) (gm_l g r) 0 (0, 1) (by omega) ⟨Or.inl ⟨rfl, lt_0⟩, fun a => by show bt 0 a = true ↔ _; rw [b_0]; exact ⟨fun z => absurd z (by decide), fun ⟨_, d, z, _⟩ => absurd z (by omega)⟩⟩ ?_ ?_
  · intro f u ⟨_, hI⟩
    exact And.intro (gx_in hr (by decide)) (br_t (by rw [el]; exact nI_le (Nat.le_refl _) (by omega)) (h u.1 hI))
  · intro f d u hd ⟨hM, hI⟩ ih
    obtain ⟨y, m⟩ := u
    have h8 := H.1.2.2 r d
    have hI : ∀ a, bt y a = true ↔ a < 3 ∧ gf_h g (gf_s g a c) r d := hI
    refine And.intro (gx_in hr (by decide)) (br_f (by rw [el]; exact nI_ge hd (by omega)) (gy_symbol H hr (by omega) ?_))
    have main : ∀ hd2 : Int32, (∀ a, bt hd2 a = true ↔ a < 3 ∧ gf_s g a c (gm_y g r d)) → wY_heads_53 post (wY_heads_9 post (nI r) e x sz mn gr th kd lg pt wd ls md le f) (nI r) e x y m (nI d) (nI (gm_y g r d)) hd2 sz mn gr th kd lg pt wd ls md le := by
      intro hd2 hh
      rcases hM with ⟨e1, hN⟩ | ⟨e1, hN⟩
      · have e1 : m = 1 := e1
        subst e1
        have key : ∀ a, bt (y ||| hd2) a = true ↔ a < 3 ∧ gf_h g (gf_s g a c) r (d + 1) := fun a => by
          rw [gb_or, hI a, hh a, gf_hs hN]
          exact ⟨fun z => z.elim (fun q => ⟨q.1, Or.inl q.2⟩) (fun q => ⟨q.1, Or.inr q.2⟩), fun z => z.2.elim (fun q => Or.inl ⟨z.1, q⟩) (fun q => Or.inr ⟨z.1, q⟩)⟩
        refine br_f gx_10 (br_f gx_10 (pk_le 5 (gm_y g r d) (fun h5 => nm_r (nI_1 d) (ih (y ||| hd2, 0) ⟨Or.inr ⟨rfl, fun z => absurd (z d (by omega)).1 (by omega)⟩, key⟩)) (fun h5 => gx_one (by omega) (fun hb => nm_r (nI_1 d) (ih (y ||| hd2, 1) ⟨Or.inl ⟨rfl, lt_s hN ((hbe _).mp hb)⟩, key⟩)) (fun hb => nm_r (nI_1 d) (ih (y ||| hd2, 0) ⟨Or.inr ⟨rfl, fun z => ?_⟩, key⟩)))))
        have z2 := (hbe _).mpr (z d (by omega))
        rw [hb] at z2
        exact absurd z2 (by decide)
      · have e1 : m = 0 := e1
        subst e1
        refine br_t rfl (br_t rfl (nm_r (nI_1 d) (ih (y, 0) ⟨Or.inr ⟨rfl, fun z => hN fun q hq => z q (by omega)⟩, fun a => ?_⟩)))
        show bt y a = true ↔ _
        rw [hI a, gf_hn hN]
    refine pk_le 5 (gm_y g r d) (fun h5 => main _ fun a => ?_) (fun h5 => main _ fun a => ?_)
    · rw [gy_sub5 h5, gb_sg (by omega), gf_let H.1 h5 c]
      omega
    · rw [gf_cut h5 a]
      exact ⟨fun z => ⟨z.1, (F _ a h5 z.1).mp z.2⟩, fun z => ⟨z.1, (F _ a h5 z.1).mpr z.2⟩⟩
theorem gy_first30 {post : Int32 → SY → Prop} (H : gy_G g th kd lg pt) {e1 e2 : Int32} (E1 : gx_E g 100000 e1) (E2 : gx_E g 1 e2) {k : Nat} (hk : k < 5) (h : ∀ x, (∀ a, bt x a = true ↔ a < 3 ∧ gf_s g a 320 k) → post x (sz, mn, gr, th, kd, lg, pt, wd, ls, md, le)) : ∃ f, wY_first_30 post (nI k) (e2 ||| 224) e1 sz mn gr th kd lg pt wd ls md le f 0 0 := by
  refine pk_loop (fun f c (x : Int32) => wY_first_30 post (nI k) (e2 ||| 224) e1 sz mn gr th kd lg pt wd ls md le f x (nI c)) (fun c x => gf_Y g c x) 320 0 0 (by omega) (fun s a hs ha => by rw [b_0]; exact ⟨fun z => absurd z (by decide), fun z => absurd (show s = 5 + a from z) (by omega)⟩) ?_ ?_
  · intro f x F
    refine br_t (nI_le (Nat.le_refl _) (by decide)) (h _ fun a => ?_)
    rw [gf_cut hk a]
    exact ⟨fun z => ⟨z.1, (F k a hk z.1).mp z.2⟩, fun z => ⟨z.1, (F k a hk z.1).mpr z.2⟩⟩
  · intro f c x hc F ih
    have hr : c % 16 < 16 := Nat.mod_lt _ (by decide)
    have hkr := H.1.1 (c % 16)
    have h3 := H.1.2.1 (c % 16)
    have vr : vp_in (nI (c % 16)) 16 := gx_in hr (by decide)
    have er : (nI (c % 16)).toNatClampNeg = c % 16 := gx_cl (by omega)
    have el : lg (nI (c % 16)).toNatClampNeg = nI (gm_l g (c % 16)) := by rw [er]; exact H.2.2.2.1 _
    have skip : ¬ gf_on g (c % 16) → gf_Y g (c + 1) x := fun hno s a hs ha => by
      rw [F s a hs ha, gf_step rfl]
      exact ⟨Or.inl, fun z => z.resolve_right fun y => hno y.2.1⟩
    refine br_f (nI_ge hc (by decide)) (And.intro (by decide) (nm_r (pk_rem (d := 16) (by omega) (by decide) (by decide)) (And.intro vr (nm_e ?_))))
    refine pk_loop (fun f2 d (m : Int32) => wY_first_57 post (wY_first_30 post (nI k) (e2 ||| 224) e1 sz mn gr th kd lg pt wd ls md le f) (nI k) (e2 ||| 224) e1 x (nI c) (nI (c % 16)) sz mn gr th kd lg pt wd ls md le f2 m (nI d)) (fun d m => (m = 1 ∧ gm_p g (c % 16) = true ∧ ∀ y, y < d → gf_able g (gm_y g (c % 16) y)) ∨ (m = 0 ∧ ¬ (gm_p g (c % 16) = true ∧ ∀ y, y < d → gf_able g (gm_y g (c % 16) y)))) (gm_l g (c % 16)) 0 _ (by omega) ?_ ?_ ?_
    · rw [er, H.2.1 _ hr]
      by_cases hp : gm_p g (c % 16) = true
      · rw [if_pos hp]
        exact Or.inl ⟨rfl, hp, lt_0⟩
      · rw [if_neg hp]
        exact Or.inr ⟨rfl, fun z => hp z.1⟩
    · intro f2 m hM
      refine And.intro vr (br_t (by rw [el]; exact nI_le (Nat.le_refl _) (by omega)) ?_)
      rcases hM with ⟨rfl, hp, hA⟩ | ⟨rfl, hno⟩
      · refine br_f gx_10 (gy_heads H hr E1 F fun y hy => And.intro vr (nm_r (e' := x ||| (y <<< (nI (3 * gm_k g (c % 16)) &&& 31))) (by rw [er, H.2.2.1, gx_mul3]) (nm_r (nI_1 c) (ih _ fun s a hs ha => ?_))))
        rw [gb_or, F s a hs ha, gf_step rfl, b_shl (3 * gm_k g (c % 16)) (by omega) y (by omega), Bool.and_eq_true, hy]
        constructor
        · intro z
          rcases z with z | ⟨z1, z2, z3⟩
          · exact Or.inl z
          · have z1 := of_decide_eq_true z1
            have e1 : s = gm_k g (c % 16) := by omega
            have e2 : 3 * s + a - 3 * gm_k g (c % 16) = a := by omega
            rw [e2] at z3
            exact Or.inr ⟨e1, ⟨hp, hA⟩, z3⟩
        · intro z
          rcases z with z | ⟨z1, z2, z3⟩
          · exact Or.inl z
          · have e2 : 3 * s + a - 3 * gm_k g (c % 16) = a := by omega
            rw [e2]
            exact Or.inr ⟨decide_eq_true (by omega), ha, z3⟩
      · exact br_t rfl (nm_r (nI_1 c) (ih x (skip hno)))
    · intro f2 d m hd hM ih2
      refine And.intro vr (br_f (by rw [el]; exact nI_ge hd (by omega)) ?_)
      rcases hM with ⟨rfl, hp, hA⟩ | ⟨rfl, hno⟩
      · have h8 := H.1.2.2 (c % 16) d
        refine br_f gx_10 (gy_symbol H hr (by omega) (gx_one (by omega) (fun hb => nm_r (nI_1 d) (ih2 1 (Or.inl ⟨rfl, hp, lt_s hA ((gf_ab E2 h8).mp hb)⟩))) (fun hb => nm_r (nI_1 d) (ih2 0 (Or.inr ⟨rfl, fun z => ?_⟩)))))
        have z2 := (gf_ab E2 h8).mpr (z.2 d (by omega))
        rw [hb] at z2
        exact absurd z2 (by decide)
      · exact br_t rfl (nm_r (nI_1 d) (ih2 0 (Or.inr ⟨rfl, fun z => hno ⟨z.1, fun q hq => z.2 q (by omega)⟩⟩)))
end yfirst
theorem i_vc_first {k : Nat} {u : SX} {v : SY} (I : i_Rel k u v) (hk : k + 5 ≤ 2560) (v1 : Int32) : wpX_first (fun r u' => wpY_first (fun r' v' => r' = r ∧ i_Rel (k + 5) u' v') v v1) u v1 := by
  obtain ⟨rs, wl, az, rk, rl, ry, wd, fd, fo, sg, st, re, ag, li, fw, bg, le, ls⟩ := u
  obtain ⟨sz, mn, gr, th, kd, lg, pt, wy, lsy, md, ley⟩ := v
  obtain ⟨rfl, rfl, rfl, rfl, rfl, I⟩ := I
  obtain ⟨g, w, n, HX, HY, hw, hw3, hn, e, _⟩ := gx_data I
  unfold wpX_first wpY_first
  by_cases h1 : v1 < 0 ∨ nI 5 ≤ v1
  · exact gx_kind0 h1 (br_t rfl (gy_kind0 h1 (br_t rfl ⟨rfl, rfl, rfl, rfl, rfl, rfl, I⟩)))
  · obtain ⟨a, ha, rfl⟩ : ∃ c, c < 5 ∧ v1 = nI c := by
      rcases pk_ix v1 (n := 5) (by decide) with z | z | z
      · exact absurd (Or.inl z) h1
      · exact absurd (Or.inr z) h1
      · exact z
    refine gx_kind1 ha (br_f gx_10 (gx_kmf HX gx_gv0 fun x1 E1 => gx_kmf HX gx_gv1 fun x2 E2 => nm_e (gx_first30 HX E1 E2 ha fun x bg' hx => ?_)))
    refine gy_kind1 ha (br_f gx_10 (gy_able HY fun y2 le' F2 => nm_e (gy_empty HY fun y1 md' F1 => gy_first30 HY F1 F2 ha fun y hy => ⟨?_, rfl, rfl, rfl, rfl, rfl, I⟩)))
    exact b_ext fun i _ => Bool.eq_iff_iff.mpr ((hy i).trans ⟨fun z => (hx i).mpr ⟨z.1, (gf_320 HX.1 i a).mp z.2⟩, fun z => ⟨((hx i).mp z).1, (gf_320 HX.1 i a).mpr ((hx i).mp z).2⟩⟩)

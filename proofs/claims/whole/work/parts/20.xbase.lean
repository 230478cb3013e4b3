/-! X: rules, symbols, what rules build up, singles -/
theorem gx_kind1 {post : Int32 → Prop} {k : Nat} (hk : k < 5) (h : post 1) : wpX_isKind post (nI k) := br_f (nI_pos (by omega)) (br_f (nI_ge hk (by decide)) h)
theorem gx_kind0 {post : Int32 → Prop} {x : Int32} (hx : x < 0 ∨ nI 5 ≤ x) (h : post 0) : wpX_isKind post x := br_c (fun _ => h) (fun hn => br_c (fun _ => h) (fun h5 => absurd (hx.resolve_left hn) h5))
theorem gx_eng1 {post : Int32 → Prop} {k : Nat} (hk : k < 5) (h : post 1) : wpX_isEngine post (nI k) := br_f (nI_pos (by omega)) (br_f (nI_ge hk (by decide)) h)
theorem gx_eng0 {post : Int32 → Prop} {x : Int32} (hx : x < 0 ∨ nI 5 ≤ x) (h : post 0) : wpX_isEngine post x := br_c (fun _ => h) (fun hn => br_c (fun _ => h) (fun h5 => absurd (hx.resolve_left hn) h5))
section xbase
variable {rs wl az : Int32} {rk rl ry wd fd fo sg st re ag li fw bg le ls : Nat → Int32} {g : gm_G}
theorem gx_hasRule {post : Int32 → Prop} (H : gx_G g rs rk rl ry) {r : Nat} (hr : r < 16) (h1 : gm_p g r = true → post 1) (h0 : gm_p g r = false → post 0) : wpX_hasRule post (rs, wl, az, rk, rl, ry, wd, fd, fo, sg, st, re, ag, li, fw, bg, le, ls) (nI r) := by
  have e := H.2.1 r hr
  cases hb : gm_p g r with
  | true => exact br_f (fun z => by rw [gb_tst rs (by omega), e, hb] at z; exact absurd z (by decide)) (h1 hb)
  | false => exact br_t ((gb_tst rs (by omega)).mpr (e.trans hb)) (h0 hb)
theorem gx_symbolAt {post : Int32 → Prop} (H : gx_G g rs rk rl ry) {r d : Nat} (hr : r < 16) (hd : d ≤ 3) (h : post (nI (gm_y g r d))) : wpX_symbolAt post (rs, wl, az, rk, rl, ry, wd, fd, fo, sg, st, re, ag, li, fw, bg, le, ls) (nI r) (nI d) := by
  refine And.intro (gx_in hr (by decide)) ?_
  rw [gx_cl (by omega), H.2.2.2.2 r d hd]
  exact h
theorem gx_bit {x : Int32} {s : Nat} {A B : Prop} (hs : s < 32) (h1 : bt x s = true → B) (h0 : bt x s = false → A) : (((x >>> (nI s &&& 31)) &&& 1) = 0 → A) ∧ (¬ ((x >>> (nI s &&& 31)) &&& 1) = 0 → B) := by
  rw [gb_tst x hs]
  exact ⟨h0, fun z => h1 (ts_nf z)⟩
theorem gx_isWithin {post : Int32 → Prop} (H : gx_G g rs rk rl ry) {r : Nat} (hr : r < 16) {x : Int32} (h1 : (∀ d, d < gm_l g r → bt x (gm_y g r d) = true) → post 1) (h0 : (¬ ∀ d, d < gm_l g r → bt x (gm_y g r d) = true) → post 0) : wpX_isWithin post (rs, wl, az, rk, rl, ry, wd, fd, fo, sg, st, re, ag, li, fw, bg, le, ls) (nI r) x := by
  have h3 := H.1.2.1 r
  have el := gx_Gl H hr
  refine pk_loop (fun f d (_ : Unit) => wX_isWithin_2 post (nI r) x rs wl az rk rl ry wd fd fo sg st re ag li fw bg le ls f (nI d)) (fun d _ => ∀ e, e < d → bt x (gm_y g r e) = true) (gm_l g r) 0 () (by omega) lt_0 ?_ ?_
  · intro f s hI
    exact And.intro (gx_in hr (by decide)) (br_t (by rw [el]; exact nI_le (Nat.le_refl _) (by omega)) (h1 hI))
  · intro f d s hd hI ih
    have h8 := H.1.2.2 r d
    refine And.intro (gx_in hr (by decide)) (br_f (by rw [el]; exact nI_ge hd (by omega)) (gx_symbolAt H hr (by omega) (gx_bit (by omega) (fun hb => nm_r (nI_1 d) (ih () (lt_s hI hb))) (fun hb => h0 fun z => ?_))))
    rw [z d hd] at hb
    exact absurd hb (by decide)
theorem gx_others {post : Int32 → Prop} (H : gx_G g rs rk rl ry) {r d : Nat} (hr : r < 16) (hd3 : d ≤ 3) {x : Int32} (h1 : (∀ e, e < gm_l g r → e ≠ d → bt x (gm_y g r e) = true) → post 1) (h0 : (¬ ∀ e, e < gm_l g r → e ≠ d → bt x (gm_y g r e) = true) → post 0) : wpX_othersAreWithin post (rs, wl, az, rk, rl, ry, wd, fd, fo, sg, st, re, ag, li, fw, bg, le, ls) (nI r) (nI d) x := by
  have h3 := H.1.2.1 r
  have el := gx_Gl H hr
  refine pk_loop (fun f e (_ : Unit) => wX_othersAreWithin_3 post (nI r) (nI d) x rs wl az rk rl ry wd fd fo sg st re ag li fw bg le ls f (nI e)) (fun e _ => ∀ c, c < e → c ≠ d → bt x (gm_y g r c) = true) (gm_l g r) 0 () (by omega) lt_0 ?_ ?_
  · intro f s hI
    exact And.intro (gx_in hr (by decide)) (br_t (by rw [el]; exact nI_le (Nat.le_refl _) (by omega)) (h1 hI))
  · intro f e s he hI ih
    have h8 := H.1.2.2 r e
    refine And.intro (gx_in hr (by decide)) (br_f (by rw [el]; exact nI_ge he (by omega)) (gx_symbolAt H hr (by omega) (pk_eq e d (fun ed => nm_r (nI_1 e) (ih () (lt_s hI fun z => absurd ed z))) (fun ed => gx_bit (by omega) (fun hb => nm_r (nI_1 e) (ih () (lt_s hI fun _ => hb))) (fun hb => h0 fun z => ?_)))))
    rw [z e he ed] at hb
    exact absurd hb (by decide)
/-- what is known after c steps of kindsMadeFrom -/
def gx_K (g : gm_G) (lw : Nat) (given : Int32) (c : Nat) (x : Int32) : Prop := ∀ s, bt x s = true ↔ (if s < 5 then gw_i g lw c s < 100000 else bt given s = true)
def gx_gv (lw : Nat) (given : Int32) : Prop := (lw = 1 ∨ lw = 100000) ∧ (∀ s, s < 5 → bt given s = false) ∧ ∀ s, 5 ≤ s → s < 8 → (bt given s = true ↔ lw < 100000)
theorem gx_gv0 : gx_gv 100000 0 := ⟨Or.inr rfl, fun s _ => b_0 s, fun s _ _ => by rw [b_0]; exact ⟨fun z => absurd z (by decide), fun z => absurd z (by omega)⟩⟩
theorem gx_gv1 : gx_gv 1 224 := ⟨Or.inl rfl, fun s hs => by rw [gb_224 s (by omega)]; exact decide_eq_false (by omega), fun s h5 h8 => by rw [gb_224 s (by omega)]; exact ⟨fun _ => by omega, fun _ => decide_eq_true ⟨h5, h8⟩⟩⟩
theorem gx_Kv {lw c s : Nat} {given x : Int32} (V : gx_gv lw given) (K : gx_K g lw given c x) (hs : s < 8) : bt x s = true ↔ gw_v lw (gw_i g lw c) s < 100000 := by
  rw [K s]
  unfold gw_v
  by_cases h : s < 5
  · rw [if_pos h, if_pos h]
  · rw [if_neg h, if_neg h]
    exact V.2.2 s (by omega) hs
theorem gx_Ks {lw c r : Nat} {given x : Int32} (G : gm_ok g) (V : gx_gv lw given) (K : gx_K g lw given c x) (hc : c % 16 = r) :
    (gm_p g r = true → (∀ d, d < gm_l g r → bt x (gm_y g r d) = true) → gx_K g lw given (c + 1) (x ||| ((1 : Int32) <<< (nI (gm_k g r) &&& 31)))) ∧ ((gm_p g r = false ∨ ¬ ∀ d, d < gm_l g r → bt x (gm_y g r d) = true) → gx_K g lw given (c + 1) x) := by
  have hk := G.1 r
  have fin := gw_fin G V.1 c r
  have hin : (∀ d, d < gm_l g r → bt x (gm_y g r d) = true) ↔ ∀ d, d < gm_l g r → gw_v lw (gw_i g lw c) (gm_y g r d) < 100000 :=
    ⟨fun z d hd => (gx_Kv V K (G.2.2 r d)).mp (z d hd), fun z d hd => (gx_Kv V K (G.2.2 r d)).mpr (z d hd)⟩
  constructor
  · intro hp hw s
    have hf := fin.mpr ⟨hp, hin.mp hw⟩
    rw [gb_add x (by omega), K s, gw_step, hc]
    by_cases h : s < 5
    · rw [if_pos h, if_pos h]
      by_cases e : s = gm_k g r
      · rw [if_pos e]
        exact ⟨fun _ => by omega, fun _ => Or.inr e⟩
      · rw [if_neg e]
        exact ⟨fun z => z.resolve_right e, Or.inl⟩
    · rw [if_neg h, if_neg h]
      exact ⟨fun z => z.resolve_right (by omega), Or.inl⟩
  · intro hn s
    have hf : ¬ gw_f g lw r (gw_i g lw c) < 100000 := fun z => by
      obtain ⟨a, b⟩ := fin.mp z
      rcases hn with y | y
      · rw [a] at y; exact absurd y (by decide)
      · exact y (hin.mpr b)
    rw [K s, gw_step, hc]
    by_cases h : s < 5
    · rw [if_pos h, if_pos h]
      by_cases e : s = gm_k g r
      · rw [if_pos e]
        omega
      · rw [if_neg e]
    · rw [if_neg h, if_neg h]
def gx_E (g : gm_G) (lw : Nat) (e : Int32) : Prop := ∀ s, bt e s = true ↔ s < 5 ∧ gw_i g lw 80 s < 100000
theorem gx_kmf {post : Int32 → Prop} (H : gx_G g rs rk rl ry) {lw : Nat} {given : Int32} (V : gx_gv lw given) (h : ∀ e, gx_E g lw e → post e) : wpX_kindsMadeFrom post (rs, wl, az, rk, rl, ry, wd, fd, fo, sg, st, re, ag, li, fw, bg, le, ls) given := by
  refine pk_loop (fun f t (x : Int32) => wX_kindsMadeFrom_4 post rs wl az rk rl ry wd fd fo sg st re ag li fw bg le ls f x (nI t)) (fun t x => gx_K g lw given (16 * t) x) 5 0 given (by omega) ?_ ?_ ?_
  · intro s
    by_cases hs : s < 5
    · rw [if_pos hs, V.2.1 s hs]
      exact ⟨fun z => absurd z (by decide), fun z => absurd z (by show ¬ (100000 : Nat) < 100000; omega)⟩
    · rw [if_neg hs]
  · intro f x K
    refine br_t (nI_le (Nat.le_refl _) (by decide)) (h _ fun s => ?_)
    rw [gb_and, K s]
    by_cases hs : s < 5
    · rw [if_pos hs, gb_31 s (by omega)]
      exact ⟨fun z => ⟨hs, z.1⟩, fun z => ⟨z.2, decide_eq_true hs⟩⟩
    · rw [if_neg hs]
      refine ⟨fun z => absurd z.2 ?_, fun z => absurd z.1 hs⟩
      rw [gb_31 s (gb_lt z.2)]
      simp [hs]
  · intro f t x ht K ih
    refine br_f (nI_ge ht (by decide)) ?_
    refine pk_loop (fun f2 r (x : Int32) => wX_kindsMadeFrom_12 post (wX_kindsMadeFrom_4 post rs wl az rk rl ry wd fd fo sg st re ag li fw bg le ls f) (nI t) rs wl az rk rl ry wd fd fo sg st re ag li fw bg le ls f2 x (nI r)) (fun r x => gx_K g lw given (16 * t + r) x) 16 0 x (by omega) K ?_ ?_
    · intro f2 x2 K2
      exact br_t (nI_le (Nat.le_refl _) (by decide)) (nm_r (nI_1 t) (ih x2 (by rw [Nat.mul_succ]; exact K2)))
    · intro f2 r x2 hr K2 ih2
      have S := gx_Ks H.1 V K2 (r := r) (by omega)
      refine br_f (nI_ge hr (by decide)) (gx_hasRule H hr (fun hp => br_f (by decide) (gx_isWithin H hr (fun hw => br_f (by decide) (And.intro (gx_in hr (by decide)) (nm_r (e' := x2 ||| ((1 : Int32) <<< (nI (gm_k g r) &&& 31))) (by rw [gx_Gk H hr]) (nm_r (nI_1 r) (ih2 _ (S.1 hp hw)))))) (fun hw => br_t rfl (nm_r (nI_1 r) (ih2 _ (S.2 (Or.inr hw))))))) (fun hp => br_t rfl (nm_r (nI_1 r) (ih2 _ (S.2 (Or.inl hp))))))
theorem gx_handUp {post : SX → Prop} (H : gx_G g rs rk rl ry) {r d : Nat} (hr : r < 16) (hd : d ≤ 3) (h : ∀ sg', (∀ s, s < 8 → ∀ k, bt (sg' s) k = true ↔ bt (sg s) k = true ∨ (k = gm_k g r ∧ bt (sg s) (gm_y g r d) = true)) → post (rs, wl, az, rk, rl, ry, wd, fd, fo, sg', st, re, ag, li, fw, bg, le, ls)) : wpX_handUp post (rs, wl, az, rk, rl, ry, wd, fd, fo, sg, st, re, ag, li, fw, bg, le, ls) (nI r) (nI d) := by
  have hk := H.1.1 r
  have hy := H.1.2.2 r d
  unfold wpX_handUp
  refine gx_symbolAt H hr hd ?_
  refine pk_loop (fun f s (a : Nat → Int32) => wX_handUp_10 post (nI r) (nI (gm_y g r d)) rs wl az f (nI s) rk rl ry wd fd fo a st re ag li fw bg le ls) (fun s a => ∀ x, x < 8 → ∀ k, bt (a x) k = true ↔ bt (sg x) k = true ∨ (x < s ∧ k = gm_k g r ∧ bt (sg x) (gm_y g r d) = true)) 8 0 sg (by omega) (fun x _ k => ⟨Or.inl, fun z => z.resolve_right fun y => absurd y.1 (by omega)⟩) ?_ ?_
  · intro f a hI
    refine br_t (nI_le (Nat.le_refl _) (by decide)) (h a fun s hs k => ?_)
    rw [hI s hs k]
    exact ⟨fun z => z.imp id fun y => y.2, fun z => z.imp id fun y => ⟨hs, y⟩⟩
  · intro f s a hs hI ih
    have hsame : ∀ k, bt (a s) k = true ↔ bt (sg s) k = true := fun k => by
      rw [hI s hs k]
      exact ⟨fun z => z.resolve_right fun y => absurd y.1 (by omega), Or.inl⟩
    refine br_f (nI_ge hs (by decide)) (And.intro (gx_in hs (by decide)) ?_)
    rw [gx_cl (by omega)]
    refine gx_bit (by omega) (fun hb => And.intro (gx_in hs (by decide)) (And.intro (gx_in hr (by decide)) (And.intro (gx_in hs (by decide)) (nm_r (e' := upd a s (a s ||| ((1 : Int32) <<< (nI (gm_k g r) &&& 31)))) (by rw [gx_Gk H hr]) (nm_r (nI_1 s) (ih _ ?_)))))) (fun hb => nm_r (nI_1 s) (ih _ ?_))
    · intro x hx k
      rw [gb_u]
      by_cases e : x = s
      · subst e
        rw [if_pos rfl, gb_add _ (by omega), hsame k]
        have hb2 := (hsame _).mp hb
        exact ⟨fun z => z.imp id fun y => ⟨Nat.lt_succ_self _, y, hb2⟩, fun z => z.imp id fun y => y.2.1⟩
      · rw [if_neg e, hI x hx k]
        exact ⟨fun z => z.imp id fun y => ⟨by omega, y.2⟩, fun z => z.imp id fun y => ⟨by omega, y.2⟩⟩
    · intro x hx k
      rw [hI x hx k]
      refine ⟨fun z => z.imp id fun y => ⟨by omega, y.2⟩, fun z => z.imp id fun y => ⟨?_, y.2⟩⟩
      by_cases e : x = s
      · subst e
        rw [← hsame, hb] at y
        exact absurd y.2.2 (by decide)
      · omega
def gx_U (g : gm_G) (c : Nat) (sg : Nat → Int32) : Prop := ∀ s, s < 8 → ∀ k, bt (sg s) k = true ↔ gs_u g s c k
theorem gx_us {c s k p : Nat} (h : c % 64 = p) : gs_u g s (c + 1) k ↔ gs_u g s c k ∨ (k = gm_k g (p / 4) ∧ gs_a g p ∧ gs_u g s c (gm_y g (p / 4) (p % 4))) := by
  subst h
  exact Iff.rfl
theorem gx_rem4 (p : Nat) (h : p < 100000) : nI p - nI p / 4 * 4 = nI (p % 4) := pk_rem (d := 4) (by omega) (by decide) (by decide)
theorem gx_div4 (p : Nat) (h : p < 100000) : nI p / 4 = nI (p / 4) := pk_div (d := 4) (by omega) (by decide) (by decide)
theorem gx_findSingles {post : SX → Prop} (H : gx_G g rs rk rl ry) {e : Int32} (E : gx_E g 100000 e) (h : ∀ sg', gx_U g 320 sg' → post (rs, wl, az, rk, rl, ry, wd, fd, fo, sg', st, re, ag, li, fw, bg, le, ls)) : wpX_findSingles post (rs, wl, az, rk, rl, ry, wd, fd, fo, sg, st, re, ag, li, fw, bg, le, ls) e := by
  have hbe : ∀ s, bt e s = true ↔ gn_e g s := E
  refine pk_loop (fun f s (a : Nat → Int32) => wX_findSingles_2 post e rs wl az f (nI s) rk rl ry wd fd fo a st re ag li fw bg le ls) (fun s a => ∀ x, x < s → ∀ k, bt (a x) k = true ↔ k = x) 8 0 sg (by omega) lt_0 ?_ ?_
  · intro f a hI
    refine br_t (nI_le (Nat.le_refl _) (by decide)) ?_
    refine pk_loop (fun f t (a : Nat → Int32) => wX_findSingles_25 post e f (nI t) rs wl az rk rl ry wd fd fo a st re ag li fw bg le ls) (fun t a => gx_U g (64 * t) a) 5 0 a (by omega) hI ?_ ?_
    · intro f2 a2 U
      exact br_t (nI_le (Nat.le_refl _) (by decide)) (h a2 U)
    · intro f2 t a2 ht U ih
      refine br_f (nI_ge ht (by decide)) ?_
      refine pk_loop (fun f3 p (a : Nat → Int32) => wX_findSingles_32 post (wX_findSingles_25 post e f2) e (nI t) f3 (nI p) rs wl az rk rl ry wd fd fo a st re ag li fw bg le ls) (fun p a => gx_U g (64 * t + p) a) 64 0 a2 (by omega) U ?_ ?_
      · intro f3 a3 U3
        exact br_t (nI_le (Nat.le_refl _) (by decide)) (nm_r (nI_1 t) (ih a3 (by rw [Nat.mul_succ]; exact U3)))
      · intro f3 p a3 hp U3 ih3
        have hr : p / 4 < 16 := by omega
        have hm : (64 * t + p) % 64 = p := by omega
        have hno : ¬ gs_a g p → gx_U g (64 * t + p + 1) a3 := fun hn s hs k => by
          rw [U3 s hs k, gx_us hm]
          exact ⟨Or.inl, fun z => z.resolve_right fun y => hn y.2.1⟩
        refine br_f (nI_ge hp (by decide)) (And.intro (by decide) (nm_r (gx_div4 p (by omega)) (And.intro (by decide) (nm_r (gx_rem4 p (by omega)) (gx_hasRule H hr (fun hpr => br_f (by decide) (And.intro (gx_in hr (by decide)) ?_)) (fun hpr => br_t rfl (nm_r (nI_1 p) (ih3 a3 (hno fun z => ?_)))))))))
        · rw [gx_Gl H hr]
          have h3 := H.1.2.1 (p / 4)
          refine pk_le (gm_l g (p / 4)) (p % 4) (fun hl => nm_r (nI_1 p) (ih3 a3 (hno fun z => absurd z.2.1 (by omega)))) (fun hl => gx_others H hr (by omega) (fun ho => br_f (by decide) (gx_handUp H hr (by omega) fun sg' hs => nm_r (nI_1 p) (ih3 sg' ?_))) (fun ho => br_t rfl (nm_r (nI_1 p) (ih3 a3 (hno fun z => ho fun x hx hne => (hbe _).mpr (z.2.2 x hx hne))))))
          intro s hs8 k
          have ha : gs_a g p := ⟨hpr, hl, fun x hx hne => (hbe _).mp (ho x hx hne)⟩
          rw [hs s hs8 k, U3 s hs8 k, U3 s hs8, ← Nat.add_assoc, gx_us hm]
          exact ⟨fun z => z.imp id fun y => ⟨y.1, ha, y.2⟩, fun z => z.imp id fun y => ⟨y.1, y.2.2⟩⟩
        · rw [z.1] at hpr
          exact absurd hpr (by decide)
  · intro f s a hs hI ih
    refine br_f (nI_ge hs (by decide)) (And.intro (gx_in hs (by decide)) (nm_r (e' := upd a s ((1 : Int32) <<< (nI s &&& 31))) (by rw [gx_cl (by omega)]) (nm_r (nI_1 s) (ih _ ?_))))
    intro x hx k
    rw [gb_u]
    by_cases z : x = s
    · rw [if_pos z, gb_sg (by omega), z]
    · rw [if_neg z]
      exact hI x (by omega) k
theorem gx_withSingles {post : Int32 → Prop} {x : Int32} (h : ∀ e, (∀ k, bt e k = true ↔ ∃ s, s < 8 ∧ bt x s = true ∧ bt (sg s) k = true) → post e) : wpX_withSingles post (rs, wl, az, rk, rl, ry, wd, fd, fo, sg, st, re, ag, li, fw, bg, le, ls) x := by
  refine pk_loop (fun f s (a : Int32) => wX_withSingles_4 post x rs wl az rk rl ry wd fd fo sg st re ag li fw bg le ls f a (nI s)) (fun s a => ∀ k, bt a k = true ↔ ∃ c, c < s ∧ bt x c = true ∧ bt (sg c) k = true) 8 0 0 (by omega) (fun k => by rw [b_0]; exact ⟨fun z => absurd z (by decide), fun ⟨c, z, _⟩ => absurd z (by omega)⟩) ?_ ?_
  · intro f a hI
    exact br_t (nI_le (Nat.le_refl _) (by decide)) (h a hI)
  · intro f s a hs hI ih
    refine br_f (nI_ge hs (by decide)) (gx_bit (by omega) (fun hb => And.intro (gx_in hs (by decide)) (nm_r (e' := a ||| sg s) (by rw [gx_cl (by omega)]) (nm_r (nI_1 s) (ih _ fun k => ?_)))) (fun hb => nm_r (nI_1 s) (ih _ fun k => ?_)))
    · rw [gb_or, hI k]
      constructor
      · intro z
        rcases z with ⟨c, h1, h2⟩ | z
        · exact ⟨c, by omega, h2⟩
        · exact ⟨s, by omega, hb, z⟩
      · intro ⟨c, h1, h2, h3⟩
        by_cases e : c = s
        · subst e; exact Or.inr h3
        · exact Or.inl ⟨c, by omega, h2, h3⟩
    · rw [hI k]
      constructor
      · intro ⟨c, h1, h2⟩
        exact ⟨c, by omega, h2⟩
      · intro ⟨c, h1, h2, h3⟩
        by_cases e : c = s
        · subst e; rw [hb] at h2; exact absurd h2 (by decide)
        · exact ⟨c, by omega, h2, h3⟩
end xbase

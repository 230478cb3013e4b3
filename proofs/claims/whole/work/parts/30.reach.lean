/-! engine 3: reach -/
def gr_T (re : Nat → Int32) (n s i j : Nat) : Prop := i ≤ j ∧ j ≤ n ∧ bt (re (s * 11 + i)) j = true
def gr_L (w : Nat → Nat) (n : Nat) (re : Nat → Int32) : Prop := ∀ i, i < n → bt (re ((5 + w i) * 11 + i)) (i + 1) = true
def gr_C (g : gm_G) (n : Nat) (re : Nat → Int32) : Prop := ∀ r a b, r < 16 → gm_p g r = true → a ≤ n → gm_q g (gr_T re n) r (gm_l g r) a b → bt (re (gm_k g r * 11 + a)) b = true
theorem gr_qb {g : gm_G} {re : Nat → Int32} {n r i : Nat} (hi : i ≤ n) : ∀ d m, gm_q g (gr_T re n) r d i m → i ≤ m ∧ m ≤ n
  | 0, m, e => by
    have e : i = m := e
    omega
  | d + 1, m, ⟨m', a, b⟩ => by
    have h1 := gr_qb hi d m' a
    have h2 := b.1
    exact ⟨by omega, b.2.1⟩
theorem gr_sT {g : gm_G} {w : Nat → Nat} {n : Nat} {re : Nat → Int32} (S : gr_S g w n re) (hn : n ≤ 10) {s i j : Nat} (hs : s < 8) (h : gr_T re n s i j) : gm_mk g w n s i j := by
  obtain ⟨h1, h2, h3⟩ := h
  exact S s i j hs (by omega) h3
theorem gr_qs {g : gm_G} (G : gm_ok g) {w : Nat → Nat} {n : Nat} {re : Nat → Int32} (S : gr_S g w n re) (hn : n ≤ 10) {r i : Nat} : ∀ d m, gm_q g (gr_T re n) r d i m → gm_q g (gm_mk g w n) r d i m
  | 0, _, e => e
  | d + 1, _, ⟨m', a, b⟩ => ⟨m', gr_qs G S hn d m' a, gr_sT S hn (G.2.2 r d) b⟩
theorem gr_mk {g : gm_G} {w : Nat → Nat} {n : Nat} {re : Nat → Int32} (hn : n ≤ 10) (S : gr_S g w n re) (L : gr_L w n re) (C : gr_C g n re) {s i j : Nat} (hs : s < 8) : gr_T re n s i j ↔ gm_mk g w n s i j :=
  ⟨gr_sT S hn hs, fun h => h (gr_T re n) ⟨fun i hi => ⟨by omega, by omega, L i hi⟩, fun r i j a b c d e => ⟨c, d, C r i j a b (by omega) e⟩⟩⟩
def gr_R (g : gm_G) (w : Nat → Nat) (n : Nat) (re0 : Nat → Int32) (D : Nat → Nat → Prop) (s : Int32 × (Nat → Int32)) : Prop :=
  gr_S g w n s.2 ∧ gr_L w n s.2 ∧ ((s.1 = 0 ∧ s.2 = re0 ∧ ∀ r a b, r < 16 → gm_p g r = true → D r a → a ≤ n → gm_q g (gr_T re0 n) r (gm_l g r) a b → bt (re0 (gm_k g r * 11 + a)) b = true) ∨ (s.1 = 1 ∧ gr_n re0 < gr_n s.2))
theorem gr_Rw {g : gm_G} {w : Nat → Nat} {n : Nat} {t0 : Nat → Int32} {D D' : Nat → Nat → Prop} {s : Int32 × (Nat → Int32)} (h : ∀ r a, r < 16 → a ≤ n → gm_p g r = true → D' r a → D r a) (I : gr_R g w n t0 D s) : gr_R g w n t0 D' s :=
  ⟨I.1, I.2.1, I.2.2.imp (fun z => ⟨z.1, z.2.1, fun r a b hr hp d h1 => z.2.2 r a b hr hp (h r a hr h1 hp d) h1⟩) id⟩
theorem gr_Rs {g : gm_G} (G : gm_ok g) {w : Nat → Nat} {n r i : Nat} {re0 re : Nat → Int32} {D D' : Nat → Nat → Prop} {x e : Int32} (hn : n ≤ 10) (hr : r < 16) (hp : gm_p g r = true) (hi : i ≤ n) (I : gr_R g w n re0 D (x, re)) (hD : ∀ c a, D' c a → D c a ∨ (c = r ∧ a = i))
    (he : ∀ b, bt e b = true ↔ gm_q g (gr_T re n) r (gm_l g r) i b) :
    (x = 0 → (e &&& (re (gm_k g r * 11 + i) ^^^ (-1))) = 0 → gr_R g w n re0 D' (0, upd re (gm_k g r * 11 + i) (re (gm_k g r * 11 + i) ||| e))) ∧
    (x = 0 → ¬ (e &&& (re (gm_k g r * 11 + i) ^^^ (-1))) = 0 → gr_R g w n re0 D' (1, upd re (gm_k g r * 11 + i) (re (gm_k g r * 11 + i) ||| e))) ∧
    (¬ x = 0 → gr_R g w n re0 D' (1, upd re (gm_k g r * 11 + i) (re (gm_k g r * 11 + i) ||| e))) := by
  obtain ⟨S, L, A⟩ := I
  have S : gr_S g w n re := S
  have L : gr_L w n re := L
  have hk := G.1 r
  have hmk : ∀ b, bt e b = true → gm_mk g w n (gm_k g r) i b := fun b hb => by
    have hq := (he b).mp hb
    have hb := gr_qb hi _ _ hq
    exact gm_mr hr hp hb.1 hb.2 (gr_qs G S hn _ _ hq)
  have S' : gr_S g w n (upd re (gm_k g r * 11 + i) (re (gm_k g r * 11 + i) ||| e)) := by
    intro s a b hs ha hb
    rw [gb_u] at hb
    by_cases e1 : s * 11 + a = gm_k g r * 11 + i
    · have e2 : s = gm_k g r := by omega
      have e3 : a = i := by omega
      rw [if_pos e1, gb_or] at hb
      rw [e2, e3]
      rcases hb with z | z
      · exact S _ _ _ (by omega) (by omega) z
      · exact hmk b z
    · rw [if_neg e1] at hb
      exact S s a b hs ha hb
  have M : ∀ c s, bt (re c) s = true → bt (upd re (gm_k g r * 11 + i) (re (gm_k g r * 11 + i) ||| e) c) s = true := fun c s h => gt_orM c s h
  have L' : gr_L w n (upd re (gm_k g r * 11 + i) (re (gm_k g r * 11 + i) ||| e)) := fun a ha => M _ _ (L a ha)
  refine ⟨fun hx h0 => ?_, fun hx h1 => ?_, fun hx => ?_⟩
  · rcases A with ⟨_, e2, hC⟩ | ⟨e1, _⟩
    · have e2 : re = re0 := e2
      have e3 : upd re (gm_k g r * 11 + i) (re (gm_k g r * 11 + i) ||| e) = re := by rw [gt_or0 h0, gt_up]
      refine ⟨S', L', Or.inl ⟨rfl, e3.trans e2, fun c a b hc hpc d h1 hq => ?_⟩⟩
      rcases hD c a d with z | ⟨z1, z2⟩
      · exact hC c a b hc hpc z h1 hq
      · rw [z1, z2] at hq ⊢
        rw [← e2] at hq ⊢
        have h4 := (he b).mpr hq
        have h5 := congrArg (fun z => bt z b) (gt_or0 h0)
        rw [← h5, gb_or]
        exact Or.inr h4
    · have e1 : x = 1 := e1
      rw [hx] at e1
      exact absurd e1 (by decide)
  · obtain ⟨b, hb, h3, h4⟩ := (gb_new _ _).mp h1
    have h5 := gm_mb (hmk b h3)
    have h6 := gr_nlt M (c := gm_k g r * 11 + i) (j := b) (by omega) (by omega) h4 (by rw [gb_us rfl, gb_or]; exact Or.inr h3)
    refine ⟨S', L', Or.inr ⟨rfl, ?_⟩⟩
    rcases A with ⟨_, e2, _⟩ | ⟨_, e2⟩
    · have e2 : re = re0 := e2
      rw [← e2]; exact h6
    · exact Nat.lt_trans e2 h6
  · rcases A with ⟨e1, _, _⟩ | ⟨_, e2⟩
    · exact absurd e1 hx
    · exact ⟨S', L', Or.inr ⟨rfl, Nat.lt_of_lt_of_le e2 (gr_nle M)⟩⟩
section xreach
variable {rs wl az : Int32} {rk rl ry wd fd fo sg st re ag li fw bg le ls : Nat → Int32} {g : gm_G} {w : Nat → Nat} {n : Nat}
theorem gx_endsOfRule {post : Int32 → Prop} (H : gx_G g rs rk rl ry) (hn : n ≤ 10) (S : gr_S g w n re) {r i : Nat} (hr : r < 16) (hi : i ≤ n) (h : ∀ e, (∀ b, bt e b = true ↔ gm_q g (gr_T re n) r (gm_l g r) i b) → post e) : wpX_endsOfRule post (rs, wl, az, rk, rl, ry, wd, fd, fo, sg, st, re, ag, li, fw, bg, le, ls) (nI r) (nI i) (nI n) := by
  have h3 := H.1.2.1 r
  have el := gx_Gl H hr
  refine nm_e ?_
  refine pk_loop (fun f d (x : Int32) => wX_endsOfRule_8 post (nI r) (nI i) (nI n) rs wl az rk rl ry wd fd fo sg st re ag li fw bg le ls f x (nI d)) (fun d x => ∀ b, bt x b = true ↔ gm_q g (gr_T re n) r d i b) (gm_l g r) 0 _ (by omega) (fun b => (gb_sg (by omega) b).trans ⟨fun z => z.symm, fun z => Eq.symm z⟩) ?_ ?_
  · intro f x hI
    exact And.intro (gx_in hr (by decide)) (br_t (by rw [el]; exact nI_le (Nat.le_refl _) (by omega)) (h x hI))
  · intro f d x hd hI ih
    have h8 := H.1.2.2 r d
    refine And.intro (gx_in hr (by decide)) (br_f (by rw [el]; exact nI_ge hd (by omega)) (gx_symbolAt H hr (by omega) ?_))
    refine pk_loop (fun f2 m (y : Int32) => wX_endsOfRule_34 post (wX_endsOfRule_8 post (nI r) (nI i) (nI n) rs wl az rk rl ry wd fd fo sg st re ag li fw bg le ls f) (nI r) (nI i) (nI n) x (nI d) (nI (gm_y g r d)) rs wl az rk rl ry wd fd fo sg st re ag li fw bg le ls f2 y (nI m)) (fun m y => i ≤ m ∧ ∀ b, bt y b = true ↔ ∃ c, c < m ∧ i ≤ c ∧ bt x c = true ∧ bt (re (gm_y g r d * 11 + c)) b = true) (n + 1) i 0 (by omega) ⟨Nat.le_refl _, fun b => by rw [b_0]; exact ⟨fun z => absurd z (by decide), fun ⟨c, z, y, _⟩ => absurd z (by omega)⟩⟩ ?_ ?_
    · intro f2 y ⟨_, hI2⟩
      refine br_t (nI_lt (Nat.lt_succ_self n) (by omega)) (nm_r (nI_1 d) (ih y fun b => ?_))
      rw [hI2 b]
      constructor
      · intro ⟨c, h1, h2, h3, h4⟩
        have hb := gm_mb (S _ c b h8 (by omega) h4)
        exact ⟨c, (hI c).mp h3, hb.1, hb.2, h4⟩
      · intro ⟨c, h1, h2⟩
        have hb := gr_qb hi _ _ h1
        exact ⟨c, by omega, hb.1, (hI c).mpr h1, h2.2.2⟩
    · intro f2 m y hm ⟨him, hI2⟩ ih2
      refine br_f (nI_nlt (by omega) (by omega)) (gx_bit (by omega) (fun hb => ?_) (fun hb => nm_r (nI_1 m) (ih2 y ⟨by omega, fun b => ?_⟩)))
      · rw [gx_c11, gx_cl (by omega)]
        refine And.intro (gx_in (by omega) (by decide)) (nm_e (nm_r (nI_1 m) (ih2 _ ⟨by omega, fun b => ?_⟩)))
        rw [gb_or, hI2 b]
        constructor
        · intro z
          rcases z with ⟨c, h1, h2⟩ | z
          · exact ⟨c, by omega, h2⟩
          · exact ⟨m, by omega, him, hb, z⟩
        · intro ⟨c, h1, h2, h3, h4⟩
          by_cases e : c = m
          · subst e; exact Or.inr h4
          · exact Or.inl ⟨c, by omega, h2, h3, h4⟩
      · rw [hI2 b]
        constructor
        · intro ⟨c, h1, h2⟩
          exact ⟨c, by omega, h2⟩
        · intro ⟨c, h1, h2, h3, h4⟩
          by_cases e : c = m
          · subst e; rw [hb] at h3; exact absurd h3 (by decide)
          · exact ⟨c, by omega, h2, h3, h4⟩
theorem gx_widenReach {post : Int32 → SX → Prop} (H : gx_G g rs rk rl ry) (hn : n ≤ 10) (S : gr_S g w n re) (L : gr_L w n re) (h : ∀ x re', gr_R g w n re (fun _ _ => True) (x, re') → post x (rs, wl, az, rk, rl, ry, wd, fd, fo, sg, st, re', ag, li, fw, bg, le, ls)) : wpX_widenReach post (rs, wl, az, rk, rl, ry, wd, fd, fo, sg, st, re, ag, li, fw, bg, le, ls) (nI n) := by
  refine pk_loop (fun f r (s : Int32 × (Nat → Int32)) => wX_widenReach_4 post (nI n) rs wl az f s.1 (nI r) rk rl ry wd fd fo sg st s.2 ag li fw bg le ls) (fun r s => gr_R g w n re (fun c _ => c < r) s) 16 0 (0, re) (by omega) ⟨S, L, Or.inl ⟨rfl, rfl, fun r a b _ _ d => absurd d (by omega)⟩⟩ ?_ ?_
  · intro f ⟨x, re1⟩ I
    refine br_t (nI_le (Nat.le_refl _) (by decide)) (And.intro (gy_nar ?_) (h x re1 (gr_Rw (fun r a hr _ _ _ => hr) I)))
    rcases I.2.2 with ⟨e, _⟩ | ⟨e, _⟩
    · exact Or.inl e
    · exact Or.inr e
  · intro f r s hr I ih
    refine br_f (nI_ge hr (by decide)) (gx_hasRule H hr (fun hp => br_f gx_10 ?_) (fun hp => br_t rfl (nm_r (nI_1 r) (ih s (gr_Rw (fun c a hc ha hpc d => ?_) I)))))
    · refine pk_loop (fun f2 i (s : Int32 × (Nat → Int32)) => wX_widenReach_21 post (wX_widenReach_4 post (nI n) rs wl az f) (nI n) (nI r) rs wl az f2 s.1 (nI i) rk rl ry wd fd fo sg st s.2 ag li fw bg le ls) (fun i s => gr_R g w n re (fun c a => c < r ∨ (c = r ∧ a < i)) s) (n + 1) 0 s (by omega) (gr_Rw (fun c a _ _ _ d => by omega) I) ?_ ?_
      · intro f2 s2 I2
        exact br_t (nI_lt (Nat.lt_succ_self n) (by omega)) (nm_r (nI_1 r) (ih s2 (gr_Rw (fun c a _ _ _ d => by omega) I2)))
      · intro f2 i ⟨x2, re2⟩ hi I2 ih2
        have hk := H.1.1 r
        refine br_f (nI_nlt (by omega) (by omega)) (gx_endsOfRule H hn I2.1 hr (by omega) fun e he => And.intro (gx_in hr (by decide)) (nm_r (e' := nI (gm_k g r * 11 + i)) (by rw [gx_Gk H hr, gx_c11]) ?_))
        have ecl : (nI (gm_k g r * 11 + i)).toNatClampNeg = gm_k g r * 11 + i := gx_cl (by omega)
        obtain ⟨a1, a2, a3⟩ := gr_Rs H.1 hn hr hp (i := i) (by omega) I2 (D' := fun c a => c < r ∨ (c = r ∧ a < i + 1)) (fun c a d => by omega) he
        have v : vp_in (nI (gm_k g r * 11 + i)) 88 := gx_in (by omega) (by decide)
        have fin : ∀ z : Int32, gr_R g w n re (fun c a => c < r ∨ (c = r ∧ a < i + 1)) (z, upd re2 (gm_k g r * 11 + i) (re2 (gm_k g r * 11 + i) ||| e)) → wX_widenReach_75 post (wX_widenReach_4 post (nI n) rs wl az f) (wX_widenReach_21 post (wX_widenReach_4 post (nI n) rs wl az f) (nI n) (nI r) rs wl az f2) (nI n) (nI r) (nI i) e (nI (gm_k g r * 11 + i)) z rs wl az rk rl ry wd fd fo sg st re2 ag li fw bg le ls := fun z hz =>
          And.intro v (And.intro v (nm_r (e' := upd re2 (gm_k g r * 11 + i) (re2 (gm_k g r * 11 + i) ||| e)) (by rw [ecl]) (nm_r (nI_1 i) (ih2 _ hz))))
        refine br_c (fun x0 => And.intro v ?_) (fun x0 => fin 1 (a3 x0))
        rw [ecl]
        exact br_c (fun y0 => fin 0 (a1 x0 y0)) (fun y0 => fin 1 (a2 x0 y0))
    · by_cases e : c = r
      · subst e; rw [hpc] at hp; exact absurd hp (by decide)
      · omega
end xreach

/-! the reference: tryRule, grow, read -/
def gy_I (g : gm_G) (w : Nat → Nat) (n r : Nat) (gr0 : Int32) (md0 : Nat → Int32) (D : Nat → Nat → Prop) (s : Int32 × (Nat → Int32)) : Prop :=
  gy_Z s.2 ∧ gy_S g w n s.2 ∧ ((s.1 = gr0 ∧ s.2 = md0 ∧ ∀ a b, D a b → a ≤ b → b ≤ n → gm_q g (gy_B md0 w n) r (gm_l g r) a b → md0 (121 * gm_k g r + 11 * a + b) = 1) ∨ (s.1 = 1 ∧ gy_n md0 < gy_n s.2))
theorem gy_Iw {g : gm_G} {w : Nat → Nat} {n r : Nat} {gr0 : Int32} {md0 : Nat → Int32} {D D' : Nat → Nat → Prop} {s : Int32 × (Nat → Int32)} (h : ∀ a b, a ≤ b → b ≤ n → D' a b → D a b) (I : gy_I g w n r gr0 md0 D s) : gy_I g w n r gr0 md0 D' s :=
  ⟨I.1, I.2.1, I.2.2.imp (fun z => ⟨z.1, z.2.1, fun a b d h1 h2 => z.2.2 a b (h a b h1 h2 d) h1 h2⟩) id⟩
theorem gy_Zu {m : Nat → Int32} {c : Nat} (h : gy_Z m) : gy_Z (upd m c 1) := by
  intro x hx
  rw [gb_u]
  split
  · exact Or.inr rfl
  · exact h x hx
theorem gy_Su {g : gm_G} {w : Nat → Nat} {n k i j : Nat} {m : Nat → Int32} (S : gy_S g w n m) (hk : k < 5) (hi : i ≤ 10) (hj : j ≤ 10) (h : gm_mk g w n k i j) : gy_S g w n (upd m (121 * k + 11 * i + j) 1) := by
  intro s a b hs ha hb e
  rw [gb_u] at e
  by_cases z : 121 * s + 11 * a + b = 121 * k + 11 * i + j
  · have e1 : s = k := by omega
    have e2 : a = i := by omega
    have e3 : b = j := by omega
    rw [e1, e2, e3]; exact h
  · rw [if_neg z] at e
    exact S s a b hs ha hb e
section ygrow
variable {sz gr : Int32} {th kd lg pt wd ls le : Nat → Int32} {g : gm_G} {w : Nat → Nat} {n : Nat}
theorem gy_tryRule {post : SY → Prop} (H : gy_G g th kd lg pt) (hw : ∀ i, i < n → ls i = nI (w i)) (hw3 : ∀ i, w i < 3) (hn : n ≤ 10) {md0 : Nat → Int32} (hz : gy_Z md0) (hS : gy_S g w n md0) {r : Nat} (hr : r < 16) (hp : gm_p g r = true)
    (h : ∀ gr' md', gy_I g w n r gr md0 (fun _ _ => True) (gr', md') → post (sz, nI n, gr', th, kd, lg, pt, wd, ls, md', le)) : wpY_tryRule post (sz, nI n, gr, th, kd, lg, pt, wd, ls, md0, le) (nI r) := by
  have hk := H.1.1 r
  refine pk_loop (fun f i (s : Int32 × (Nat → Int32)) => wY_tryRule_2 post (nI r) sz (nI n) f (nI i) s.1 th kd lg pt wd ls s.2 le) (fun i s => gy_I g w n r gr md0 (fun a _ => a < i) s) (n + 1) 0 (gr, md0) (by omega) ⟨hz, hS, Or.inl ⟨rfl, rfl, fun a _ d => absurd d (by omega)⟩⟩ ?_ ?_
  · intro f s hI
    exact br_t (nI_lt (Nat.lt_succ_self n) (by omega)) (h s.1 s.2 (gy_Iw (fun a b h1 h2 _ => by omega) hI))
  · intro f i s hi hI ih
    refine br_f (nI_nlt (by omega) (by omega)) ?_
    refine pk_loop (fun f2 j (s : Int32 × (Nat → Int32)) => wY_tryRule_12 post (wY_tryRule_2 post (nI r) sz (nI n) f) (nI r) (nI i) sz (nI n) f2 (nI j) s.1 th kd lg pt wd ls s.2 le) (fun j s => i ≤ j ∧ gy_I g w n r gr md0 (fun a b => a < i ∨ (a = i ∧ b < j)) s) (n + 1) i s (by omega) ⟨Nat.le_refl _, gy_Iw (fun a b h1 h2 d => by omega) hI⟩ ?_ ?_
    · intro f2 s2 ⟨_, hI2⟩
      exact br_t (nI_lt (Nat.lt_succ_self n) (by omega)) (nm_r (nI_1 i) (ih s2 (gy_Iw (fun a b h1 h2 d => by omega) hI2)))
    · intro f2 j s2 hj ⟨hij, hI2⟩ ih2
      obtain ⟨gr2, md2⟩ := s2
      obtain ⟨hz2, hS2, hA⟩ := hI2
      have hz2 : gy_Z md2 := hz2
      have hS2 : gy_S g w n md2 := hS2
      refine br_f (nI_nlt (by omega) (by omega)) (And.intro (gx_in hr (by decide)) (nm_r (e' := nI (121 * gm_k g r + 11 * i + j)) (by rw [gx_cl (by omega), H.2.2.1 r]; exact gx_y121 _ _ _) (And.intro (gx_in (by omega) (by decide)) ?_)))
      have ecl : (nI (121 * gm_k g r + 11 * i + j)).toNatClampNeg = 121 * gm_k g r + 11 * i + j := gx_cl (by omega)
      rcases hz2 (121 * gm_k g r + 11 * i + j) (by omega) with z | z
      · refine br_t (by rw [ecl]; exact z) (gy_fits H hw hw3 hn hz2 hr hij (by omega) (fun hq => br_f (by decide) (And.intro (gx_in (by omega) (by decide)) (nm_r (e' := upd md2 (121 * gm_k g r + 11 * i + j) 1) (by rw [ecl]; rfl) (nm_r (nI_1 j) ?_)))) (fun hq => br_t rfl (nm_r (nI_1 j) ?_)))
        · refine ih2 (1, upd md2 (121 * gm_k g r + 11 * i + j) 1) ⟨by omega, gy_Zu hz2, gy_Su hS2 hk (by omega) (by omega) (gm_mr hr hp hij (by omega) (gm_qm (fun _ _ _ z => gy_B_s hn hS2 z) _ _ _ hq)), Or.inr ⟨rfl, ?_⟩⟩
          have h5 := gy_nlt (m := md2) (c := 121 * gm_k g r + 11 * i + j) (by omega) (by rw [z]; decide)
          rcases hA with ⟨_, e, _⟩ | ⟨_, e⟩
          · have e' : md2 = md0 := e
            rw [← e']; exact h5
          · exact Nat.lt_trans e h5
        · refine ih2 (gr2, md2) ⟨by omega, hz2, hS2, hA.imp (fun y => ⟨y.1, y.2.1, fun a b d h1 h2 hq2 => ?_⟩) id⟩
          have e' : md2 = md0 := y.2.1
          rcases Nat.lt_or_ge b j with x | x
          · exact y.2.2 a b (by omega) h1 h2 hq2
          · rcases Nat.lt_or_ge a i with x2 | x2
            · exact y.2.2 a b (by omega) h1 h2 hq2
            · have e1 : a = i := by omega
              have e2 : b = j := by omega
              rw [e1, e2, ← e'] at hq2
              exact absurd hq2 hq
      · refine br_f (by rw [ecl]; exact fun y => absurd (y.symm.trans z) (by decide)) (nm_r (nI_1 j) ?_)
        refine ih2 (gr2, md2) ⟨by omega, hz2, hS2, hA.imp (fun y => ⟨y.1, y.2.1, fun a b d h1 h2 hq2 => ?_⟩) id⟩
        have e' : md2 = md0 := y.2.1
        rcases Nat.lt_or_ge b j with x | x
        · exact y.2.2 a b (by omega) h1 h2 hq2
        · rcases Nat.lt_or_ge a i with x2 | x2
          · exact y.2.2 a b (by omega) h1 h2 hq2
          · have e1 : a = i := by omega
            have e2 : b = j := by omega
            rw [e1, e2, ← e']
            exact z
def gy_W (g : gm_G) (w : Nat → Nat) (n : Nat) (md0 : Nat → Int32) (k : Nat) (s : Int32 × (Nat → Int32)) : Prop :=
  gy_Z s.2 ∧ gy_S g w n s.2 ∧ ((s.1 = 0 ∧ s.2 = md0 ∧ ∀ r, r < k → gm_p g r = true → gy_C g w n md0 r) ∨ (s.1 = 1 ∧ gy_n md0 < gy_n s.2))
theorem gy_grow {post : SY → Prop} (H : gy_G g th kd lg pt) (hw : ∀ i, i < n → ls i = nI (w i)) (hw3 : ∀ i, w i < 3) (hn : n ≤ 10) {md : Nat → Int32}
    (h : ∀ md', gy_Z md' → gy_ok g w n md' → post (sz, nI n, 0, th, kd, lg, pt, wd, ls, md', le)) : wpY_grow post (sz, nI n, gr, th, kd, lg, pt, wd, ls, md, le) := by
  refine pk_loop (fun f c (m : Nat → Int32) => wY_grow_2 post sz (nI n) gr f (nI c) th kd lg pt wd ls m le) (fun c m => ∀ x, x < c → m x = 0) 605 0 md (by omega) lt_0 ?_ ?_
  · intro f m hm
    refine br_t (nI_le (Nat.le_refl _) (by decide)) ?_
    refine loop_m (fun f (s : Int32 × (Nat → Int32)) => wY_grow_27 post f sz (nI n) s.1 th kd lg pt wd ls s.2 le) (fun s => gy_Z s.2 ∧ gy_S g w n s.2 ∧ (s.1 = 1 ∨ (s.1 = 0 ∧ ∀ r, r < 16 → gm_p g r = true → gy_C g w n s.2 r))) (fun s => if s.1 = 0 then 0 else 606 - gy_n s.2) ?_ (1, m) ⟨fun c hc => Or.inl (hm c hc), fun s i j hs hi hj e => ?_, Or.inl rfl⟩
    · intro f ⟨gr1, m1⟩ ⟨hz, hS, hI⟩ ih
      rcases hI with e | ⟨e, hC⟩
      · have e1 : gr1 = 1 := e
        subst e1
        refine br_f gx_10 ?_
        refine pk_loop (fun f2 k (s : Int32 × (Nat → Int32)) => wY_grow_41 post (wY_grow_27 post f) f2 (nI k) sz (nI n) s.1 th kd lg pt wd ls s.2 le) (gy_W g w n m1) 16 0 (0, m1) (by omega) ⟨hz, hS, Or.inl ⟨rfl, rfl, fun r hr => absurd hr (by omega)⟩⟩ ?_ ?_
        · intro f2 ⟨gr2, m2⟩ ⟨hz2, hS2, hA⟩
          refine br_t (nI_le (Nat.le_refl _) (by decide)) ?_
          have h605 := gy_n605 m1
          rcases hA with ⟨e2, e3, hC⟩ | ⟨e2, e3⟩
          · have a1 : gr2 = 0 := e2
            have a2 : m2 = m1 := e3
            subst a1 a2
            exact ih (0, m2) ⟨hz2, hS2, Or.inr ⟨rfl, hC⟩⟩ (by show (if (0 : Int32) = 0 then 0 else 606 - gy_n m2) < (if (1 : Int32) = 0 then 0 else 606 - gy_n m2); rw [if_pos rfl, if_neg (by decide)]; omega)
          · have a1 : gr2 = 1 := e2
            have a2 : gy_n m1 < gy_n m2 := e3
            subst a1
            exact ih (1, m2) ⟨hz2, hS2, Or.inl rfl⟩ (by show (if (1 : Int32) = 0 then 0 else 606 - gy_n m2) < (if (1 : Int32) = 0 then 0 else 606 - gy_n m1); rw [if_neg (by decide), if_neg (by decide)]; omega)
        · intro f2 k ⟨gr2, m2⟩ hk ⟨hz2, hS2, hA⟩ ih2
          refine br_f (nI_ge hk (by decide)) (And.intro (gx_in hk (by decide)) ?_)
          have eth : th (nI k).toNatClampNeg = if gm_p g k = true then 1 else 0 := by rw [gx_cl (by omega)]; exact H.2.1 k hk
          by_cases hp : gm_p g k = true
          · rw [if_pos hp] at eth
            refine br_f (by rw [eth]; decide) (gy_tryRule H hw hw3 hn hz2 hS2 hk hp fun gr3 m3 hI3 => nm_r (nI_1 k) (ih2 (gr3, m3) ⟨hI3.1, hI3.2.1, ?_⟩))
            rcases hI3.2.2 with ⟨b1, b2, b3⟩ | ⟨b1, b2⟩
            · have c1 : gr3 = gr2 := b1
              have c2 : m3 = m2 := b2
              subst c1 c2
              rcases hA with ⟨d1, d2, d3⟩ | d
              · have d2' : m3 = m1 := d2
                subst d2'
                exact Or.inl ⟨d1, rfl, lt_s d3 fun _ i j h1 h2 hq => b3 i j trivial h1 h2 hq⟩
              · exact Or.inr d
            · refine Or.inr ⟨b1, ?_⟩
              have b2' : gy_n m2 < gy_n m3 := b2
              show gy_n m1 < gy_n m3
              rcases hA with ⟨_, d2, _⟩ | ⟨_, d2⟩
              · have d2' : m2 = m1 := d2
                rw [← d2']; exact b2'
              · exact Nat.lt_trans d2 b2'
          · rw [if_neg hp] at eth
            exact br_t eth (nm_r (nI_1 k) (ih2 (gr2, m2) ⟨hz2, hS2, hA.imp (fun d => ⟨d.1, d.2.1, lt_s d.2.2 fun z => absurd z hp⟩) id⟩))
      · have e1 : gr1 = 0 := e
        subst e1
        exact br_t rfl (h m1 hz (gy_mk H.1 hn hS hC))
    · have e2 : m (121 * s + 11 * i + j) = 1 := e
      rw [hm _ (by omega)] at e2
      exact absurd e2 (by decide)
  · intro f c m hc hm ih
    refine br_f (nI_ge hc (by decide)) (And.intro (gx_in hc (by decide)) (nm_r (e' := upd m c 0) (by rw [gx_cl (by omega)]; rfl) (nm_r (nI_1 c) (ih _ ?_))))
    intro x hx
    rw [gb_u]
    split
    · rfl
    · exact hm x (by omega)
theorem gy_read {post : SY → Prop} {mn : Int32} (H : gy_G g th kd lg pt) (hwd : ∀ i, i < n → wd i = nI (w i)) (hw3 : ∀ i, w i < 3) (hn : n ≤ 10) {md : Nat → Int32}
    (h : ∀ ls' md', (∀ i, i < n → ls' i = nI (w i)) → gy_Z md' → gy_ok g w n md' → post (nI n, nI n, 0, th, kd, lg, pt, wd, ls', md', le)) : wpY_read post (nI n, mn, gr, th, kd, lg, pt, wd, ls, md, le) := by
  refine pk_loop (fun f i (l : Nat → Int32) => wY_read_10 post (nI n) (nI n) gr f (nI i) th kd lg pt wd l md le) (fun i l => ∀ x, x < i → l x = nI (w x)) n 0 ls (by omega) lt_0 ?_ ?_
  · intro f l hl
    exact br_t (nI_le (Nat.le_refl _) (by omega)) (gy_grow H hl hw3 hn fun md' hz hok => h l md' hl hz hok)
  · intro f i l hi hl ih
    refine br_f (nI_ge hi (by omega)) (And.intro (gx_in (by omega) (by decide)) (And.intro (gx_in (by omega) (by decide)) (nm_r (e' := upd l i (nI (w i))) (by rw [gx_cl (by omega), hwd i hi]) (nm_r (nI_1 i) (ih _ ?_)))))
    intro x hx
    rw [gb_u]
    split
    · rename_i e; rw [e]
    · exact hl x (by omega)
end ygrow

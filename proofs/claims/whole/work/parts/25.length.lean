/-! engine 1 -/
theorem gm_qin {g : gm_G} {P : Nat → Nat → Nat → Prop} {r i j : Nat} (hP : ∀ s a b, P s a b → a ≤ b) : ∀ d m, gm_q g P r d i m → m ≤ j → gm_q g (fun s a b => P s a b ∧ i ≤ a ∧ b ≤ j) r d i m
  | 0, _, e, _ => e
  | d + 1, m, ⟨m', a, b⟩, hm => by
    have h1 := hP _ _ _ b
    exact ⟨m', gm_qin hP d m' a (by omega), b, gm_qle hP d _ _ a, hm⟩
def gl_B (g : gm_G) (w : Nat → Nat) (n : Nat) (t : Nat → Int32) (D : Nat → Nat → Prop) : Prop := ∀ s a b, a ≤ b → b ≤ n → (D a b → (bt (t (a * 11 + b)) s = true ↔ gm_mk g w n s a b)) ∧ (¬ D a b → (bt (t (a * 11 + b)) s = true ↔ a < n ∧ b = a + 1 ∧ s = 5 + w a))
theorem gl_Bs {g : gm_G} (G : gm_ok g) {w : Nat → Nat} {n i ln : Nat} {t sg : Nat → Int32} {e y : Int32} (hn : n ≤ 10) (hw3 : ∀ i, w i < 3) (hl : 1 ≤ ln) (hi : i + ln ≤ n) (B : gl_B g w n t (fun a b => b - a < ln ∨ (b - a = ln ∧ a < i))) (U : gx_U g 320 sg)
    (he : ∀ s, bt e s = true ↔ ∃ r, r < 16 ∧ gm_p g r = true ∧ gm_q g (gt_T t n) r (gm_l g r) i (i + ln) ∧ s = gm_k g r)
    (hy : ∀ k, bt y k = true ↔ ∃ s, s < 8 ∧ bt (t (i * 11 + i + ln) ||| e) s = true ∧ bt (sg s) k = true) : gl_B g w n (upd t (i * 11 + i + ln) y) (fun a b => b - a < ln ∨ (b - a = ln ∧ a < i + 1)) := by
  have hS : ∀ s a b, gt_T t n s a b → gm_mk g w n s a b := fun s a b ⟨h1, h2, h3⟩ => by
    rcases Classical.em (b - a < ln ∨ (b - a = ln ∧ a < i)) with z | z
    · exact ((B s a b h1 h2).1 z).mp h3
    · obtain ⟨y1, y2, y3⟩ := ((B s a b h1 h2).2 z).mp h3
      rw [y2, y3]; exact gm_ml y1
  have hc : ∀ s, bt (t (i * 11 + i + ln)) s = true ↔ i < n ∧ i + ln = i + 1 ∧ s = 5 + w i := fun s => by
    have z := (B s i (i + ln) (by omega) hi).2 (by omega)
    rw [← Nat.add_assoc] at z
    exact z
  have main : ∀ k, bt y k = true ↔ gm_mk g w n k i (i + ln) := by
    intro k
    constructor
    · intro h
      obtain ⟨s, h8, h1, h2⟩ := (hy k).mp h
      have h3 : gm_mk g w n s i (i + ln) := by
        rcases (gb_or _ _).mp h1 with z | z
        · obtain ⟨y1, y2, y3⟩ := (hc s).mp z
          rw [y2, y3]; exact gm_ml y1
        · obtain ⟨r, hr, hp, hq, e1⟩ := (he s).mp z
          rw [e1]
          exact gm_mr hr hp (by omega) hi (gm_qm hS _ _ _ hq)
      exact gs_snd G h3 320 k ((U s h8 k).mp h2)
    · refine ge_cmp G (B := fun k => bt y k = true) (by omega) (fun e1 => ?_) (fun r hr hp hq => ?_) (fun r x hr hp hx ho hb => ?_)
      · have h3 := hw3 i
        exact (hy _).mpr ⟨5 + w i, by omega, (gb_or _ _).mpr (Or.inl ((hc _).mpr ⟨by omega, e1, rfl⟩)), (U _ (by omega) _).mpr (gz_up (c := 0) 320 rfl)⟩
      · have hk := G.1 r
        refine (hy _).mpr ⟨gm_k g r, by omega, (gb_or _ _).mpr (Or.inr ((he _).mpr ⟨r, hr, hp, ?_, rfl⟩)), (U _ (by omega) _).mpr (gz_up (c := 0) 320 rfl)⟩
        refine gm_qm (fun s a b z => ?_) _ _ _ (gm_qin (j := i + ln) (fun s a b z => (gm_mb z.1).1) _ _ hq (Nat.le_refl _))
        obtain ⟨⟨z1, z2⟩, z3, z4⟩ := z
        have hb := gm_mb z1
        exact ⟨hb.1, hb.2, ((B s a b hb.1 hb.2).1 (Or.inl (by omega))).mpr z1⟩
      · obtain ⟨s, h8, h1, h2⟩ := (hy _).mp hb
        exact (hy _).mpr ⟨s, h8, h1, (U s h8 _).mpr (gs_cl G hr hp hx ho ((U s h8 _).mp h2))⟩
  intro s a b h1 h2
  rw [gb_u]
  by_cases e1 : a * 11 + b = i * 11 + i + ln
  · have e2 : a = i := by omega
    have e3 : b = i + ln := by omega
    rw [if_pos e1, e2, e3]
    exact ⟨fun _ => main s, fun z => absurd (Or.inr ⟨by omega, by omega⟩) z⟩
  · rw [if_neg e1]
    obtain ⟨b1, b2⟩ := B s a b h1 h2
    exact ⟨fun z => b1 (by omega), fun z => b2 (by omega)⟩

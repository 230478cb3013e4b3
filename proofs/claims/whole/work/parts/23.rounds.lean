/-! engine 0 -/
def gt_R (g : gm_G) (w : Nat → Nat) (n : Nat) (t0 : Nat → Int32) (D : Nat → Nat → Prop) (s : Int32 × (Nat → Int32)) : Prop :=
  gt_S g w n s.2 ∧ gt_L w n s.2 ∧ ((s.1 = 0 ∧ s.2 = t0 ∧ ∀ r a b, r < 16 → gm_p g r = true → D a b → a ≤ b → b ≤ n → gm_q g (gt_T t0 n) r (gm_l g r) a b → bt (t0 (a * 11 + b)) (gm_k g r) = true) ∨ (s.1 = 1 ∧ gt_n t0 < gt_n s.2))
theorem gt_Rw {g : gm_G} {w : Nat → Nat} {n : Nat} {t0 : Nat → Int32} {D D' : Nat → Nat → Prop} {s : Int32 × (Nat → Int32)} (h : ∀ a b, a ≤ b → b ≤ n → D' a b → D a b) (I : gt_R g w n t0 D s) : gt_R g w n t0 D' s :=
  ⟨I.1, I.2.1, I.2.2.imp (fun z => ⟨z.1, z.2.1, fun r a b hr hp d h1 h2 => z.2.2 r a b hr hp (h a b h1 h2 d) h1 h2⟩) id⟩
theorem gt_Rs {g : gm_G} (G : gm_ok g) {w : Nat → Nat} {n i j : Nat} {t0 t : Nat → Int32} {D D' : Nat → Nat → Prop} {x e : Int32} (hn : n ≤ 10) (hij : i ≤ j) (hj : j ≤ n) (I : gt_R g w n t0 D (x, t)) (hD : ∀ a b, a ≤ b → b ≤ n → D' a b → D a b ∨ (a = i ∧ b = j))
    (he : ∀ s, bt e s = true ↔ ∃ r, r < 16 ∧ gm_p g r = true ∧ gm_q g (gt_T t n) r (gm_l g r) i j ∧ s = gm_k g r) :
    (x = 0 → (e &&& (t (i * 11 + j) ^^^ (-1))) = 0 → gt_R g w n t0 D' (0, upd t (i * 11 + j) (t (i * 11 + j) ||| e))) ∧
    (x = 0 → ¬ (e &&& (t (i * 11 + j) ^^^ (-1))) = 0 → gt_R g w n t0 D' (1, upd t (i * 11 + j) (t (i * 11 + j) ||| e))) ∧
    (¬ x = 0 → gt_R g w n t0 D' (1, upd t (i * 11 + j) (t (i * 11 + j) ||| e))) := by
  obtain ⟨S, L, A⟩ := I
  have S : gt_S g w n t := S
  have L : gt_L w n t := L
  have S' : gt_S g w n (upd t (i * 11 + j) (t (i * 11 + j) ||| e)) := gt_orS S (by omega) (by omega) fun s hs => by
    obtain ⟨r, hr, hp, hq, e1⟩ := (he s).mp hs
    rw [e1]
    exact gm_mr hr hp hij hj (gm_qm (fun _ _ _ z => gt_sT hn S z) _ _ _ hq)
  have L' : gt_L w n (upd t (i * 11 + j) (t (i * 11 + j) ||| e)) := fun a ha => gt_orM _ _ (L a ha)
  have M : ∀ c s, c < 121 → bt (t c) s = true → bt (upd t (i * 11 + j) (t (i * 11 + j) ||| e) c) s = true := fun c s _ h => gt_orM c s h
  refine ⟨fun hx h0 => ?_, fun hx h1 => ?_, fun hx => ?_⟩
  · rcases A with ⟨_, e2, hC⟩ | ⟨e1, _⟩
    · have e2 : t = t0 := e2
      have e3 : upd t (i * 11 + j) (t (i * 11 + j) ||| e) = t := by rw [gt_or0 h0, gt_up]
      refine ⟨S', L', Or.inl ⟨rfl, e3.trans e2, fun r a b hr hp d h1 h2 hq => ?_⟩⟩
      rcases hD a b h1 h2 d with z | ⟨z1, z2⟩
      · exact hC r a b hr hp z h1 h2 hq
      · rw [z1, z2] at hq ⊢
        rw [← e2] at hq ⊢
        have h4 := (he (gm_k g r)).mpr ⟨r, hr, hp, hq, rfl⟩
        have h5 := congrArg (fun z => bt z (gm_k g r)) (gt_or0 h0)
        rw [← h5, gb_or]
        exact Or.inr h4
    · have e1 : x = 1 := e1
      rw [hx] at e1
      exact absurd e1 (by decide)
  · obtain ⟨s, hs, h3, h4⟩ := (gb_new _ _).mp h1
    obtain ⟨r, _, _, _, e5⟩ := (he s).mp h3
    have hk := G.1 r
    have h6 := gt_nlt M (c := i * 11 + j) (s := s) (by omega) (by omega) h4 (by rw [gb_us rfl, gb_or]; exact Or.inr h3)
    refine ⟨S', L', Or.inr ⟨rfl, ?_⟩⟩
    rcases A with ⟨_, e2, _⟩ | ⟨_, e2⟩
    · have e2 : t = t0 := e2
      rw [← e2]; exact h6
    · exact Nat.lt_trans e2 h6
  · rcases A with ⟨e1, _, _⟩ | ⟨_, e2⟩
    · exact absurd e1 hx
    · exact ⟨S', L', Or.inr ⟨rfl, Nat.lt_of_lt_of_le e2 (gt_nle M)⟩⟩

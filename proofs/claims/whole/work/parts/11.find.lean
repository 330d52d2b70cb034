section
variable {P K : Nat} {S V It gr vr sw od L ls : Nat → Int32} {q l : Nat → Nat} {m : Nat → Nat} {n : Nat}
variable {pl : Nat → Int32}
def hj_Kc (P K : Nat) (S V gr vr : Nat → Int32) (q : Nat → Nat) (n kind c : Nat) : Prop := hj_Kp P K S V gr vr q n kind (hj_m c n)
/-- the history is of the kind -/
def hj_J (P K : Nat) (S V gr vr : Nat → Int32) (q : Nat → Nat) (n kind : Nat) : Prop := (kind = 1 ∨ hj_CX P K S V vr) ∧ ∃ c, c < 2 ^ (2 * n) ∧ hj_Kc P K S V gr vr q n kind c
/-- the first list of the kind -/
def hj_F (P K : Nat) (S V gr vr : Nat → Int32) (q : Nat → Nat) (n kind c : Nat) : Prop := c < 2 ^ (2 * n) ∧ hj_Kc P K S V gr vr q n kind c ∧ ∀ c', c' < c → ¬ hj_Kc P K S V gr vr q n kind c'
theorem hx_first {post : Int32 → SX → Prop} (R : hj_R P K S V It gr vr sw od L q l) (hnS : n = hj_cn S P) {kind : Nat} (hk : kind ≤ 4) (h0 : ∀ pl', ¬ hj_J P K S V gr vr q n kind → post (-1) (nI P, nI K, S, V, It, L, gr, vr, pl')) (h1 : ∀ pl' c, hj_J P K S V gr vr q n kind → hj_F P K S V gr vr q n kind c → post (nI c) (nI P, nI K, S, V, It, L, gr, vr, pl')) : wpX_firstList post (nI P, nI K, S, V, It, L, gr, vr, pl) (nI kind) := by
  refine hx_firstList R hnS hk (fun pl' w => h0 pl' (fun y => ?_)) (fun pl' c hc g w w2 => h1 pl' c ⟨g, c, hc, w⟩ ⟨hc, w, w2⟩)
  rcases w with w | w
  · rcases y.1 with z | z
    · exact w.1 z
    · exact w.2 z
  · obtain ⟨c, hc, z⟩ := y.2
    exact w c hc z
theorem hy_find {post : Int32 → SY → Prop} (R : hj_R P K S V It gr vr sw od L q l) (hnS : n = hj_cn S P) {kind : Nat} (hk1 : 1 ≤ kind) (hk : kind ≤ 4) (h0 : ∀ ls', (∀ c, c < 2 ^ (2 * n) → ¬ hj_Kc P K S V gr vr q n kind c) → post 0 (nI P, nI K, S, V, sw, od, L, ls')) (h1 : ∀ ls' c, hj_F P K S V gr vr q n kind c → hj_LS ls' (hj_m c n) n → post 1 (nI P, nI K, S, V, sw, od, L, ls')) : wpY_find post (nI P, nI K, S, V, sw, od, L, ls) (nI kind) := by
  have hn : n ≤ 4 := by
    have := hj_cn_le S P
    have := R.1.2
    omega
  have h8 := hj_p8 hn
  refine hy_committed R ?_
  rw [← hnS]
  refine loop_0 (fun n' c (s : Nat → Int32) => wY_find_7 post (nI kind) (nI n) n' (nI c) (nI P) (nI K) S V sw od L s) (fun c _ => ∀ c', c' < c → ¬ hj_Kc P K S V gr vr q n kind c') (2 ^ (2 * n)) ls lt_0 ?_ ?_
  · intro n' s I
    show wY_find_7 post (nI kind) (nI n) (n' + 1) (nI (2 ^ (2 * n))) (nI P) (nI K) S V sw od L s
    rw [wY_find_7]
    dsimp only
    rw [hj_shc hn]
    exact br_t (nI_le (Nat.le_refl _) (by omega)) (h0 s I)
  · intro n' c s hc I next
    have nx : ∀ ls', ¬ hj_Kc P K S V gr vr q n kind c → wY_find_7 post (nI kind) (nI n) n' (nI (c + 1)) (nI P) (nI K) S V sw od L ls' := fun ls' w => next ls' (lt_s I w)
    show wY_find_7 post (nI kind) (nI n) (n' + 1) (nI c) (nI P) (nI K) S V sw od L s
    rw [wY_find_7]
    dsimp only
    rw [hj_shc hn]
    refine br_f (nI_ge hc (by omega)) (hy_spell (by omega) hn (fun ls' hl => hj_br (fun hv => nm_r (nI_1 c) (nx ls' (fun w => hv w.1))) (fun hv => hy_keepsRankings R hn hl (hj_m4 c n) (hj_br (fun hr => nm_r (nI_1 c) (nx ls' (fun w => ?_))) (fun hr => ?_)))))
    · rcases w.2.1 with w | w
      · omega
      · exact hr w
    · have f64 : kind ≠ 1 → (kind = 2 → ¬ hj_Src K vr (hj_m c n) n) → (kind = 3 → ¬ hj_Sn P K V gr vr (hj_m c n) n) → wY_find_64 post (wY_find_7 post (nI kind) (nI n) n') (nI kind) (nI n) (nI c) (nI P) (nI K) S V sw od L ls' := by
        intro g1 g2 g3
        refine pk_eq kind 4 (fun e => hy_keepsReads R hn hv hl (hj_m4 c n) (hj_br (fun hz => nm_r (nI_1 c) (nx ls' (fun w => ?_))) (fun hz => h1 ls' c ⟨hc, ⟨hv, Or.inr hr, Or.inl (by omega), Or.inl (by omega), Or.inr hz⟩, I⟩ hl))) (fun e => nm_r (nI_1 c) (nx ls' (fun w => ?_)))
        · rcases w.2.2.2.2 with w | w
          · exact w e
          · exact hz w
        · rcases (by omega : kind = 2 ∨ kind = 3) with e2 | e3
          · rcases w.2.2.1 with w | w
            · exact w e2
            · exact g2 e2 w
          · rcases w.2.2.2.1 with w | w
            · exact w e3
            · exact g3 e3 w
      have f51 : kind ≠ 1 → (kind = 2 → ¬ hj_Src K vr (hj_m c n) n) → wY_find_51 post (wY_find_7 post (nI kind) (nI n) n') (nI kind) (nI n) (nI c) (nI P) (nI K) S V sw od L ls' := by
        intro g1 g2
        exact pk_eq kind 3 (fun e => hy_canStart R hn hv hl (hj_m4 c n) (hj_br (fun hz => f64 g1 g2 (fun _ => hz)) (fun hz => h1 ls' c ⟨hc, ⟨hv, Or.inr hr, Or.inl (by omega), Or.inr hz, Or.inl (by omega)⟩, I⟩ hl))) (fun e => f64 g1 g2 (fun w => absurd w e))
      exact pk_eq kind 1 (fun e => h1 ls' c ⟨hc, ⟨hv, Or.inr hr, Or.inl (by omega), Or.inl (by omega), Or.inl (by omega)⟩, I⟩ hl) (fun e => pk_eq kind 2 (fun e2 => hy_keepsSources R hn hl (hj_m4 c n) (hj_br (fun hz => f51 e (fun _ => hz)) (fun hz => h1 ls' c ⟨hc, ⟨hv, Or.inr hr, Or.inr hz, Or.inl (by omega), Or.inl (by omega)⟩, I⟩ hl))) (fun e2 => f51 e (fun w => absurd w e2)))
theorem hj_Fu {kind c c' : Nat} (h : hj_F P K S V gr vr q n kind c) (h' : hj_F P K S V gr vr q n kind c') : c = c' := by
  rcases Nat.lt_trichotomy c c' with z | z | z
  · exact absurd h.2.1 (h'.2.2 c z)
  · exact z
  · exact absurd h'.2.1 (h.2.2 c' z)
/-- find, once the cleanness is known -/
theorem hy_fJ {post : Int32 → SY → Prop} (R : hj_R P K S V It gr vr sw od L q l) (hnS : n = hj_cn S P) {kind : Nat} (hk1 : 1 ≤ kind) (hk : kind ≤ 4) (hC : kind = 1 ∨ hj_CX P K S V vr) (h0 : ∀ ls', ¬ hj_J P K S V gr vr q n kind → post 0 (nI P, nI K, S, V, sw, od, L, ls')) (h1 : ∀ ls', hj_J P K S V gr vr q n kind → (∀ c, hj_F P K S V gr vr q n kind c → hj_LS ls' (hj_m c n) n) → post 1 (nI P, nI K, S, V, sw, od, L, ls')) : wpY_find post (nI P, nI K, S, V, sw, od, L, ls) (nI kind) := by
  refine hy_find R hnS hk1 hk (fun ls' w => h0 ls' (fun y => ?_)) (fun ls' c hF hl => h1 ls' ⟨hC, c, hF.1, hF.2.1⟩ (fun c' hF' => ?_))
  · obtain ⟨c, hc, z⟩ := y.2
    exact w c hc z
  · rw [← hj_Fu hF hF']
    exact hl
theorem hy_ordered {post : Int32 → SY → Prop} (R : hj_R P K S V It gr vr sw od L q l) (hnS : n = hj_cn S P) (h0 : ∀ ls', ¬ hj_J P K S V gr vr q n 1 → post 0 (nI P, nI K, S, V, sw, od, L, ls')) (h1 : ∀ ls', hj_J P K S V gr vr q n 1 → post 1 (nI P, nI K, S, V, sw, od, L, ls')) : wpY_ordered post (nI P, nI K, S, V, sw, od, L, ls) := by
  exact hy_fJ R hnS (kind := 1) (by decide) (by decide) (Or.inl rfl) (fun ls' w => ⟨rfl, h0 ls' w⟩) (fun ls' w _ => ⟨rfl, h1 ls' w⟩)
theorem hy_sourced {post : Int32 → SY → Prop} (R : hj_R P K S V It gr vr sw od L q l) (hnS : n = hj_cn S P) (h0 : ∀ ls', ¬ hj_J P K S V gr vr q n 2 → post 0 (nI P, nI K, S, V, sw, od, L, ls')) (h1 : ∀ ls', hj_J P K S V gr vr q n 2 → post 1 (nI P, nI K, S, V, sw, od, L, ls')) : wpY_sourced post (nI P, nI K, S, V, sw, od, L, ls) := by
  refine hy_clean R (hj_br (fun hq => h0 ls (fun w => ?_)) (fun hq => hy_fJ R hnS (kind := 2) (by decide) (by decide) (Or.inr hq) (fun ls' w => br_t rfl (h0 ls' w)) (fun ls' w _ => br_f (by decide) (h1 ls' w))))
  rcases w.1 with w | w
  · exact absurd w (by decide)
  · exact hq w
theorem hy_snapshot {post : Int32 → SY → Prop} (R : hj_R P K S V It gr vr sw od L q l) (hnS : n = hj_cn S P) (h0 : ∀ ls', ¬ hj_J P K S V gr vr q n 3 → post 0 (nI P, nI K, S, V, sw, od, L, ls')) (h1 : ∀ ls', hj_J P K S V gr vr q n 3 → post 1 (nI P, nI K, S, V, sw, od, L, ls')) : wpY_snapshot post (nI P, nI K, S, V, sw, od, L, ls) := by
  refine hy_clean R (hj_br (fun hq => h0 ls (fun w => ?_)) (fun hq => hy_fJ R hnS (kind := 3) (by decide) (by decide) (Or.inr hq) (fun ls' w => br_t rfl (h0 ls' w)) (fun ls' w _ => br_f (by decide) (h1 ls' w))))
  rcases w.1 with w | w
  · exact absurd w (by decide)
  · exact hq w
theorem hy_serial {post : Int32 → SY → Prop} (R : hj_R P K S V It gr vr sw od L q l) (hnS : n = hj_cn S P) (h0 : ∀ ls', ¬ hj_J P K S V gr vr q n 4 → post 0 (nI P, nI K, S, V, sw, od, L, ls')) (h1 : ∀ ls', hj_J P K S V gr vr q n 4 → (∀ c, hj_F P K S V gr vr q n 4 c → hj_LS ls' (hj_m c n) n) → post 1 (nI P, nI K, S, V, sw, od, L, ls')) : wpY_serial post (nI P, nI K, S, V, sw, od, L, ls) := by
  refine hy_clean R (hj_br (fun hq => h0 ls (fun w => ?_)) (fun hq => hy_fJ R hnS (kind := 4) (by decide) (by decide) (Or.inr hq) (fun ls' w => br_t rfl (h0 ls' w)) (fun ls' w w2 => br_f (by decide) (h1 ls' w w2))))
  rcases w.1 with w | w
  · exact absurd w (by decide)
  · exact hq w
theorem hj_J0 (R : hj_R P K S V It gr vr sw od L q l) (hnS : n = hj_cn S P) : hj_J P K S V gr vr q n 0 ↔ hj_CX P K S V vr := by
  constructor
  · intro w
    rcases w.1 with w | w
    · exact absurd w (by decide)
    · exact w
  · intro w
    obtain ⟨c, hc, hv⟩ := hj_ex S
    rw [hj_cn4 R.1.2 R.2.2.1, ← hnS] at hc hv
    exact ⟨Or.inr w, c, hc, hv, Or.inl rfl, Or.inl (by decide), Or.inl (by decide), Or.inl (by decide)⟩
end

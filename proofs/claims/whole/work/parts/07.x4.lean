section
variable {P K : Nat} {S V It gr vr sw od L pl : Nat → Int32} {q l : Nat → Nat} {m : Nat → Nat} {n : Nat}
theorem hj_SnQ {P K : Nat} {S V gr vr pl : Nat → Int32} {m : Nat → Nat} {n : Nat} (hn : n ≤ 4) (hP : P ≤ 4) (hv : hj_Val S m n) (hp : hj_PL pl m n) (hm : ∀ a, m a < 4) (hS : ∀ i, i < 4 → P ≤ i → S i = 0) : (∀ b, b < n → hj_Q P K V gr vr pl m (m b) b) ↔ hj_Sn P K V gr vr m n := by
  constructor
  · intro h b hb
    obtain ⟨g, hg, h1, h2⟩ := h b hb
    exact ⟨g, by omega, h2, (hj_SRY hn hP hv hp hm hS hb (by omega)).mp h1⟩
  · intro h b hb
    obtain ⟨g, hg, h2, h1⟩ := h b hb
    exact ⟨g, by omega, (hj_SRY hn hP hv hp hm hS hb (by omega)).mpr h1, h2⟩
theorem hx_112 {post : Int32 → SX → Prop} {J : Int32 → Int32 → Int32 → (Nat → Int32) → (Nat → Int32) → (Nat → Int32) → (Nat → Int32) → (Nat → Int32) → (Nat → Int32) → (Nat → Int32) → Prop} (R : hj_R P K S V It gr vr sw od L q l) (hn : n ≤ 4) (hv : hj_Val S m n) (hp : hj_PL pl m n) (hm : ∀ a, m a < 4) {kind c : Nat} {x2 x3 : Int32} (hk : kind ≤ 4) (h0 : ¬ (kind ≠ 4 ∨ hj_Rd P K V gr vr m n) → J (nI (c + 1)) (nI P) (nI K) S V It L gr vr pl) (h1 : (kind ≠ 4 ∨ hj_Rd P K V gr vr m n) → post (nI c) (nI P, nI K, S, V, It, L, gr, vr, pl)) : wX_firstList_112 post J (nI kind) x2 x3 (nI c) 1 (nI P) (nI K) S V It L gr vr pl := by
  have hE := hj_each (hj_RF P K V gr vr m) hn R.1.2 hv hp hm R.2.2.1
  refine br_f (by decide) (pk_eq kind 4 (fun e => hx_keepsReads R hn hv hp hm (hj_br (fun hq => br_t rfl (nm_r (nI_1 c) (h0 (fun w => ?_)))) (fun hq => br_f (by decide) (h1 (Or.inr (hE.mp hq)))))) (fun e => br_f (by decide) (h1 (Or.inl e))))
  rcases w with w | w
  · exact w e
  · exact hq (hE.mpr w)
theorem hx_88 {post : Int32 → SX → Prop} {J : Int32 → Int32 → Int32 → (Nat → Int32) → (Nat → Int32) → (Nat → Int32) → (Nat → Int32) → (Nat → Int32) → (Nat → Int32) → (Nat → Int32) → Prop} (R : hj_R P K S V It gr vr sw od L q l) (hn : n ≤ 4) (hv : hj_Val S m n) (hp : hj_PL pl m n) (hm : ∀ a, m a < 4) {kind c : Nat} {x2 x3 : Int32} (hk : kind ≤ 4) (h0 : ¬ ((kind ≠ 3 ∨ hj_Sn P K V gr vr m n) ∧ (kind ≠ 4 ∨ hj_Rd P K V gr vr m n)) → J (nI (c + 1)) (nI P) (nI K) S V It L gr vr pl) (h1 : (kind ≠ 3 ∨ hj_Sn P K V gr vr m n) → (kind ≠ 4 ∨ hj_Rd P K V gr vr m n) → post (nI c) (nI P, nI K, S, V, It, L, gr, vr, pl)) : wX_firstList_88 post J (nI kind) x2 x3 (nI c) 1 (nI P) (nI K) S V It L gr vr pl := by
  have hE := (hj_each (hj_Q P K V gr vr pl m) hn R.1.2 hv hp hm R.2.2.1).trans (hj_SnQ hn R.1.2 hv hp hm R.2.2.1)
  have go : (kind ≠ 3 ∨ hj_Sn P K V gr vr m n) → wX_firstList_112 post J (nI kind) x2 x3 (nI c) 1 (nI P) (nI K) S V It L gr vr pl := fun g => hx_112 R hn hv hp hm hk (fun w => h0 (fun y => w y.2)) (h1 g)
  refine br_f (by decide) (pk_eq kind 3 (fun e => hx_keepsSnapshots R hn hv hp hm (hj_br (fun hq => br_t rfl (br_t rfl (nm_r (nI_1 c) (h0 (fun w => ?_))))) (fun hq => go (Or.inr (hE.mp hq))))) (fun e => go (Or.inl e)))
  rcases w.1 with w | w
  · exact w e
  · exact hq (hE.mpr w)
theorem hx_64 {post : Int32 → SX → Prop} {J : Int32 → Int32 → Int32 → (Nat → Int32) → (Nat → Int32) → (Nat → Int32) → (Nat → Int32) → (Nat → Int32) → (Nat → Int32) → (Nat → Int32) → Prop} (R : hj_R P K S V It gr vr sw od L q l) (hn : n ≤ 4) (hv : hj_Val S m n) (hp : hj_PL pl m n) (hm : ∀ a, m a < 4) {kind c : Nat} {x2 x3 : Int32} (hk : kind ≤ 4) (h0 : ¬ ((kind ≠ 2 ∨ hj_Src K vr m n) ∧ (kind ≠ 3 ∨ hj_Sn P K V gr vr m n) ∧ (kind ≠ 4 ∨ hj_Rd P K V gr vr m n)) → J (nI (c + 1)) (nI P) (nI K) S V It L gr vr pl) (h1 : (kind ≠ 2 ∨ hj_Src K vr m n) ∧ (kind ≠ 3 ∨ hj_Sn P K V gr vr m n) ∧ (kind ≠ 4 ∨ hj_Rd P K V gr vr m n) → post (nI c) (nI P, nI K, S, V, It, L, gr, vr, pl)) : wX_firstList_64 post J (nI kind) x2 x3 (nI c) 1 (nI P) (nI K) S V It L gr vr pl := by
  have hE := hj_pairs (fun i j => ¬ ∃ x, x < K ∧ hj_rk vr i x j) hn R.1.2 hv hp hm R.2.2.1
  have go : (kind ≠ 2 ∨ hj_Src K vr m n) → wX_firstList_88 post J (nI kind) x2 x3 (nI c) 1 (nI P) (nI K) S V It L gr vr pl := fun g => hx_88 R hn hv hp hm hk (fun w => h0 (fun y => w y.2)) (fun a b => h1 ⟨g, a, b⟩)
  refine br_f (by decide) (pk_eq kind 2 (fun e => hx_keepsSources R (hj_br (fun hq => br_t rfl (br_t rfl (br_t rfl (nm_r (nI_1 c) (h0 (fun w => ?_)))))) (fun hq => go (Or.inr (hE.mp hq))))) (fun e => go (Or.inl e)))
  rcases w.1 with w | w
  · exact w e
  · exact hq (hE.mpr w)
theorem hx_fl28 {post : Int32 → SX → Prop} (R : hj_R P K S V It gr vr sw od L q l) (hn : n ≤ 4) {kind : Nat} (hk : kind ≤ 4) (h0 : ∀ pl', (∀ c, c < 2 ^ (2 * n) → ¬ hj_Kp P K S V gr vr q n kind (hj_m c n)) → post (-1) (nI P, nI K, S, V, It, L, gr, vr, pl')) (h1 : ∀ pl' c, c < 2 ^ (2 * n) → hj_Kp P K S V gr vr q n kind (hj_m c n) → (∀ c', c' < c → ¬ hj_Kp P K S V gr vr q n kind (hj_m c' n)) → post (nI c) (nI P, nI K, S, V, It, L, gr, vr, pl')) : ∃ n28, wX_firstList_28 post (nI kind) (nI n) (nI (2 ^ (2 * n))) n28 0 (nI P) (nI K) S V It L gr vr pl := by
  have h8 := hj_p8 hn
  refine loop_0 (fun n' c (s : Nat → Int32) => wX_firstList_28 post (nI kind) (nI n) (nI (2 ^ (2 * n))) n' (nI c) (nI P) (nI K) S V It L gr vr s) (fun c _ => ∀ c', c' < c → ¬ hj_Kp P K S V gr vr q n kind (hj_m c' n)) (2 ^ (2 * n)) pl lt_0 ?_ ?_
  · intro n' s I
    exact br_t (nI_le (Nat.le_refl _) (by omega)) (h0 s I)
  · intro n' c s hc I next
    refine br_f (nI_ge hc (by omega)) (hx_takesPlaces (by omega) hn (fun pl' hv => ?_) (fun pl' hv hp => ?_))
    · exact br_t rfl (br_t rfl (br_t rfl (br_t rfl (br_t rfl (nm_r (nI_1 c) (next pl' (lt_s I (fun w => hv w.1))))))))
    · have hE := (hj_pairs (hj_RkX K V q) hn R.1.2 hv hp (hj_m4 c n) R.2.2.1).trans (hj_RkXY R hv (hj_m4 c n))
      have go : (kind = 0 ∨ hj_Rk K V q (hj_m c n) n) → wX_firstList_64 post (wX_firstList_28 post (nI kind) (nI n) (nI (2 ^ (2 * n))) n') (nI kind) (nI n) (nI (2 ^ (2 * n))) (nI c) 1 (nI P) (nI K) S V It L gr vr pl' := fun g => hx_64 R hn hv hp (hj_m4 c n) hk (fun w => next pl' (lt_s I (fun y => w y.2.2))) (fun w => h1 pl' c hc ⟨hv, g, w⟩ I)
      refine br_f (by decide) (pk_eq kind 0 (fun e => go (Or.inl e)) (fun e => hx_keepsRankings R (hj_br (fun hq => br_t rfl (br_t rfl (br_t rfl (br_t rfl (nm_r (nI_1 c) (next pl' (lt_s I (fun w => ?_)))))))) (fun hq => go (Or.inr (hE.mp hq))))))
      rcases w.2.1 with w | w
      · exact e w
      · exact hq (hE.mpr w)
theorem hx_firstList {post : Int32 → SX → Prop} (R : hj_R P K S V It gr vr sw od L q l) (hnS : n = hj_cn S P) {kind : Nat} (hk : kind ≤ 4) (h0 : ∀ pl', ((kind ≠ 1 ∧ ¬ hj_CX P K S V vr) ∨ ∀ c, c < 2 ^ (2 * n) → ¬ hj_Kp P K S V gr vr q n kind (hj_m c n)) → post (-1) (nI P, nI K, S, V, It, L, gr, vr, pl')) (h1 : ∀ pl' c, c < 2 ^ (2 * n) → (kind = 1 ∨ hj_CX P K S V vr) → hj_Kp P K S V gr vr q n kind (hj_m c n) → (∀ c', c' < c → ¬ hj_Kp P K S V gr vr q n kind (hj_m c' n)) → post (nI c) (nI P, nI K, S, V, It, L, gr, vr, pl')) : wpX_firstList post (nI P, nI K, S, V, It, L, gr, vr, pl) (nI kind) := by
  have hn : n ≤ 4 := by
    have := hj_cn_le S P
    have := R.1.2
    omega
  have go : (kind = 1 ∨ hj_CX P K S V vr) → wX_firstList_14 post (nI kind) (nI P) (nI K) S V It L gr vr pl := by
    intro g
    refine hx_committedCount R ?_
    rw [← hnS]
    exact nm_r (hj_shc hn) (hx_fl28 R hn hk (fun pl' w => h0 pl' (Or.inr w)) (fun pl' c hc w1 w2 => h1 pl' c hc g w1 w2))
  exact pk_eq kind 1 (fun e => go (Or.inl e)) (fun e => hx_isClean R (hj_br (fun hq => h0 pl (Or.inl ⟨e, hq⟩)) (fun hq => go (Or.inr hq))))
end

/-! ===== who wrote, the last writer ===== -/
def hj_W (V : Nat → Int32) (i x : Nat) : Prop := ¬ V (i * 4 + x) ≤ 0
noncomputable def hj_lw (V : Nat → Int32) (m : Nat → Nat) (x : Nat) : Nat → Int32
  | 0 => -1
  | g + 1 => @ite Int32 (hj_W V (m g) x) (Classical.propDecidable _) (nI (m g)) (hj_lw V m x g)
theorem hj_lwT {V : Nat → Int32} {m : Nat → Nat} {x g : Nat} (h : hj_W V (m g) x) : hj_lw V m x (g + 1) = nI (m g) := @if_pos _ (Classical.propDecidable _) h Int32 _ _
theorem hj_lwF {V : Nat → Int32} {m : Nat → Nat} {x g : Nat} (h : ¬ hj_W V (m g) x) : hj_lw V m x (g + 1) = hj_lw V m x g := @if_neg _ (Classical.propDecidable _) h Int32 _ _
theorem hj_lw_v (V : Nat → Int32) (m : Nat → Nat) (x g : Nat) : hj_lw V m x g = -1 ∨ ∃ a, a < g ∧ hj_lw V m x g = nI (m a) := by
  induction g with
  | zero => exact Or.inl rfl
  | succ g ih =>
    by_cases h : hj_W V (m g) x
    · exact Or.inr ⟨g, by omega, hj_lwT h⟩
    · rw [hj_lwF h]
      rcases ih with e | ⟨a, ha, e⟩
      · exact Or.inl e
      · exact Or.inr ⟨a, by omega, e⟩
theorem hj_lw0 {V : Nat → Int32} {m : Nat → Nat} {x : Nat} : ∀ g, (∀ a, a < g → ¬ hj_W V (m a) x) → hj_lw V m x g = -1 := by
  intro g
  induction g with
  | zero => intro _; rfl
  | succ g ih =>
    intro h
    rw [hj_lwF (h g (by omega))]
    exact ih (fun a ha => h a (by omega))
theorem hj_lw1 {V : Nat → Int32} {m : Nat → Nat} {x a : Nat} (ha : hj_W V (m a) x) : ∀ g, a < g → (∀ b, a < b → b < g → ¬ hj_W V (m b) x) → hj_lw V m x g = nI (m a) := by
  intro g
  induction g with
  | zero => intro h; omega
  | succ g ih =>
    intro h hb
    by_cases e : a = g
    · rw [e] at ha ⊢
      exact hj_lwT ha
    · rw [hj_lwF (hb g (by omega) (by omega))]
      exact ih (by omega) (fun b h1 h2 => hb b h1 (by omega))
/-- the search of the last writer over the transactions below J -/
def hj_LA (V : Nat → Int32) (m : Nat → Nat) (x g J : Nat) (w p : Int32) : Prop := (w = -1 ∧ p = -1 ∧ ∀ a, a < g → m a < J → ¬ hj_W V (m a) x) ∨ ∃ a, a < g ∧ m a < J ∧ w = nI (m a) ∧ p = nI a ∧ hj_W V (m a) x ∧ ∀ b, a < b → b < g → m b < J → ¬ hj_W V (m b) x
theorem hj_LA0 {V : Nat → Int32} {m : Nat → Nat} {x g : Nat} : hj_LA V m x g 0 (-1) (-1) := Or.inl ⟨rfl, rfl, fun _ _ h => absurd h (Nat.not_lt_zero _)⟩
theorem hj_LAe {V : Nat → Int32} {m : Nat → Nat} {x g P : Nat} {w p : Int32} (h : hj_LA V m x g P w p) (hP : ∀ a, a < g → m a < P) : w = hj_lw V m x g := by
  rcases h with ⟨e, _, h⟩ | ⟨a, ha, _, e, _, hw, h⟩
  · rw [e, hj_lw0 g (fun a ha => h a ha (hP a ha))]
  · rw [e, hj_lw1 hw g ha (fun b h1 h2 => h b h1 h2 (hP b h2))]
theorem hj_LAt {S V pl : Nat → Int32} {m : Nat → Nat} {x g n J : Nat} {w p : Int32} (hg : g ≤ n) (hn : n ≤ 4) (hJ : J < 4) (hv : hj_Val S m n) (hp : hj_PL pl m n) (h : hj_LA V m x g J w p) (hw : hj_W V J x) (h1 : p < pl J) (h2 : pl J < nI g) : hj_LA V m x g (J + 1) (nI J) (pl J) := by
  rcases hp J hJ with ⟨a, ha, e, hpa⟩ | ⟨z, _⟩
  · rw [hpa, nI_ltI (by omega) (by omega)] at h2
    refine Or.inr ⟨a, h2, by omega, by rw [e], hpa, by rw [e]; exact hw, fun b hb hbg hbJ => ?_⟩
    have hne : m b ≠ J := fun z => by
      have := hj_inj hv (a := b) (b := a) (by omega) ha (z.trans e.symm)
      omega
    rcases h with ⟨_, _, h⟩ | ⟨c, hc, _, _, ep, _, h⟩
    · exact h b hbg (by omega)
    · rw [ep, hpa, nI_ltI (by omega) (by omega)] at h1
      exact h b (by omega) hbg (by omega)
  · rw [z] at h1
    rcases h with ⟨_, e, _⟩ | ⟨c, hc, _, _, ep, _, h⟩
    · rw [e] at h1
      exact absurd h1 (by decide)
    · rw [ep] at h1
      exact absurd h1 (hj_nlt1 (by omega))
theorem hj_LAf {S V pl : Nat → Int32} {m : Nat → Nat} {x g n J : Nat} {w p : Int32} (hg : g ≤ n) (hn : n ≤ 4) (hJ : J < 4) (hv : hj_Val S m n) (hp : hj_PL pl m n) (hm : ∀ a, m a < 4) (h : hj_LA V m x g J w p) (hno : hj_W V J x → p < pl J → pl J < nI g → False) : hj_LA V m x g (J + 1) w p := by
  rcases h with ⟨ew, ep, h⟩ | ⟨a, ha, haJ, ew, ep, hw, h⟩
  · refine Or.inl ⟨ew, ep, fun b hb hbJ => ?_⟩
    rcases Nat.lt_or_ge (m b) J with y | y
    · exact h b hb y
    · have e : m b = J := by omega
      intro hw
      have hpb := hj_at hv hp hm (a := b) (by omega)
      rw [e] at hw hpb
      refine hno hw ?_ ?_
      · rw [ep, hpb]
        exact hj_m1lt (by omega)
      · rw [hpb]
        exact nI_lt hb (by omega)
  · refine Or.inr ⟨a, ha, by omega, ew, ep, hw, fun b hab hb hbJ => ?_⟩
    rcases Nat.lt_or_ge (m b) J with y | y
    · exact h b hab hb y
    · have e : m b = J := by omega
      intro hw
      have hpb := hj_at hv hp hm (a := b) (by omega)
      rw [e] at hw hpb
      refine hno hw ?_ ?_
      · rw [ep, hpb]
        exact nI_lt hab (by omega)
      · rw [hpb]
        exact nI_lt hb (by omega)

/-! ===== the reads ===== -/
def hj_rk (vr : Nat → Int32) (i x j : Nat) : Prop := ¬ vr ((i * 4 + x) * 8 + 2 * j) = 0 ∨ ¬ vr ((i * 4 + x) * 8 + (2 * j + 1)) = 0
/-- the reads by i of x fit the writer w -/
def hj_RX (P : Nat) (gr vr : Nat → Int32) (i x : Nat) (w : Int32) : Prop := (gr (i * 4 + x) = 0 ∨ w = -1) ∧ ∀ j, j < P → nI j = w ∨ ¬ hj_rk vr i x j
def hj_RY (saw : Nat → Int32) (i x : Nat) (w : Int32) : Prop := ∀ k, k < 9 → saw ((i * 4 + x) * 9 + k) = 0 ∨ (w < 0 ∧ k = 0) ∨ (¬ w < 0 ∧ (nI k = 2 * w + 1 ∨ nI k = 2 * w + 2))
theorem hj_2w (j : Nat) : 2 * nI j + 1 = nI (2 * j + 1) ∧ 2 * nI j + 2 = nI (2 * j + 2) := by
  have e : (2 : Int32) * nI j = nI (2 * j) := pk_mul 2 j
  have e2 : nI (2 * j) + 2 = nI (2 * j + 2) := nI_add (2 * j) 2
  exact ⟨by rw [e, nI_1], by rw [e, e2]⟩
theorem hj_RYX {P : Nat} {gr vr saw : Nat → Int32} (hg : ∀ c, c < 16 → saw (c * 9) = gr c) (hs : ∀ c, c < 16 → ∀ d, d < 8 → saw (c * 9 + (d + 1)) = vr (c * 8 + d)) (hP : P ≤ 4) {i x : Nat} (hi : i < 4) (hx : x < 4) (hz : ∀ d, d < 8 → P ≤ d / 2 → vr ((i * 4 + x) * 8 + d) = 0) {w : Int32} (hw : w = -1 ∨ ∃ j, j < P ∧ w = nI j) : hj_RY saw i x w ↔ hj_RX P gr vr i x w := by
  have hc : i * 4 + x < 16 := by omega
  have h0 := hg _ hc
  have hk := hs _ hc
  unfold hj_RY hj_RX hj_rk
  generalize i * 4 + x = c at *
  rcases hw with e | ⟨j0, hj0, e⟩
  · subst e
    constructor
    · intro h
      refine ⟨Or.inr rfl, fun j hj => Or.inr ?_⟩
      have a := h (2 * j + 1) (by omega)
      have b := h (2 * j + 1 + 1) (by omega)
      rw [hk (2 * j) (by omega)] at a
      rw [hk (2 * j + 1) (by omega)] at b
      rcases a with a | ⟨_, a⟩ | ⟨a, _⟩
      · rcases b with b | ⟨_, b⟩ | ⟨b, _⟩
        · intro z
          rcases z with z | z
          · exact z a
          · exact z b
        · omega
        · exact absurd hj_m1n0 b
      · omega
      · exact absurd hj_m1n0 a
    · intro h k hk9
      match k, hk9 with
      | 0, _ => exact Or.inr (Or.inl ⟨hj_m1n0, rfl⟩)
      | d + 1, hd =>
        refine Or.inl ?_
        rw [hk d (by omega)]
        rcases Nat.lt_or_ge (d / 2) P with y | y
        · rcases h.2 (d / 2) y with z | z
          · exact absurd z (hj_nm1 (by omega))
          · rcases (by omega : d = 2 * (d / 2) ∨ d = 2 * (d / 2) + 1) with q | q
            · rw [q]
              exact Classical.not_not.mp (fun t => z (Or.inl t))
            · rw [q]
              exact Classical.not_not.mp (fun t => z (Or.inr t))
        · exact hz d (by omega) y
  · subst e
    have hn0 : ¬ nI j0 < 0 := nI_pos (by omega)
    have hne : ¬ nI j0 = -1 := hj_nm1 (by omega)
    constructor
    · intro h
      refine ⟨Or.inl ?_, fun j hj => ?_⟩
      · have a := h 0 (by omega)
        rw [Nat.add_zero, h0] at a
        rcases a with a | ⟨a, _⟩ | ⟨_, a⟩
        · exact a
        · exact absurd a hn0
        · rw [(hj_2w j0).1, (hj_2w j0).2, nI_eq (by omega) (by omega), nI_eq (by omega) (by omega)] at a
          omega
      · by_cases q : j = j0
        · exact Or.inl (by rw [q])
        · refine Or.inr ?_
          have a := h (2 * j + 1) (by omega)
          have b := h (2 * j + 1 + 1) (by omega)
          rw [hk (2 * j) (by omega)] at a
          rw [hk (2 * j + 1) (by omega)] at b
          rw [(hj_2w j0).1, (hj_2w j0).2, nI_eq (by omega) (by omega), nI_eq (by omega) (by omega)] at a b
          rcases a with a | ⟨a, _⟩ | ⟨_, a⟩
          · rcases b with b | ⟨b, _⟩ | ⟨_, b⟩
            · intro z
              rcases z with z | z
              · exact z a
              · exact z b
            · exact absurd b hn0
            · omega
          · exact absurd a hn0
          · omega
    · intro h k hk9
      match k, hk9 with
      | 0, _ =>
        refine Or.inl ?_
        rw [Nat.add_zero, h0]
        rcases h.1 with a | a
        · exact a
        · exact absurd a hne
      | d + 1, hd =>
        rw [(hj_2w j0).1, (hj_2w j0).2, nI_eq (by omega) (by omega), nI_eq (by omega) (by omega), hk d (by omega)]
        rcases Nat.lt_or_ge (d / 2) P with y | y
        · rcases h.2 (d / 2) y with z | z
          · rw [nI_eq (by omega) (by omega)] at z
            exact Or.inr (Or.inr ⟨hn0, by omega⟩)
          · refine Or.inl ?_
            rcases (by omega : d = 2 * (d / 2) ∨ d = 2 * (d / 2) + 1) with q | q
            · rw [q]
              exact Classical.not_not.mp (fun t => z (Or.inl t))
            · rw [q]
              exact Classical.not_not.mp (fun t => z (Or.inr t))
        · exact Or.inl (hz d (by omega) y)

/-! ===== clean ===== -/
def hj_CX (P K : Nat) (S V vr : Nat → Int32) : Prop := ∀ i, i < P → ∀ j, j < P → S i = 1 → ∀ x, x < K → ∀ v, v < 2 → vr ((i * 4 + x) * 8 + (2 * j + v)) = 0 ∨ (S j = 1 ∧ V (j * 4 + x) = nI (v + 1))
def hj_CY (S V saw : Nat → Int32) : Prop := ∀ c, c < 16 → ∀ j, j < 4 → S (c / 4) = 1 → (saw (c * 9 + 2 * j + 1) = 0 ∧ saw (c * 9 + 2 * j + 2) = 0) ∨ (S j = 1 ∧ (saw (c * 9 + 2 * j + 1) = 0 ∨ V (j * 4 + c % 4) = 1) ∧ (saw (c * 9 + 2 * j + 2) = 0 ∨ V (j * 4 + c % 4) = 2))
theorem hj_CXY {P K : Nat} {S V vr saw : Nat → Int32} (hP : P ≤ 4) (hK : K ≤ 4) (hS : ∀ i, i < 4 → P ≤ i → S i = 0) (hs : ∀ c, c < 16 → ∀ d, d < 8 → saw (c * 9 + (d + 1)) = vr (c * 8 + d)) (hz : ∀ i, i < 4 → ∀ x, x < 4 → ∀ d, d < 8 → (K ≤ x ∨ P ≤ d / 2) → vr ((i * 4 + x) * 8 + d) = 0) : hj_CY S V saw ↔ hj_CX P K S V vr := by
  have s1 : ∀ c, c < 16 → ∀ j, j < 4 → saw (c * 9 + 2 * j + 1) = vr (c * 8 + (2 * j + 0)) := fun c hc j hj => by
    rw [← hs c hc (2 * j + 0) (by omega)]
    exact congrArg saw (by omega)
  have s2 : ∀ c, c < 16 → ∀ j, j < 4 → saw (c * 9 + 2 * j + 2) = vr (c * 8 + (2 * j + 1)) := fun c hc j hj => by
    rw [← hs c hc (2 * j + 1) (by omega)]
    exact congrArg saw (by omega)
  constructor
  · intro h i hi j hj hSi x hx v hv
    have hc : i * 4 + x < 16 := by omega
    have hd : (i * 4 + x) / 4 = i := by omega
    have hm : (i * 4 + x) % 4 = x := by omega
    have a := h (i * 4 + x) hc j (by omega)
    rw [hd, hm, s1 _ hc j (by omega), s2 _ hc j (by omega)] at a
    rcases (by omega : v = 0 ∨ v = 1) with e | e <;> subst e
    · rcases a hSi with ⟨a, _⟩ | ⟨a, b, _⟩
      · exact Or.inl a
      · rcases b with b | b
        · exact Or.inl b
        · exact Or.inr ⟨a, b⟩
    · rcases a hSi with ⟨_, a⟩ | ⟨a, _, b⟩
      · exact Or.inl a
      · rcases b with b | b
        · exact Or.inl b
        · exact Or.inr ⟨a, b⟩
  · intro h c hc j hj hSi
    have ec : c = (c / 4) * 4 + c % 4 := by omega
    rw [s1 c hc j hj, s2 c hc j hj]
    have hP' : c / 4 < P := by
      rcases Nat.lt_or_ge (c / 4) P with y | y
      · exact y
      · rw [hS _ (by omega) y] at hSi
        exact absurd hSi (by decide)
    by_cases hx : c % 4 < K ∧ j < P
    · have a := h (c / 4) hP' j hx.2 hSi (c % 4) hx.1 0 (by omega)
      have b := h (c / 4) hP' j hx.2 hSi (c % 4) hx.1 1 (by omega)
      rw [← ec] at a b
      rcases a with a | ⟨a1, a2⟩
      · rcases b with b | ⟨b1, b2⟩
        · exact Or.inl ⟨a, b⟩
        · exact Or.inr ⟨b1, Or.inl a, Or.inr b2⟩
      · rcases b with b | ⟨b1, b2⟩
        · exact Or.inr ⟨a1, Or.inr a2, Or.inl b⟩
        · exact Or.inr ⟨a1, Or.inr a2, Or.inr b2⟩
    · have a := hz (c / 4) (by omega) (c % 4) (by omega) (2 * j + 0) (by omega) (by omega)
      have b := hz (c / 4) (by omega) (c % 4) (by omega) (2 * j + 1) (by omega) (by omega)
      rw [← ec] at a b
      exact Or.inl ⟨a, b⟩

/-! ===== ranks ===== -/
def hj_rn (q : Nat → Nat) (x i : Nat) : Nat := if q (i * 4 + x) = 0 then 4 + i else q (i * 4 + x) - 1

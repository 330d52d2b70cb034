/-! ===== the relation, without the tuples ===== -/
def hj_R (P K : Nat) (S V inst gr vr saw ord L : Nat → Int32) (q l : Nat → Nat) : Prop :=
  (1 ≤ P ∧ P ≤ 4) ∧ (1 ≤ K ∧ K ≤ 4) ∧ (∀ i, i < 4 → P ≤ i → S i = 0) ∧ (∀ c, c < 16 → ∃ k, k ≤ 2 ∧ V c = nI k) ∧
  (∀ c, c < 16 → inst c = nI (q c)) ∧ (∀ x, x < 4 → L x = nI (l x)) ∧
  (∀ x, x < 4 → l x = min (q (0 * 4 + x)) 1 + min (q (1 * 4 + x)) 1 + min (q (2 * 4 + x)) 1 + min (q (3 * 4 + x)) 1) ∧
  (∀ x, x < 4 → ∀ i, i < 4 → q (i * 4 + x) ≤ l x) ∧
  (∀ x, x < 4 → ∀ k, k < l x → ∀ i, i < 4 → (ord (x * 4 + k) = nI i ↔ q (i * 4 + x) = k + 1)) ∧
  (∀ c, c < 16 → saw (c * 9) = gr c) ∧ (∀ c, c < 16 → ∀ d, d < 8 → saw (c * 9 + (d + 1)) = vr (c * 8 + d)) ∧
  (∀ i, i < 4 → ∀ x, x < 4 → ∀ d, d < 8 → (K ≤ x ∨ P ≤ d / 2) → vr ((i * 4 + x) * 8 + d) = 0)
theorem hj_R0 {P K : Nat} (h1 : 1 ≤ P) (h2 : P ≤ 4) (h3 : 1 ≤ K) (h4 : K ≤ 4) : hj_R P K (fun _ => 0) (fun _ => 0) (fun _ => 0) (fun _ => 0) (fun _ => 0) (fun _ => 0) (fun _ => 0) (fun _ => 0) (fun _ => 0) (fun _ => 0) :=
  ⟨⟨h1, h2⟩, ⟨h3, h4⟩, fun _ _ _ => rfl, fun _ _ => ⟨0, by omega, rfl⟩, fun _ _ => rfl, fun _ _ => rfl, fun _ _ => rfl, fun _ _ _ _ => Nat.le_refl 0, fun _ _ k hk => absurd hk (Nat.not_lt_zero k), fun _ _ => rfl, fun _ _ _ _ => rfl, fun _ _ _ _ _ _ _ => rfl⟩
theorem hj_RS {P K : Nat} {S V inst gr vr saw ord L : Nat → Int32} {q l : Nat → Nat} (h : hj_R P K S V inst gr vr saw ord L q l) {i : Nat} (hi : i < P) (v : Int32) : hj_R P K (upd S i v) V inst gr vr saw ord L q l := by
  obtain ⟨h1, h2, h3, h⟩ := h
  exact ⟨h1, h2, fun j hj hPj => by rw [pk_un (by omega)]; exact h3 j hj hPj, h⟩
theorem hj_RV {P K : Nat} {S V inst gr vr saw ord L : Nat → Int32} {q l : Nat → Nat} (h : hj_R P K S V inst gr vr saw ord L q l) {c k : Nat} (hk : k ≤ 2) : hj_R P K S (upd V c (nI k)) inst gr vr saw ord L q l := by
  obtain ⟨h1, h2, h3, h4, h⟩ := h
  refine ⟨h1, h2, h3, fun c' hc' => ?_, h⟩
  by_cases e : c' = c
  · rw [e]
    exact ⟨k, hk, pk_us⟩
  · rw [pk_un e]
    exact h4 c' hc'
theorem hj_Rg {P K : Nat} {S V inst gr vr saw ord L : Nat → Int32} {q l : Nat → Nat} (h : hj_R P K S V inst gr vr saw ord L q l) {c : Nat} (v : Int32) : hj_R P K S V inst (upd gr c v) vr (upd saw (c * 9) v) ord L q l := by
  obtain ⟨h1, h2, h3, h4, h5, h6, h7, h8, h9, h10, h11, h12⟩ := h
  refine ⟨h1, h2, h3, h4, h5, h6, h7, h8, h9, fun c' hc' => ?_, fun c' hc' d hd => ?_, h12⟩
  · by_cases e : c' = c
    · rw [e, pk_us, pk_us]
    · rw [pk_un e, pk_un (by omega)]
      exact h10 c' hc'
  · rw [pk_un (by omega)]
    exact h11 c' hc' d hd
theorem hj_Rv {P K : Nat} {S V inst gr vr saw ord L : Nat → Int32} {q l : Nat → Nat} (h : hj_R P K S V inst gr vr saw ord L q l) {i x d : Nat} (hi : i < 4) (hx : x < K) (hd : d < 8) (hdP : d / 2 < P) (v : Int32) : hj_R P K S V inst gr (upd vr ((i * 4 + x) * 8 + d) v) (upd saw ((i * 4 + x) * 9 + (d + 1)) v) ord L q l := by
  obtain ⟨h1, h2, h3, h4, h5, h6, h7, h8, h9, h10, h11, h12⟩ := h
  refine ⟨h1, h2, h3, h4, h5, h6, h7, h8, h9, fun c' hc' => ?_, fun c' hc' d' hd' => ?_, fun i' hi' x' hx' d' hd' hz => ?_⟩
  · rw [pk_un (by omega)]
    exact h10 c' hc'
  · by_cases e : c' = i * 4 + x ∧ d' = d
    · rw [e.1, e.2, pk_us, pk_us]
    · rw [pk_un (by omega), pk_un (by omega)]
      exact h11 c' hc' d' hd'
  · rw [pk_un (by omega)]
    exact h12 i' hi' x' hx' d' hd' hz
theorem hj_Ri {P K : Nat} {S V inst gr vr saw ord L : Nat → Int32} {q l : Nat → Nat} (h : hj_R P K S V inst gr vr saw ord L q l) {i x : Nat} (hi : i < 4) (hx : x < 4) (h0 : q (i * 4 + x) = 0) : hj_R P K S V (upd inst (i * 4 + x) (nI (l x + 1))) gr vr saw (upd ord (x * 4 + l x) (nI i)) (upd L x (nI (l x + 1))) (fun c => if c = i * 4 + x then l x + 1 else q c) (fun y => if y = x then l x + 1 else l y) := by
  obtain ⟨h1, h2, h3, h4, h5, h6, h7, h8, h9, h10, h11, h12⟩ := h
  have hl := h7 x hx
  have hl3 : l x ≤ 3 := by
    rcases (by omega : i = 0 ∨ i = 1 ∨ i = 2 ∨ i = 3) with e | e | e | e <;> subst e <;> omega
  refine ⟨h1, h2, h3, h4, fun c hc => ?_, fun y hy => ?_, fun y hy => ?_, fun y hy j hj => ?_, fun y hy k hk j hj => ?_, h10, h11, h12⟩
  · dsimp only
    by_cases e : c = i * 4 + x
    · rw [e, pk_us, if_pos rfl]
    · rw [pk_un e, if_neg e]
      exact h5 c hc
  · dsimp only
    by_cases e : y = x
    · rw [e, pk_us, if_pos rfl]
    · rw [pk_un e, if_neg e]
      exact h6 y hy
  · dsimp only
    by_cases e : y = x
    · subst e
      rw [if_pos rfl]
      rcases (by omega : i = 0 ∨ i = 1 ∨ i = 2 ∨ i = 3) with e | e | e | e <;> subst e
      · rw [if_pos rfl, if_neg (by omega), if_neg (by omega), if_neg (by omega)]; omega
      · rw [if_pos rfl, if_neg (by omega), if_neg (by omega), if_neg (by omega)]; omega
      · rw [if_pos rfl, if_neg (by omega), if_neg (by omega), if_neg (by omega)]; omega
      · rw [if_pos rfl, if_neg (by omega), if_neg (by omega), if_neg (by omega)]; omega
    · rw [if_neg e, if_neg (by omega), if_neg (by omega), if_neg (by omega), if_neg (by omega)]
      exact h7 y hy
  · dsimp only
    by_cases e : y = x
    · subst e
      rw [if_pos rfl]
      have := h8 y hy j hj
      split <;> omega
    · rw [if_neg e, if_neg (by omega)]
      exact h8 y hy j hj
  · dsimp only at hk ⊢
    by_cases e : y = x
    · subst e
      rw [if_pos rfl] at hk
      by_cases ek : k = l y
      · rw [ek, pk_us, nI_eq (by omega) (by omega)]
        have := h8 y hy j hj
        by_cases ej : j = i
        · rw [ej, if_pos rfl]
          exact ⟨fun _ => rfl, fun _ => rfl⟩
        · rw [if_neg (by omega)]
          exact ⟨fun z => by omega, fun z => by omega⟩
      · rw [pk_un (by omega), h9 y hy k (by omega) j hj]
        by_cases ej : j = i
        · rw [ej, if_pos rfl, h0]
          exact ⟨fun z => by omega, fun z => by omega⟩
        · rw [if_neg (by omega)]
    · rw [if_neg e] at hk
      have := h7 y hy
      rw [pk_un (by omega), if_neg (by omega)]
      exact h9 y hy k hk j hj
theorem hj_l4 {P K : Nat} {S V inst gr vr saw ord L : Nat → Int32} {q l : Nat → Nat} (h : hj_R P K S V inst gr vr saw ord L q l) {x : Nat} (hx : x < 4) : l x ≤ 4 := by
  obtain ⟨_, _, _, _, _, _, h7, _⟩ := h
  have := h7 x hx
  omega
theorem hj_l3 {P K : Nat} {S V inst gr vr saw ord L : Nat → Int32} {q l : Nat → Nat} (h : hj_R P K S V inst gr vr saw ord L q l) {x i : Nat} (hx : x < 4) (hi : i < 4) (h0 : q (i * 4 + x) = 0) : l x < 4 := by
  obtain ⟨_, _, _, _, _, _, h7, _⟩ := h
  have hl := h7 x hx
  rcases (by omega : i = 0 ∨ i = 1 ∨ i = 2 ∨ i = 3) with e | e | e | e <;> subst e <;> omega
theorem hj_rnl {P K : Nat} {S V inst gr vr saw ord L : Nat → Int32} {q l : Nat → Nat} (h : hj_R P K S V inst gr vr saw ord L q l) {x i : Nat} (hx : x < 4) (hi : i < 4) : hj_rn q x i < 8 := by
  have h4 := hj_l4 h hx
  obtain ⟨_, _, _, _, _, _, _, h8, _⟩ := h
  have := h8 x hx i hi
  unfold hj_rn
  split <;> omega
theorem hj_rni {P K : Nat} {S V inst gr vr saw ord L : Nat → Int32} {q l : Nat → Nat} (h : hj_R P K S V inst gr vr saw ord L q l) {x i j : Nat} (hx : x < 4) (hi : i < 4) (hj : j < 4) (e : hj_rn q x i = hj_rn q x j) : i = j := by
  have h4 := hj_l4 h hx
  obtain ⟨_, _, _, _, _, _, _, h8, h9, _⟩ := h
  have a := h8 x hx i hi
  have b := h8 x hx j hj
  unfold hj_rn at e
  by_cases zi : q (i * 4 + x) = 0
  · rw [if_pos zi] at e
    by_cases zj : q (j * 4 + x) = 0
    · rw [if_pos zj] at e
      omega
    · rw [if_neg zj] at e
      omega
  · rw [if_neg zi] at e
    by_cases zj : q (j * 4 + x) = 0
    · rw [if_pos zj] at e
      omega
    · rw [if_neg zj] at e
      have p := (h9 x hx (q (i * 4 + x) - 1) (by omega) i hi).mpr (by omega)
      have r := (h9 x hx (q (i * 4 + x) - 1) (by omega) j hj).mpr (by omega)
      rw [p, nI_eq (by omega) (by omega)] at r
      exact r

/-! ===== what a list keeps ===== -/
def hj_Rk (K : Nat) (V : Nat → Int32) (q : Nat → Nat) (m : Nat → Nat) (n : Nat) : Prop := ∀ x, x < K → ∀ b, b < n → ∀ a, a < b → hj_W V (m b) x → hj_W V (m a) x → hj_rn q x (m a) < hj_rn q x (m b)
def hj_RkX (K : Nat) (V : Nat → Int32) (q : Nat → Nat) (i j : Nat) : Prop := ∀ x, x < K → ¬ (hj_W V i x ∧ hj_W V j x ∧ hj_rn q x j < hj_rn q x i)
def hj_Src (K : Nat) (vr : Nat → Int32) (m : Nat → Nat) (n : Nat) : Prop := ∀ b, b < n → ∀ a, a < b → ¬ ∃ x, x < K ∧ hj_rk vr (m a) x (m b)
def hj_sawA (saw : Nat → Int32) (i j : Nat) : Prop := ∃ x, x < 4 ∧ (¬ saw ((i * 4 + x) * 9 + 2 * j + 1) = 0 ∨ ¬ saw ((i * 4 + x) * 9 + 2 * j + 2) = 0)
def hj_RF (P K : Nat) (V gr vr : Nat → Int32) (m : Nat → Nat) (i g : Nat) : Prop := ∀ x, x < K → hj_RX P gr vr i x (hj_lw V m x g)
def hj_Rd (P K : Nat) (V gr vr : Nat → Int32) (m : Nat → Nat) (n : Nat) : Prop := ∀ b, b < n → hj_RF P K V gr vr m (m b) b
def hj_sh (K : Nat) (V : Nat → Int32) (i j : Nat) : Prop := ∃ x, x < K ∧ hj_W V i x ∧ hj_W V j x
def hj_St (P K : Nat) (V gr vr : Nat → Int32) (m : Nat → Nat) (b g : Nat) : Prop := hj_RF P K V gr vr m (m b) g ∧ ∀ a, g ≤ a → a < b → ¬ hj_sh K V (m a) (m b)
def hj_Sn (P K : Nat) (V gr vr : Nat → Int32) (m : Nat → Nat) (n : Nat) : Prop := ∀ b, b < n → ∃ g, g ≤ b ∧ hj_St P K V gr vr m b g
/-- startsAfterRivals -/
def hj_SR (P K : Nat) (V pl : Nat → Int32) (i g : Nat) : Prop := ∀ j, j < P → ∀ x, x < K → ¬ (hj_W V i x ∧ hj_W V j x ∧ nI g ≤ pl j ∧ pl j < pl i)
theorem hj_RkXY {P K : Nat} {S V inst gr vr saw ord L : Nat → Int32} {q l : Nat → Nat} (h : hj_R P K S V inst gr vr saw ord L q l) {m : Nat → Nat} {n : Nat} (hv : hj_Val S m n) (hm : ∀ a, m a < 4) : (∀ b, b < n → ∀ a, a < b → hj_RkX K V q (m a) (m b)) ↔ hj_Rk K V q m n := by
  have hK := h.2.1.2
  constructor
  · intro H x hx b hb a ha wb wa
    have := H b hb a ha x hx
    rcases Nat.lt_trichotomy (hj_rn q x (m a)) (hj_rn q x (m b)) with z | z | z
    · exact z
    · exact absurd (hj_rni h (by omega) (hm a) (hm b) z) ((hv b hb).2 a ha)
    · exact absurd ⟨wa, wb, z⟩ this
  · intro H b hb a ha x hx ⟨wa, wb, z⟩
    have := H x hx b hb a ha wb wa
    omega
theorem hj_SrcY {P K : Nat} {S V inst gr vr saw ord L : Nat → Int32} {q l : Nat → Nat} (h : hj_R P K S V inst gr vr saw ord L q l) {i j : Nat} (hi : i < 4) (hj : j < 4) : hj_sawA saw i j ↔ ∃ x, x < K ∧ hj_rk vr i x j := by
  obtain ⟨_, h2, _, _, _, _, _, _, _, _, h11, h12⟩ := h
  have s1 : ∀ x, x < 4 → saw ((i * 4 + x) * 9 + 2 * j + 1) = vr ((i * 4 + x) * 8 + 2 * j) := fun x hx => by
    rw [← h11 (i * 4 + x) (by omega) (2 * j) (by omega)]
    exact congrArg saw (by omega)
  have s2 : ∀ x, x < 4 → saw ((i * 4 + x) * 9 + 2 * j + 2) = vr ((i * 4 + x) * 8 + (2 * j + 1)) := fun x hx => by
    rw [← h11 (i * 4 + x) (by omega) (2 * j + 1) (by omega)]
    exact congrArg saw (by omega)
  constructor
  · intro ⟨x, hx, z⟩
    rw [s1 x hx, s2 x hx] at z
    rcases Nat.lt_or_ge x K with y | y
    · exact ⟨x, y, z⟩
    · rcases z with z | z
      · exact absurd (h12 i hi x hx (2 * j) (by omega) (Or.inl y)) z
      · exact absurd (h12 i hi x hx (2 * j + 1) (by omega) (Or.inl y)) z
  · intro ⟨x, hx, z⟩
    refine ⟨x, by omega, ?_⟩
    rw [s1 x (by omega), s2 x (by omega)]
    exact z
theorem hj_RFY {P K : Nat} {S V inst gr vr saw ord L : Nat → Int32} {q l : Nat → Nat} (h : hj_R P K S V inst gr vr saw ord L q l) {m : Nat → Nat} {n : Nat} (hv : hj_Val S m n) (hm : ∀ a, m a < 4) {i g : Nat} (hi : i < 4) (hg : g ≤ n) : (∀ x, x < K → hj_RY saw i x (hj_lw V m x g)) ↔ hj_RF P K V gr vr m i g := by
  obtain ⟨h1, h2, h3, _, _, _, _, _, _, h10, h11, h12⟩ := h
  have key : ∀ x, x < K → (hj_RY saw i x (hj_lw V m x g) ↔ hj_RX P gr vr i x (hj_lw V m x g)) := fun x hx => by
    refine hj_RYX h10 h11 h1.2 hi (by omega) (fun d hd hPd => h12 i hi x (by omega) d hd (Or.inr hPd)) ?_
    rcases hj_lw_v V m x g with e | ⟨a, ha, e⟩
    · exact Or.inl e
    · exact Or.inr ⟨m a, hj_lo hv hm h3 (by omega), e⟩
  exact ⟨fun H x hx => (key x hx).mp (H x hx), fun H x hx => (key x hx).mpr (H x hx)⟩
theorem hj_SRY {P K : Nat} {S V pl : Nat → Int32} {m : Nat → Nat} {n b g : Nat} (hn : n ≤ 4) (hP : P ≤ 4) (hv : hj_Val S m n) (hp : hj_PL pl m n) (hm : ∀ a, m a < 4) (hS : ∀ i, i < 4 → P ≤ i → S i = 0) (hb : b < n) (hg : g ≤ b) : hj_SR P K V pl (m b) g ↔ ∀ a, g ≤ a → a < b → ¬ hj_sh K V (m a) (m b) := by
  have hpb := hj_at hv hp hm hb
  constructor
  · intro H a ga ab ⟨x, hx, wa, wb⟩
    have hpa := hj_at hv hp hm (a := a) (by omega)
    refine H (m a) (hj_lo hv hm hS (by omega)) x hx ⟨wb, wa, ?_, ?_⟩
    · rw [hpa]
      exact nI_le ga (by omega)
    · rw [hpa, hpb]
      exact nI_lt ab (by omega)
  · intro H j hj x hx ⟨wb, wj, c1, c2⟩
    rcases hp j (by omega) with ⟨a, ha, e, hpa⟩ | ⟨z, _⟩
    · rw [hpa, nI_leI (by omega) (by omega)] at c1
      rw [hpa, hpb, nI_ltI (by omega) (by omega)] at c2
      refine H a c1 c2 ⟨x, hx, ?_, wb⟩
      rw [e]
      exact wj
    · rw [z] at c1
      exact absurd c1 (hj_nle1 (by omega))
/-- the list is kept for the kind -/
def hj_Kp (P K : Nat) (S V gr vr : Nat → Int32) (q : Nat → Nat) (n kind : Nat) (m : Nat → Nat) : Prop := hj_Val S m n ∧ (kind = 0 ∨ hj_Rk K V q m n) ∧ (kind ≠ 2 ∨ hj_Src K vr m n) ∧ (kind ≠ 3 ∨ hj_Sn P K V gr vr m n) ∧ (kind ≠ 4 ∨ hj_Rd P K V gr vr m n)

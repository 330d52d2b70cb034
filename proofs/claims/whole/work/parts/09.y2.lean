section
variable {P K : Nat} {S V It gr vr sw od L ls : Nat → Int32} {q l : Nat → Nat} {m : Nat → Nat} {n : Nat}
def hj_LS (ls : Nat → Int32) (m : Nat → Nat) (n : Nat) : Prop := ∀ a, a < n → ls a = nI (m a)
theorem hy_lastOk {post : Int32 → Prop} (R : hj_R P K S V It gr vr sw od L q l) (hn : n ≤ 4) (hl : hj_LS ls m n) (hm : ∀ a, m a < 4) {x b : Nat} (hx : x < 4) (hb : b < n) (h : post (hj_b (∀ a, a < b → hj_W V (m b) x → hj_W V (m a) x → hj_rn q x (m a) < hj_rn q x (m b)))) : wpY_lastOk post (nI P, nI K, S, V, sw, od, L, ls) (nI x) (nI b) := by
  have cb : (nI b).toNatClampNeg = b := nI_clamp (by omega)
  have vb : vp_in (nI b) 4 := vp_in_nI (by omega) (by omega)
  have mb := hm b
  have c1 : (nI (m b * 4 + x)).toNatClampNeg = m b * 4 + x := nI_clamp (by omega)
  have v1 : vp_in (nI (m b * 4 + x)) 16 := vp_in_nI (by omega) (by omega)
  have rb := hj_rnl R hx mb
  unfold wpY_lastOk
  dsimp only
  rw [cb, hl b hb]
  refine ⟨vb, hy_rank R hx mb ?_⟩
  refine loop_0 (fun n' a (s : Int32) => wY_lastOk_18 post (nI x) (nI b) (nI (hj_rn q x (m b))) (nI P) (nI K) S V sw od L ls n' s (nI a)) (fun a s => s = hj_b (∀ y, y < a → hj_W V (m b) x → hj_W V (m y) x → hj_rn q x (m y) < hj_rn q x (m b))) b 1 hj_a00 ?_ ?_
  · intro n' s I
    subst I
    exact br_t (nI_le (Nat.le_refl _) (by omega)) ⟨hj_nb _, h⟩
  · intro n' a s ha I next
    have ca : (nI a).toNatClampNeg = a := nI_clamp (by omega)
    have va : vp_in (nI a) 4 := vp_in_nI (by omega) (by omega)
    have ma := hm a
    have c2 : (nI (m a * 4 + x)).toNatClampNeg = m a * 4 + x := nI_clamp (by omega)
    have v2 : vp_in (nI (m a * 4 + x)) 16 := vp_in_nI (by omega) (by omega)
    have ra := hj_rnl R hx ma
    show wY_lastOk_18 post (nI x) (nI b) (nI (hj_rn q x (m b))) (nI P) (nI K) S V sw od L ls (n' + 1) s (nI a)
    rw [wY_lastOk_18]
    dsimp only
    rw [cb, ca, hl b hb, hl a (by omega), hj_c4 (m b) x, hj_c4 (m a) x, c1, c2]
    refine br_f (nI_ge ha (by omega)) ⟨vb, v1, br_c (fun z => ?_) (fun z => ⟨va, v2, br_c (fun z2 => nm_r (nI_1 a) (next s ?_)) (fun z2 => ⟨va, hy_rank R hx ma ?_⟩)⟩)⟩
    · subst I
      have e : hj_b (∀ y, y < a → hj_W V (m b) x → hj_W V (m y) x → hj_rn q x (m y) < hj_rn q x (m b)) = hj_b (∀ y, y < b → hj_W V (m b) x → hj_W V (m y) x → hj_rn q x (m y) < hj_rn q x (m b)) := hj_bi ⟨fun _ y hy w => absurd z w, fun _ y hy w => absurd z w⟩
      refine ⟨hj_nb _, ?_⟩
      rw [e]
      exact h
    · rw [I]
      exact hj_bi ⟨fun w => lt_s w (fun _ y => absurd z2 y), fun w y hy => w y (by omega)⟩
    · subst I
      exact hj_br (fun hq => nm_r (nI_1 a) (next 0 (hj_a0 hq))) (fun hq => pk_le (hj_rn q x (m b)) (hj_rn q x (m a)) (fun y => nm_r (nI_1 a) (next 0 (hj_aF (fun w => absurd (w z z2) (by omega))))) (fun y => nm_r (nI_1 a) (next 1 (hj_aT hq (fun _ _ => y)))))
theorem hy_keepsRankings {post : Int32 → Prop} (R : hj_R P K S V It gr vr sw od L q l) (hn : n ≤ 4) (hl : hj_LS ls m n) (hm : ∀ a, m a < 4) (h : post (hj_b (hj_Rk K V q m n))) : wpY_keepsRankings post (nI P, nI K, S, V, sw, od, L, ls) (nI n) := by
  have hK := R.2.1.2
  refine loop_0 (fun n' x (s : Int32) => wY_keepsRankings_4 post (nI n) (nI P) (nI K) S V sw od L ls n' s (nI x)) (fun x s => s = hj_b (∀ y, y < x → ∀ b, b < n → ∀ a, a < b → hj_W V (m b) y → hj_W V (m a) y → hj_rn q y (m a) < hj_rn q y (m b))) K 1 hj_a00 ?_ ?_
  · intro n' s I
    subst I
    exact br_t (nI_le (Nat.le_refl _) (by omega)) ⟨hj_nb _, h⟩
  · intro n' x s hx I next
    subst I
    refine br_f (nI_ge hx (by omega)) ?_
    refine loop_0 (fun n2 b (s : Int32) => wY_keepsRankings_15 post (wY_keepsRankings_4 post (nI n) (nI P) (nI K) S V sw od L ls n') (nI n) (nI x) (nI P) (nI K) S V sw od L ls n2 s (nI b)) (fun b s => s = hj_b ((∀ y, y < x → ∀ b, b < n → ∀ a, a < b → hj_W V (m b) y → hj_W V (m a) y → hj_rn q y (m a) < hj_rn q y (m b)) ∧ ∀ b', b' < b → ∀ a, a < b' → hj_W V (m b') x → hj_W V (m a) x → hj_rn q x (m a) < hj_rn q x (m b'))) n _ hj_cz ?_ ?_
    · intro n2 s I'
      subst I'
      exact br_t (nI_le (Nat.le_refl _) (by omega)) (nm_r (nI_1 x) (next _ hj_ce))
    · intro n2 b s hb I' next'
      subst I'
      exact br_f (nI_ge hb (by omega)) (hj_br (fun hq => nm_r (nI_1 b) (next' 0 (hj_c0 hq))) (fun hq => hy_lastOk R hn hl hm (by omega) hb (hj_br (fun hz => nm_r (nI_1 b) (next' 0 (hj_cF hz))) (fun hz => nm_r (nI_1 b) (next' 1 (hj_cT hq hz))))))
theorem hy_keepsSources {post : Int32 → Prop} (R : hj_R P K S V It gr vr sw od L q l) (hn : n ≤ 4) (hl : hj_LS ls m n) (hm : ∀ a, m a < 4) (h : post (hj_b (hj_Src K vr m n))) : wpY_keepsSources post (nI P, nI K, S, V, sw, od, L, ls) (nI n) := by
  have hE : (∀ b, b < n → ∀ a, a < b → ¬ hj_sawA sw (m a) (m b)) ↔ hj_Src K vr m n := ⟨fun w b hb a ha y => w b hb a ha ((hj_SrcY R (hm a) (hm b)).mpr y), fun w b hb a ha y => w b hb a ha ((hj_SrcY R (hm a) (hm b)).mp y)⟩
  rw [← hj_bi hE] at h
  refine loop_0 (fun n' b (s : Int32) => wY_keepsSources_4 post (nI n) (nI P) (nI K) S V sw od L ls n' s (nI b)) (fun b s => s = hj_b (∀ y, y < b → ∀ a, a < y → ¬ hj_sawA sw (m a) (m y))) n 1 hj_a00 ?_ ?_
  · intro n' s I
    subst I
    exact br_t (nI_le (Nat.le_refl _) (by omega)) ⟨hj_nb _, h⟩
  · intro n' b s hb I next
    subst I
    have cb : (nI b).toNatClampNeg = b := nI_clamp (by omega)
    have vb : vp_in (nI b) 4 := vp_in_nI (by omega) (by omega)
    refine br_f (nI_ge hb (by omega)) ?_
    refine loop_0 (fun n2 a (s : Int32) => wY_keepsSources_12 post (wY_keepsSources_4 post (nI n) (nI P) (nI K) S V sw od L ls n') (nI n) (nI b) (nI P) (nI K) S V sw od L ls n2 s (nI a)) (fun a s => s = hj_b ((∀ y, y < b → ∀ a, a < y → ¬ hj_sawA sw (m a) (m y)) ∧ ∀ a', a' < a → ¬ hj_sawA sw (m a') (m b))) b _ hj_cz ?_ ?_
    · intro n2 s I'
      subst I'
      exact br_t (nI_le (Nat.le_refl _) (by omega)) (nm_r (nI_1 b) (next _ (hj_ce (f := fun y => ∀ a, a < y → ¬ hj_sawA sw (m a) (m y)))))
    · intro n2 a s ha I' next'
      subst I'
      have ca : (nI a).toNatClampNeg = a := nI_clamp (by omega)
      have va : vp_in (nI a) 4 := vp_in_nI (by omega) (by omega)
      show wY_keepsSources_12 post _ (nI n) (nI b) (nI P) (nI K) S V sw od L ls (n2 + 1) _ (nI a)
      rw [wY_keepsSources_12]
      dsimp only
      rw [ca, cb, hl a (by omega), hl b hb]
      exact br_f (nI_ge ha (by omega)) (hj_br (fun hq => nm_r (nI_1 a) (next' 0 (hj_c0 hq))) (fun hq => ⟨va, vb, hy_sawAny (hm a) (hm b) (hj_br (fun hz => nm_r (nI_1 a) (next' 1 (hj_cT hq hz))) (fun hz => nm_r (nI_1 a) (next' 0 (hj_cF (fun w => w hz)))))⟩))
theorem hy_readsAt {post : Int32 → Prop} (R : hj_R P K S V It gr vr sw od L q l) (hn : n ≤ 4) (hv : hj_Val S m n) (hl : hj_LS ls m n) (hm : ∀ a, m a < 4) {i g : Nat} (hi : i < 4) (hg : g ≤ n) (hne : ∀ a, a < g → m a ≠ i) (h : post (hj_b (hj_RF P K V gr vr m i g))) : wpY_readsAt post (nI P, nI K, S, V, sw, od, L, ls) (nI i) (nI g) := by
  have hK := R.2.1.2
  rw [← hj_bi (hj_RFY R hv hm hi hg)] at h
  refine loop_0 (fun n' x (s : Int32) => wY_readsAt_5 post (nI i) (nI g) (nI P) (nI K) S V sw od L ls n' s (nI x)) (fun x s => s = hj_b (∀ y, y < x → hj_RY sw i y (hj_lw V m y g))) K 1 hj_a00 ?_ ?_
  · intro n' s I
    subst I
    exact br_t (nI_le (Nat.le_refl _) (by omega)) ⟨hj_nb _, h⟩
  · intro n' x s hx I next
    subst I
    refine br_f (nI_ge hx (by omega)) ?_
    refine loop_0 (fun n2 a (s : Int32) => wY_readsAt_20 post (wY_readsAt_5 post (nI i) (nI g) (nI P) (nI K) S V sw od L ls n') (nI i) (nI g) (hj_b (∀ y, y < x → hj_RY sw i y (hj_lw V m y g))) (nI x) (nI P) (nI K) S V sw od L ls n2 s (nI a)) (fun a s => s = hj_lw V m x a) g (-1) rfl ?_ ?_
    · intro n2 s I'
      subst I'
      exact br_t (nI_le (Nat.le_refl _) (by omega)) (hj_br (fun hq => nm_r (nI_1 x) (next 0 (hj_a0 hq))) (fun hq => hy_readsOnly hi (by omega) (hj_br (fun hz => nm_r (nI_1 x) (next 0 (hj_aF hz))) (fun hz => nm_r (nI_1 x) (next 1 (hj_aT hq hz))))))
    · intro n2 a s ha I' next'
      subst I'
      have ca : (nI a).toNatClampNeg = a := nI_clamp (by omega)
      have va : vp_in (nI a) 4 := vp_in_nI (by omega) (by omega)
      have ma := hm a
      have c2 : (nI (m a * 4 + x)).toNatClampNeg = m a * 4 + x := nI_clamp (by omega)
      have v2 : vp_in (nI (m a * 4 + x)) 16 := vp_in_nI (by omega) (by omega)
      show wY_readsAt_20 post _ (nI i) (nI g) _ (nI x) (nI P) (nI K) S V sw od L ls (n2 + 1) _ (nI a)
      rw [wY_readsAt_20]
      dsimp only
      rw [ca, hl a (by omega), hj_c4 (m a) x, c2]
      exact br_f (nI_ge ha (by omega)) ⟨va, v2, br_c (fun z => nm_r (nI_1 a) (next' _ (hj_lwF (fun w => w z)).symm)) (fun z => ⟨va, pk_eq (m a) i (fun e => absurd e (hne a ha)) (fun _ => ⟨va, nm_e (nm_r (nI_1 a) (next' _ (hj_lwT z).symm))⟩)⟩)⟩
theorem hy_keepsReads {post : Int32 → Prop} (R : hj_R P K S V It gr vr sw od L q l) (hn : n ≤ 4) (hv : hj_Val S m n) (hl : hj_LS ls m n) (hm : ∀ a, m a < 4) (h : post (hj_b (hj_Rd P K V gr vr m n))) : wpY_keepsReads post (nI P, nI K, S, V, sw, od, L, ls) (nI n) := by
  refine loop_0 (fun n' b (s : Int32) => wY_keepsReads_4 post (nI n) (nI P) (nI K) S V sw od L ls n' s (nI b)) (fun b s => s = hj_b (∀ y, y < b → hj_RF P K V gr vr m (m y) y)) n 1 hj_a00 ?_ ?_
  · intro n' s I
    subst I
    exact br_t (nI_le (Nat.le_refl _) (by omega)) ⟨hj_nb _, h⟩
  · intro n' b s hb I next
    subst I
    have cb : (nI b).toNatClampNeg = b := nI_clamp (by omega)
    have vb : vp_in (nI b) 4 := vp_in_nI (by omega) (by omega)
    show wY_keepsReads_4 post (nI n) (nI P) (nI K) S V sw od L ls (n' + 1) _ (nI b)
    rw [wY_keepsReads_4]
    dsimp only
    rw [cb, hl b hb]
    exact br_f (nI_ge hb (by omega)) (hj_br (fun hq => nm_r (nI_1 b) (next 0 (hj_a0 hq))) (fun hq => ⟨vb, hy_readsAt R hn hv hl hm (hm b) (by omega) (hv b hb).2 (hj_br (fun hz => nm_r (nI_1 b) (next 0 (hj_aF hz))) (fun hz => nm_r (nI_1 b) (next 1 (hj_aT hq hz))))⟩))
theorem hy_startsAt {post : Int32 → Prop} (R : hj_R P K S V It gr vr sw od L q l) (hn : n ≤ 4) (hv : hj_Val S m n) (hl : hj_LS ls m n) (hm : ∀ a, m a < 4) {b g : Nat} (hb : b < n) (hg : g ≤ b) (h : post (hj_b (hj_St P K V gr vr m b g))) : wpY_startsAt post (nI P, nI K, S, V, sw, od, L, ls) (nI b) (nI g) := by
  have cb : (nI b).toNatClampNeg = b := nI_clamp (by omega)
  have vb : vp_in (nI b) 4 := vp_in_nI (by omega) (by omega)
  unfold wpY_startsAt
  dsimp only
  rw [cb, hl b hb]
  refine ⟨vb, nm_e (hy_readsAt R hn hv hl hm (hm b) (by omega) (fun a ha => (hv b hb).2 a (by omega)) ?_)⟩
  refine pk_loop (fun n2 a (s : Int32) => wY_startsAt_18 post (nI b) (nI (m b)) (nI P) (nI K) S V sw od L ls n2 s (nI a)) (fun a s => g ≤ a ∧ s = hj_b (hj_RF P K V gr vr m (m b) g ∧ ∀ y, y < a → g ≤ y → ¬ hj_sh K V (m y) (m b))) b g _ hg ?_ ?_ ?_
  · exact ⟨Nat.le_refl g, hj_bi ⟨fun w => ⟨w, fun y hy hgy => absurd hy (by omega)⟩, fun w => w.1⟩⟩
  · intro n2 s I'
    obtain ⟨_, rfl⟩ := I'
    refine br_t (nI_le (Nat.le_refl _) (by omega)) ⟨hj_nb _, ?_⟩
    rw [hj_bi (q := hj_St P K V gr vr m b g) ⟨fun w => ⟨w.1, fun a h1 h2 => w.2 a h2 h1⟩, fun w => ⟨w.1, fun a h1 h2 => w.2 a h2 h1⟩⟩]
    exact h
  · intro n2 a s ha I' next'
    obtain ⟨hga, rfl⟩ := I'
    have ca : (nI a).toNatClampNeg = a := nI_clamp (by omega)
    have va : vp_in (nI a) 4 := vp_in_nI (by omega) (by omega)
    have hga' : g ≤ a + 1 := by omega
    show wY_startsAt_18 post (nI b) (nI (m b)) (nI P) (nI K) S V sw od L ls (n2 + 1) _ (nI a)
    rw [wY_startsAt_18]
    dsimp only
    rw [ca, hl a (by omega)]
    exact br_f (nI_ge ha (by omega)) (hj_br (fun hq => nm_r (nI_1 a) (next' 0 ⟨hga', hj_c0 hq⟩)) (fun hq => ⟨va, hy_share R (hm a) (hm b) (hj_br (fun hz => nm_r (nI_1 a) (next' 1 ⟨hga', hj_cT hq (fun _ => hz)⟩)) (fun hz => nm_r (nI_1 a) (next' 0 ⟨hga', hj_cF (fun w => w hga hz)⟩)))⟩))
theorem hy_canStart {post : Int32 → Prop} (R : hj_R P K S V It gr vr sw od L q l) (hn : n ≤ 4) (hv : hj_Val S m n) (hl : hj_LS ls m n) (hm : ∀ a, m a < 4) (h : post (hj_b (hj_Sn P K V gr vr m n))) : wpY_canStart post (nI P, nI K, S, V, sw, od, L, ls) (nI n) := by
  have hE : (∀ b, b < n → ∃ g, g < b + 1 ∧ hj_St P K V gr vr m b g) ↔ hj_Sn P K V gr vr m n := by
    constructor
    · intro w b hb
      obtain ⟨g, hg, y⟩ := w b hb
      exact ⟨g, by omega, y⟩
    · intro w b hb
      obtain ⟨g, hg, y⟩ := w b hb
      exact ⟨g, by omega, y⟩
  rw [← hj_bi hE] at h
  refine loop_0 (fun n' b (s : Int32) => wY_canStart_4 post (nI n) (nI P) (nI K) S V sw od L ls n' s (nI b)) (fun b s => s = hj_b (∀ y, y < b → ∃ g, g < y + 1 ∧ hj_St P K V gr vr m y g)) n 1 hj_a00 ?_ ?_
  · intro n' s I
    subst I
    exact br_t (nI_le (Nat.le_refl _) (by omega)) ⟨hj_nb _, h⟩
  · intro n' b s hb I next
    subst I
    refine br_f (nI_ge hb (by omega)) ?_
    refine loop_0 (fun n2 g (s : Int32) => wY_canStart_15 post (wY_canStart_4 post (nI n) (nI P) (nI K) S V sw od L ls n') (nI n) (hj_b (∀ y, y < b → ∃ g, g < y + 1 ∧ hj_St P K V gr vr m y g)) (nI b) (nI P) (nI K) S V sw od L ls n2 s (nI g)) (fun g s => s = hj_b (∃ y, y < g ∧ hj_St P K V gr vr m b y)) (b + 1) 0 hj_e00 ?_ ?_
    · intro n2 s I'
      subst I'
      exact br_t (nI_lt (by omega) (by omega)) (hj_br (fun hq => nm_r (nI_1 b) (next 0 (hj_a0 hq))) (fun hq => hj_br (fun hz => nm_r (nI_1 b) (next 0 (hj_aF hz))) (fun hz => nm_r (nI_1 b) (next 1 (hj_aT hq hz)))))
    · intro n2 g s hg I' next'
      subst I'
      exact br_f (nI_nlt (by omega) (by omega)) (hj_br (fun hq => hy_startsAt R hn hv hl hm hb (by omega) (hj_br (fun hz => nm_r (nI_1 g) (next' 0 (hj_eF hq hz))) (fun hz => nm_r (nI_1 g) (next' 1 (hj_eT hz))))) (fun hq => nm_r (nI_1 g) (next' 1 (hj_e1 hq))))
end

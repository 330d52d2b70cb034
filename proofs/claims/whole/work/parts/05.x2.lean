section
variable {P K : Nat} {S V It gr vr sw od L pl : Nat → Int32} {q l : Nat → Nat} {m : Nat → Nat} {n : Nat}
theorem hx_lastWriter {post : Int32 → Prop} (R : hj_R P K S V It gr vr sw od L q l) (hn : n ≤ 4) (hv : hj_Val S m n) (hp : hj_PL pl m n) (hm : ∀ a, m a < 4) {x g : Nat} (hx : x < 4) (hg : g ≤ n) (h : post (hj_lw V m x g)) : wpX_lastWriter post (nI P, nI K, S, V, It, L, gr, vr, pl) (nI x) (nI g) := by
  have hP := R.1.2
  refine loop_0 (fun n' j (s : Int32 × Int32) => wX_lastWriter_8 post (nI x) (nI g) (nI P) (nI K) S V It L gr vr pl n' s.1 s.2 (nI j)) (fun j s => hj_LA V m x g j s.1 s.2) P (-1, -1) hj_LA0 ?_ ?_
  · intro n' s I
    have e := hj_LAe I (fun a ha => hj_lo hv hm R.2.2.1 (by omega))
    refine br_t (nI_le (Nat.le_refl _) (by omega)) ?_
    rw [e]
    exact h
  · intro n' j s hj I next
    have cj : (nI j).toNatClampNeg = j := nI_clamp (by omega)
    have vj : vp_in (nI j) 4 := vp_in_nI (by omega) (by omega)
    have hj4 : j < 4 := by omega
    show wX_lastWriter_8 post (nI x) (nI g) (nI P) (nI K) S V It L gr vr pl (n' + 1) s.1 s.2 (nI j)
    rw [wX_lastWriter_8]
    dsimp only
    rw [cj]
    refine br_f (nI_ge hj (by omega)) (hx_wrote hj4 hx (hj_br (fun hw => nm_r (nI_1 j) (next s (hj_LAf hg hn hj4 hv hp hm I (fun w _ _ => hw w)))) (fun hw => ⟨vj, br_c (fun z => nm_r (nI_1 j) (next s (hj_LAf hg hn hj4 hv hp hm I (fun _ w _ => Int32.not_le.mpr w z)))) (fun z => ⟨vj, br_c (fun z2 => nm_r (nI_1 j) (next s (hj_LAf hg hn hj4 hv hp hm I (fun _ _ w => Int32.not_le.mpr w z2)))) (fun z2 => ⟨vj, nm_e (nm_r (nI_1 j) (next (nI j, pl j) (hj_LAt hg hn hj4 hv hp I hw (Int32.not_le.mp z) (Int32.not_le.mp z2))))⟩)⟩)⟩)))
theorem hx_readsFitAt {post : Int32 → Prop} (R : hj_R P K S V It gr vr sw od L q l) (hn : n ≤ 4) (hv : hj_Val S m n) (hp : hj_PL pl m n) (hm : ∀ a, m a < 4) {i g : Nat} (hi : i < 4) (hg : g ≤ n) (h : post (hj_b (hj_RF P K V gr vr m i g))) : wpX_readsFitAt post (nI P, nI K, S, V, It, L, gr, vr, pl) (nI i) (nI g) := by
  have hP := R.1.2
  have hK := R.2.1.2
  refine loop_0 (fun n' x (_ : Unit) => wX_readsFitAt_2 post (nI i) (nI g) (nI P) (nI K) S V It L gr vr pl n' (nI x)) (fun x _ => ∀ y, y < x → hj_RX P gr vr i y (hj_lw V m y g)) K () lt_0 ?_ ?_
  · intro n' _ I
    exact br_t (nI_le (Nat.le_refl _) (by omega)) (hj_p1 h I)
  · intro n' x _ hx I next
    have ec : (nI (i * 4 + x)).toNatClampNeg = i * 4 + x := nI_clamp (by omega)
    have inner : (gr (i * 4 + x) = 0 ∨ hj_lw V m x g = -1) → ∃ n42, wX_readsFitAt_42 post (wX_readsFitAt_2 post (nI i) (nI g) (nI P) (nI K) S V It L gr vr pl n') (nI i) (nI g) (nI x) (hj_lw V m x g) (nI P) (nI K) S V It L gr vr pl n42 0 := by
      intro hgr
      refine loop_0 (fun n2 j (_ : Unit) => wX_readsFitAt_42 post (wX_readsFitAt_2 post (nI i) (nI g) (nI P) (nI K) S V It L gr vr pl n') (nI i) (nI g) (nI x) (hj_lw V m x g) (nI P) (nI K) S V It L gr vr pl n2 (nI j)) (fun j _ => ∀ b, b < j → nI b = hj_lw V m x g ∨ ¬ hj_rk vr i x b) P () lt_0 ?_ ?_
      · intro n2 _ I'
        exact br_t (nI_le (Nat.le_refl _) (by omega)) (nm_r (nI_1 x) (next () (lt_s I ⟨hgr, I'⟩)))
      · intro n2 j _ hj I' next'
        refine br_f (nI_ge hj (by omega)) (br_c (fun z => nm_r (nI_1 j) (next' () (lt_s I' (Or.inl z)))) (fun z => hx_readsKeyFrom hi (by omega) (by omega) (hj_br (fun hr => nm_r (nI_1 j) (next' () (lt_s I' (Or.inr hr)))) (fun hr => hj_p0 h (fun w => ?_)))))
        rcases (w x hx).2 j hj with y | y
        · exact z y
        · exact y hr
    refine br_f (nI_ge hx (by omega)) (hx_lastWriter R hn hv hp hm (by omega) hg ?_)
    unfold wpX_cellOf
    dsimp only
    rw [hj_c4, ec]
    refine ⟨vp_in_nI (by omega) (by omega), br_c (fun z => inner (Or.inl z)) (fun z => br_c (fun z2 => inner (Or.inr z2)) (fun z2 => hj_p0 h (fun w => ?_)))⟩
    rcases (w x hx).1 with y | y
    · exact z y
    · exact z2 y
theorem hx_startsAfterRivals {post : Int32 → Prop} (R : hj_R P K S V It gr vr sw od L q l) {i g : Nat} (hi : i < 4) (h : post (hj_b (hj_SR P K V pl i g))) : wpX_startsAfterRivals post (nI P, nI K, S, V, It, L, gr, vr, pl) (nI i) (nI g) := by
  have hP := R.1.2
  have hK := R.2.1.2
  refine loop_0 (fun n' j (_ : Unit) => wX_startsAfterRivals_2 post (nI i) (nI g) (nI P) (nI K) S V It L gr vr pl n' (nI j)) (fun j _ => ∀ b, b < j → ∀ x, x < K → ¬ (hj_W V i x ∧ hj_W V b x ∧ nI g ≤ pl b ∧ pl b < pl i)) P () lt_0 ?_ ?_
  · intro n' _ I
    exact br_t (nI_le (Nat.le_refl _) (by omega)) (hj_p1 h I)
  · intro n' j _ hj I next
    have ci : (nI i).toNatClampNeg = i := nI_clamp (by omega)
    have cj : (nI j).toNatClampNeg = j := nI_clamp (by omega)
    have vi : vp_in (nI i) 4 := vp_in_nI (by omega) (by omega)
    have vj : vp_in (nI j) 4 := vp_in_nI (by omega) (by omega)
    refine br_f (nI_ge hj (by omega)) ?_
    refine loop_0 (fun n2 x (_ : Unit) => wX_startsAfterRivals_13 post (wX_startsAfterRivals_2 post (nI i) (nI g) (nI P) (nI K) S V It L gr vr pl n') (nI i) (nI g) (nI j) (nI P) (nI K) S V It L gr vr pl n2 (nI x)) (fun x _ => ∀ y, y < x → ¬ (hj_W V i y ∧ hj_W V j y ∧ nI g ≤ pl j ∧ pl j < pl i)) K () lt_0 ?_ ?_
    · intro n2 _ I'
      exact br_t (nI_le (Nat.le_refl _) (by omega)) (nm_r (nI_1 j) (next () (lt_s I I')))
    · intro n2 x _ hx I' next'
      refine br_f (nI_ge hx (by omega)) (hx_wrote hi (by omega) (hj_br (fun hw => br_t rfl (nm_r (nI_1 x) (next' () (lt_s I' (fun w => hw w.1))))) (fun hw => hx_wrote (by omega) (by omega) (hj_br (fun hw2 => br_t rfl (nm_r (nI_1 x) (next' () (lt_s I' (fun w => hw2 w.2.1))))) (fun hw2 => ?_)))))
      unfold wX_startsAfterRivals_47
      rw [ci, cj]
      exact br_f (by decide) ⟨vj, br_c (fun z => nm_r (nI_1 x) (next' () (lt_s I' (fun w => Int32.not_le.mpr z w.2.2.1)))) (fun z => ⟨vj, vi, br_c (fun z2 => nm_r (nI_1 x) (next' () (lt_s I' (fun w => Int32.not_le.mpr w.2.2.2 z2)))) (fun z2 => hj_p0 h (fun w => w j hj x hx ⟨hw, hw2, Int32.not_lt.mp z, Int32.not_le.mp z2⟩))⟩)⟩
def hj_Q (P K : Nat) (V gr vr pl : Nat → Int32) (m : Nat → Nat) (i a : Nat) : Prop := ∃ g, g < a + 1 ∧ (hj_SR P K V pl i g ∧ hj_RF P K V gr vr m i g)
theorem hx_keepsSnapshots {post : Int32 → Prop} (R : hj_R P K S V It gr vr sw od L q l) (hn : n ≤ 4) (hv : hj_Val S m n) (hp : hj_PL pl m n) (hm : ∀ a, m a < 4) (h : post (hj_b (∀ i, i < P → (pl i = -1 ∨ ∃ a, a < n ∧ pl i = nI a ∧ hj_Q P K V gr vr pl m i a)))) : wpX_keepsSnapshots post (nI P, nI K, S, V, It, L, gr, vr, pl) := by
  have hP := R.1.2
  refine loop_0 (fun n' i (_ : Unit) => wX_keepsSnapshots_2 post (nI P) (nI K) S V It L gr vr pl n' (nI i)) (fun i _ => ∀ b, b < i → (pl b = -1 ∨ ∃ a, a < n ∧ pl b = nI a ∧ hj_Q P K V gr vr pl m b a)) P () lt_0 ?_ ?_
  · intro n' _ I
    exact br_t (nI_le (Nat.le_refl _) (by omega)) (hj_p1 h I)
  · intro n' i _ hi I next
    have ci : (nI i).toNatClampNeg = i := nI_clamp (by omega)
    have vi : vp_in (nI i) 4 := vp_in_nI (by omega) (by omega)
    show wX_keepsSnapshots_2 post (nI P) (nI K) S V It L gr vr pl (n' + 1) (nI i)
    rw [wX_keepsSnapshots_2]
    dsimp only
    rw [ci]
    refine br_f (nI_ge hi (by omega)) ⟨vi, ?_⟩
    rcases hp i (by omega) with ⟨a, ha, e, hpa⟩ | ⟨z, _⟩
    · rw [hpa]
      refine nm_e (br_f (hj_nm1 (by omega)) ?_)
      refine loop_0 (fun n2 g (s : Int32) => wX_keepsSnapshots_31 post (wX_keepsSnapshots_2 post (nI P) (nI K) S V It L gr vr pl n') (nI i) (nI a) (nI P) (nI K) S V It L gr vr pl n2 s (nI g)) (fun g s => s = hj_b (∃ y, y < g ∧ (hj_SR P K V pl i y ∧ hj_RF P K V gr vr m i y))) (a + 1) 0 hj_e00 ?_ ?_
      · intro n2 s I'
        subst I'
        refine br_t (nI_lt (by omega) (by omega)) (hj_br (fun hq => hj_p0 h (fun w => ?_)) (fun hq => nm_r (nI_1 i) (next () (lt_s I (Or.inr ⟨a, ha, hpa, hq⟩)))))
        rcases w i hi with y | ⟨a', ha', y, hq'⟩
        · rw [hpa] at y
          exact hj_nm1 (by omega) y
        · rw [hpa, nI_eq (by omega) (by omega)] at y
          rw [← y] at hq'
          exact hq hq'
      · intro n2 g s hg I' next'
        subst I'
        refine br_f (nI_nlt (by omega) (by omega)) (hj_br (fun hq => hx_startsAfterRivals R (by omega) (hj_br (fun h1 => nm_r (nI_1 g) (next' 0 (hj_eF hq (fun w => h1 w.1)))) (fun h1 => hx_readsFitAt R hn hv hp hm (by omega) (by omega) (hj_br (fun h2 => nm_r (nI_1 g) (next' 0 (hj_eF hq (fun w => h2 w.2)))) (fun h2 => nm_r (nI_1 g) (next' 1 (hj_eT ⟨h1, h2⟩))))))) (fun hq => nm_r (nI_1 g) (next' 1 (hj_e1 hq))))
    · rw [z]
      exact nm_e (br_t rfl ⟨1, br_t hj_m1n0 (br_f (by decide) (nm_r (nI_1 i) (next () (lt_s I (Or.inl z)))))⟩)
theorem hx_keepsReads {post : Int32 → Prop} (R : hj_R P K S V It gr vr sw od L q l) (hn : n ≤ 4) (hv : hj_Val S m n) (hp : hj_PL pl m n) (hm : ∀ a, m a < 4) (h : post (hj_b (∀ i, i < P → (pl i = -1 ∨ ∃ a, a < n ∧ pl i = nI a ∧ hj_RF P K V gr vr m i a)))) : wpX_keepsReads post (nI P, nI K, S, V, It, L, gr, vr, pl) := by
  have hP := R.1.2
  refine loop_0 (fun n' i (_ : Unit) => wX_keepsReads_2 post (nI P) (nI K) S V It L gr vr pl n' (nI i)) (fun i _ => ∀ b, b < i → (pl b = -1 ∨ ∃ a, a < n ∧ pl b = nI a ∧ hj_RF P K V gr vr m b a)) P () lt_0 ?_ ?_
  · intro n' _ I
    exact br_t (nI_le (Nat.le_refl _) (by omega)) (hj_p1 h I)
  · intro n' i _ hi I next
    have ci : (nI i).toNatClampNeg = i := nI_clamp (by omega)
    have vi : vp_in (nI i) 4 := vp_in_nI (by omega) (by omega)
    show wX_keepsReads_2 post (nI P) (nI K) S V It L gr vr pl (n' + 1) (nI i)
    rw [wX_keepsReads_2]
    dsimp only
    rw [ci]
    refine br_f (nI_ge hi (by omega)) ⟨vi, br_c (fun z => nm_r (nI_1 i) (next () (lt_s I (Or.inl z)))) (fun z => ⟨vi, ?_⟩)⟩
    rcases hp i (by omega) with ⟨a, ha, e, hpa⟩ | ⟨z', _⟩
    · rw [hpa]
      refine hx_readsFitAt R hn hv hp hm (by omega) (by omega) (hj_br (fun hq => hj_p0 h (fun w => ?_)) (fun hq => nm_r (nI_1 i) (next () (lt_s I (Or.inr ⟨a, ha, hpa, hq⟩)))))
      rcases w i hi with y | ⟨a', ha', y, hq'⟩
      · exact z y
      · rw [hpa, nI_eq (by omega) (by omega)] at y
        rw [← y] at hq'
        exact hq hq'
    · exact absurd z' z
end

section
variable {P K : Nat} {S V It gr vr sw od L pl : Nat → Int32} {q l : Nat → Nat} {m : Nat → Nat} {n : Nat}
theorem hj_p0 {post : Int32 → Prop} {p : Prop} (h : post (hj_b p)) (hn : ¬ p) : post 0 := by
  rw [hj_b0 hn] at h
  exact h
theorem hj_p1 {post : Int32 → Prop} {p : Prop} (h : post (hj_b p)) (hp : p) : post 1 := by
  rw [hj_b1 hp] at h
  exact h
theorem hj_nf {i P : Nat} {x : Int32} (hP : P ≤ 4) (h : x < 0 ∨ nI P ≤ x) (hx : x = nI i) (hi : i < P) : False := by
  subst hx
  rcases h with h | h
  · exact nI_pos (by omega) h
  · exact nI_ge hi (by omega) h
theorem hj_isN {P : Nat} {x : Int32} (hP : P ≤ 4) (h0 : ¬ x < 0) (h1 : ¬ nI P ≤ x) : ∃ j, j < P ∧ x = nI j := by
  obtain ⟨j, hj, rfl⟩ := nI_of h0
  rw [nI_leI (by omega) hj] at h1
  exact ⟨j, by omega, rfl⟩
theorem hx_isT {post : Int32 → Prop} (R : hj_R P K S V It gr vr sw od L q l) (i : Int32) (h : post (hj_b (∃ j, j < P ∧ i = nI j))) : wpX_isTransaction post (nI P, nI K, S, V, It, L, gr, vr, pl) i := by
  have hP := R.1.2
  refine br_c (fun z => hj_p0 h ?_) (fun z => br_c (fun z2 => hj_p0 h ?_) (fun z2 => hj_p1 h (hj_isN hP z z2)))
  · intro ⟨j, hj, e⟩
    exact hj_nf hP (Or.inl z) e hj
  · intro ⟨j, hj, e⟩
    exact hj_nf hP (Or.inr z2) e hj
theorem hx_isK {post : Int32 → Prop} (R : hj_R P K S V It gr vr sw od L q l) (i : Int32) (h : post (hj_b (∃ j, j < K ∧ i = nI j))) : wpX_isKey post (nI P, nI K, S, V, It, L, gr, vr, pl) i := by
  have hP := R.2.1.2
  refine br_c (fun z => hj_p0 h ?_) (fun z => br_c (fun z2 => hj_p0 h ?_) (fun z2 => hj_p1 h (hj_isN hP z z2)))
  · intro ⟨j, hj, e⟩
    exact hj_nf hP (Or.inl z) e hj
  · intro ⟨j, hj, e⟩
    exact hj_nf hP (Or.inr z2) e hj
theorem hx_wrote {post : Int32 → Prop} {i x : Nat} (hi : i < 4) (hx : x < 4) (h : post (hj_b (hj_W V i x))) : wpX_wrote post (nI P, nI K, S, V, It, L, gr, vr, pl) (nI i) (nI x) := by
  have ec : (nI (i * 4 + x)).toNatClampNeg = i * 4 + x := nI_clamp (by omega)
  unfold wpX_wrote
  dsimp only
  rw [hj_c4, ec]
  exact ⟨vp_in_nI (by omega) (by omega), br_c (fun z => hj_p0 h (fun w => w z)) (fun z => hj_p1 h z)⟩
theorem hx_rankOf {post : Int32 → Prop} (R : hj_R P K S V It gr vr sw od L q l) {i x : Nat} (hi : i < 4) (hx : x < 4) (h : post (nI (hj_rn q x i + 1))) : wpX_rankOf post (nI P, nI K, S, V, It, L, gr, vr, pl) (nI i) (nI x) := by
  have ec : (nI (i * 4 + x)).toNatClampNeg = i * 4 + x := nI_clamp (by omega)
  have hq := R.2.2.2.2.1 (i * 4 + x) (by omega)
  have hl := hj_l4 R hx
  have hq4 := R.2.2.2.2.2.2.2.1 x hx i hi
  unfold wpX_rankOf wpX_cellOf
  dsimp only
  rw [hj_c4, ec, hq]
  refine ⟨vp_in_nI (by omega) (by omega), nm_e ?_⟩
  unfold hj_rn at h
  by_cases z : q (i * 4 + x) = 0
  · rw [if_pos z] at h
    rw [z]
    refine br_t (nI_le (a := 0) (b := 0) (Nat.le_refl 0) (by decide)) ?_
    rw [show (5 : Int32) = nI 5 from rfl, nI_add, show 5 + i = 4 + i + 1 by omega]
    exact h
  · rw [if_neg z] at h
    refine br_f (nI_nle (by omega) (by omega)) ?_
    rw [show q (i * 4 + x) - 1 + 1 = q (i * 4 + x) by omega] at h
    exact h
theorem hx_ranksBefore {post : Int32 → Prop} (R : hj_R P K S V It gr vr sw od L q l) {i j : Nat} (hi : i < 4) (hj : j < 4) (h : post (hj_b (hj_RkX K V q i j))) : wpX_ranksBefore post (nI P, nI K, S, V, It, L, gr, vr, pl) (nI i) (nI j) := by
  have hK := R.2.1.2
  refine loop_0 (fun n x (_ : Unit) => wX_ranksBefore_2 post (nI i) (nI j) (nI P) (nI K) S V It L gr vr pl n (nI x)) (fun x _ => ∀ y, y < x → ¬ (hj_W V i y ∧ hj_W V j y ∧ hj_rn q y j < hj_rn q y i)) K () lt_0 ?_ ?_
  · intro n _ I
    exact br_t (nI_le (Nat.le_refl _) (by omega)) (hj_p1 h I)
  · intro n x _ hx I next
    refine br_f (nI_ge hx (by omega)) (hx_wrote hi (by omega) (hj_br (fun hn => ?_) (fun hw => hx_wrote hj (by omega) (hj_br (fun hn => ?_) (fun hw2 => ?_)))))
    · exact br_t rfl (nm_r (nI_1 x) (next () (lt_s I (fun z => hn z.1))))
    · exact br_t rfl (nm_r (nI_1 x) (next () (lt_s I (fun z => hn z.2.1))))
    · have a := hj_rnl R (x := x) (i := i) (by omega) hi
      have b := hj_rnl R (x := x) (i := j) (by omega) hj
      refine br_f (by decide) (hx_rankOf R hi (by omega) (hx_rankOf R hj (by omega) (pk_le (hj_rn q x i + 1) (hj_rn q x j + 1) (fun z => ?_) (fun z => ?_))))
      · exact nm_r (nI_1 x) (next () (lt_s I (fun w => by omega)))
      · exact hj_p0 h (fun w => w x hx ⟨hw, hw2, by omega⟩)
theorem hx_keepsRankings {post : Int32 → Prop} (R : hj_R P K S V It gr vr sw od L q l) (h : post (hj_b (∀ i, i < P → ∀ j, j < P → (pl i = -1 ∨ pl j ≤ pl i ∨ hj_RkX K V q i j)))) : wpX_keepsRankings post (nI P, nI K, S, V, It, L, gr, vr, pl) := by
  have hP := R.1.2
  refine loop_0 (fun n i (_ : Unit) => wX_keepsRankings_2 post (nI P) (nI K) S V It L gr vr pl n (nI i)) (fun i _ => ∀ a, a < i → ∀ j, j < P → (pl a = -1 ∨ pl j ≤ pl a ∨ hj_RkX K V q a j)) P () lt_0 ?_ ?_
  · intro n _ I
    exact br_t (nI_le (Nat.le_refl _) (by omega)) (hj_p1 h I)
  · intro n i _ hi I next
    refine br_f (nI_ge hi (by omega)) ?_
    refine loop_0 (fun n' j (_ : Unit) => wX_keepsRankings_12 post (wX_keepsRankings_2 post (nI P) (nI K) S V It L gr vr pl n) (nI i) (nI P) (nI K) S V It L gr vr pl n' (nI j)) (fun j _ => ∀ b, b < j → (pl i = -1 ∨ pl b ≤ pl i ∨ hj_RkX K V q i b)) P () lt_0 ?_ ?_
    · intro n' _ I'
      exact br_t (nI_le (Nat.le_refl _) (by omega)) (nm_r (nI_1 i) (next () (lt_s I I')))
    · intro n' j _ hj I' next'
      have ci : (nI i).toNatClampNeg = i := nI_clamp (by omega)
      have cj : (nI j).toNatClampNeg = j := nI_clamp (by omega)
      have vi : vp_in (nI i) 4 := vp_in_nI (by omega) (by omega)
      have vj : vp_in (nI j) 4 := vp_in_nI (by omega) (by omega)
      show wX_keepsRankings_12 post _ (nI i) (nI P) (nI K) S V It L gr vr pl (n' + 1) (nI j)
      rw [wX_keepsRankings_12]
      dsimp only
      rw [ci, cj]
      refine br_f (nI_ge hj (by omega)) ⟨vi, br_c (fun z => nm_r (nI_1 j) (next' () (lt_s I' (Or.inl z)))) (fun z => ⟨vj, vi, br_c (fun z2 => nm_r (nI_1 j) (next' () (lt_s I' (Or.inr (Or.inl z2))))) (fun z2 => hx_ranksBefore R (by omega) (by omega) (hj_br (fun hn => hj_p0 h (fun w => ?_)) (fun hg => nm_r (nI_1 j) (next' () (lt_s I' (Or.inr (Or.inr hg)))))))⟩)⟩
      rcases w i hi j hj with w | w | w
      · exact z w
      · exact z2 w
      · exact hn w
theorem hj_ro1 (i x j : Nat) : ((nI i * 4 + nI x) * 4 + nI j) * 2 + 1 - 1 = nI ((i * 4 + x) * 8 + 2 * j) := hj_ro i x j 0
theorem hj_ro2 (i x j : Nat) : ((nI i * 4 + nI x) * 4 + nI j) * 2 + 2 - 1 = nI ((i * 4 + x) * 8 + (2 * j + 1)) := hj_ro i x j 1
theorem hx_readsKeyFrom {post : Int32 → Prop} {i x j : Nat} (hi : i < 4) (hx : x < 4) (hj : j < 4) (h : post (hj_b (hj_rk vr i x j))) : wpX_readsKeyFrom post (nI P, nI K, S, V, It, L, gr, vr, pl) (nI i) (nI x) (nI j) := by
  have c1 : (nI ((i * 4 + x) * 8 + 2 * j)).toNatClampNeg = (i * 4 + x) * 8 + 2 * j := nI_clamp (by omega)
  have c2 : (nI ((i * 4 + x) * 8 + (2 * j + 1))).toNatClampNeg = (i * 4 + x) * 8 + (2 * j + 1) := nI_clamp (by omega)
  have v1 : vp_in (nI ((i * 4 + x) * 8 + 2 * j)) 128 := vp_in_nI (by omega) (by omega)
  have v2 : vp_in (nI ((i * 4 + x) * 8 + (2 * j + 1))) 128 := vp_in_nI (by omega) (by omega)
  unfold wpX_readsKeyFrom wpX_readOf
  dsimp only
  rw [hj_ro1, hj_ro2, c1, c2]
  refine ⟨v1, nm_e ⟨v2, nm_e (br_c (fun z => br_c (fun z2 => hj_p0 h ?_) (fun z2 => hj_p1 h (Or.inr z2))) (fun z => hj_p1 h (Or.inl z)))⟩⟩
  intro w
  rcases w with w | w
  · exact w z
  · exact w z2
theorem hx_readsFrom {post : Int32 → Prop} (R : hj_R P K S V It gr vr sw od L q l) {i j : Nat} (hi : i < 4) (hj : j < 4) (h : post (hj_b (∃ x, x < K ∧ hj_rk vr i x j))) : wpX_readsFrom post (nI P, nI K, S, V, It, L, gr, vr, pl) (nI i) (nI j) := by
  have hK := R.2.1.2
  refine loop_0 (fun n x (_ : Unit) => wX_readsFrom_2 post (nI i) (nI j) (nI P) (nI K) S V It L gr vr pl n (nI x)) (fun x _ => ∀ y, y < x → ¬ hj_rk vr i y j) K () lt_0 ?_ ?_
  · intro n _ I
    exact br_t (nI_le (Nat.le_refl _) (by omega)) (hj_p0 h (fun ⟨x, hx, z⟩ => I x hx z))
  · intro n x _ hx I next
    exact br_f (nI_ge hx (by omega)) (hx_readsKeyFrom hi (by omega) hj (hj_br (fun hn => nm_r (nI_1 x) (next () (lt_s I hn))) (fun hg => hj_p1 h ⟨x, hx, hg⟩)))
theorem hx_keepsSources {post : Int32 → Prop} (R : hj_R P K S V It gr vr sw od L q l) (h : post (hj_b (∀ i, i < P → ∀ j, j < P → (pl i = -1 ∨ pl j ≤ pl i ∨ ¬ ∃ x, x < K ∧ hj_rk vr i x j)))) : wpX_keepsSources post (nI P, nI K, S, V, It, L, gr, vr, pl) := by
  have hP := R.1.2
  refine loop_0 (fun n i (_ : Unit) => wX_keepsSources_2 post (nI P) (nI K) S V It L gr vr pl n (nI i)) (fun i _ => ∀ a, a < i → ∀ j, j < P → (pl a = -1 ∨ pl j ≤ pl a ∨ ¬ ∃ x, x < K ∧ hj_rk vr a x j)) P () lt_0 ?_ ?_
  · intro n _ I
    exact br_t (nI_le (Nat.le_refl _) (by omega)) (hj_p1 h I)
  · intro n i _ hi I next
    refine br_f (nI_ge hi (by omega)) ?_
    refine loop_0 (fun n' j (_ : Unit) => wX_keepsSources_12 post (wX_keepsSources_2 post (nI P) (nI K) S V It L gr vr pl n) (nI i) (nI P) (nI K) S V It L gr vr pl n' (nI j)) (fun j _ => ∀ b, b < j → (pl i = -1 ∨ pl b ≤ pl i ∨ ¬ ∃ x, x < K ∧ hj_rk vr i x b)) P () lt_0 ?_ ?_
    · intro n' _ I'
      exact br_t (nI_le (Nat.le_refl _) (by omega)) (nm_r (nI_1 i) (next () (lt_s I I')))
    · intro n' j _ hj I' next'
      have ci : (nI i).toNatClampNeg = i := nI_clamp (by omega)
      have cj : (nI j).toNatClampNeg = j := nI_clamp (by omega)
      have vi : vp_in (nI i) 4 := vp_in_nI (by omega) (by omega)
      have vj : vp_in (nI j) 4 := vp_in_nI (by omega) (by omega)
      show wX_keepsSources_12 post _ (nI i) (nI P) (nI K) S V It L gr vr pl (n' + 1) (nI j)
      rw [wX_keepsSources_12]
      dsimp only
      rw [ci, cj]
      refine br_f (nI_ge hj (by omega)) ⟨vi, br_c (fun z => nm_r (nI_1 j) (next' () (lt_s I' (Or.inl z)))) (fun z => ⟨vj, vi, br_c (fun z2 => nm_r (nI_1 j) (next' () (lt_s I' (Or.inr (Or.inl z2))))) (fun z2 => hx_readsFrom R (by omega) (by omega) (hj_br (fun hg => nm_r (nI_1 j) (next' () (lt_s I' (Or.inr (Or.inr hg))))) (fun hn => hj_p0 h (fun w => ?_))))⟩)⟩
      rcases w i hi j hj with w | w | w
      · exact z w
      · exact z2 w
      · exact w hn
end

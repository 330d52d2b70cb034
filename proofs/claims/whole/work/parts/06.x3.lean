section
variable {P K : Nat} {S V It gr vr sw od L pl : Nat → Int32} {q l : Nat → Nat} {m : Nat → Nat} {n : Nat}
theorem hx_readsCleanly {post : Int32 → Prop} (R : hj_R P K S V It gr vr sw od L q l) {i j : Nat} (hi : i < 4) (hj : j < 4) (h : post (hj_b (∀ x, x < K → ∀ v, v < 2 → vr ((i * 4 + x) * 8 + (2 * j + v)) = 0 ∨ (S j = 1 ∧ V (j * 4 + x) = nI (v + 1))))) : wpX_readsCleanly post (nI P, nI K, S, V, It, L, gr, vr, pl) (nI i) (nI j) := by
  have hK := R.2.1.2
  have cj : (nI j).toNatClampNeg = j := nI_clamp (by omega)
  have vj : vp_in (nI j) 4 := vp_in_nI (by omega) (by omega)
  refine loop_0 (fun n x (_ : Unit) => wX_readsCleanly_2 post (nI i) (nI j) (nI P) (nI K) S V It L gr vr pl n (nI x)) (fun x _ => ∀ y, y < x → ∀ v, v < 2 → vr ((i * 4 + y) * 8 + (2 * j + v)) = 0 ∨ (S j = 1 ∧ V (j * 4 + y) = nI (v + 1))) K () lt_0 ?_ ?_
  · intro n _ I
    exact br_t (nI_le (Nat.le_refl _) (by omega)) (hj_p1 h I)
  · intro n x _ hx I next
    have ec : (nI (j * 4 + x)).toNatClampNeg = j * 4 + x := nI_clamp (by omega)
    refine br_f (nI_ge hx (by omega)) ?_
    unfold wpX_cellOf
    dsimp only
    rw [hj_c4, ec]
    refine ⟨vp_in_nI (by omega) (by omega), nm_e ?_⟩
    refine loop_0 (fun n' v (_ : Unit) => wX_readsCleanly_25 post (wX_readsCleanly_2 post (nI i) (nI j) (nI P) (nI K) S V It L gr vr pl n) (nI i) (nI j) (nI x) (V (j * 4 + x)) (nI P) (nI K) S V It L gr vr pl n' (nI (v + 1))) (fun v _ => ∀ y, y < v → vr ((i * 4 + x) * 8 + (2 * j + y)) = 0 ∨ (S j = 1 ∧ V (j * 4 + x) = nI (y + 1))) 2 () lt_0 ?_ ?_
    · intro n' _ I'
      exact br_t (nI_lt (a := 2) (b := 2 + 1) (by decide) (by decide)) (nm_r (nI_1 x) (next () (lt_s I I')))
    · intro n' v _ hv I' next'
      have cr : (nI ((i * 4 + x) * 8 + (2 * j + v))).toNatClampNeg = (i * 4 + x) * 8 + (2 * j + v) := nI_clamp (by omega)
      have vx : vp_in (nI ((i * 4 + x) * 8 + (2 * j + v))) 128 := vp_in_nI (by omega) (by omega)
      have w1 : (S j = 1 ∧ V (j * 4 + x) = nI (v + 1)) → wX_readsCleanly_53 post (wX_readsCleanly_2 post (nI i) (nI j) (nI P) (nI K) S V It L gr vr pl n) (wX_readsCleanly_25 post (wX_readsCleanly_2 post (nI i) (nI j) (nI P) (nI K) S V It L gr vr pl n) (nI i) (nI j) (nI x) (V (j * 4 + x)) (nI P) (nI K) S V It L gr vr pl n') (nI i) (nI j) (nI x) (V (j * 4 + x)) (nI (v + 1)) 1 (nI P) (nI K) S V It L gr vr pl := by
        intro g
        unfold wX_readsCleanly_53 wpX_readOf
        dsimp only
        rw [hj_ro, cr]
        exact ⟨vx, br_c (fun z => nm_r (nI_1 (v + 1)) (next' () (lt_s I' (Or.inl z)))) (fun z => br_f (by decide) (nm_r (nI_1 (v + 1)) (next' () (lt_s I' (Or.inr g)))))⟩
      have w0 : ¬ (S j = 1 ∧ V (j * 4 + x) = nI (v + 1)) → wX_readsCleanly_53 post (wX_readsCleanly_2 post (nI i) (nI j) (nI P) (nI K) S V It L gr vr pl n) (wX_readsCleanly_25 post (wX_readsCleanly_2 post (nI i) (nI j) (nI P) (nI K) S V It L gr vr pl n) (nI i) (nI j) (nI x) (V (j * 4 + x)) (nI P) (nI K) S V It L gr vr pl n') (nI i) (nI j) (nI x) (V (j * 4 + x)) (nI (v + 1)) 0 (nI P) (nI K) S V It L gr vr pl := by
        intro g
        unfold wX_readsCleanly_53 wpX_readOf
        dsimp only
        rw [hj_ro, cr]
        refine ⟨vx, br_c (fun z => nm_r (nI_1 (v + 1)) (next' () (lt_s I' (Or.inl z)))) (fun z => br_t rfl (hj_p0 h (fun w => ?_)))⟩
        rcases w x hx v hv with w | w
        · exact z w
        · exact g w
      show wX_readsCleanly_25 post _ (nI i) (nI j) (nI x) (V (j * 4 + x)) (nI P) (nI K) S V It L gr vr pl (n' + 1) (nI (v + 1))
      rw [wX_readsCleanly_25]
      dsimp only
      rw [cj]
      exact br_f (nI_nlt (a := 2) (by omega) (by decide)) ⟨vj, br_c (fun z => br_c (fun z2 => w1 ⟨z, z2.symm⟩) (fun z2 => w0 (fun w => z2 w.2.symm))) (fun z => w0 (fun w => z w.1))⟩
theorem hx_isClean {post : Int32 → Prop} (R : hj_R P K S V It gr vr sw od L q l) (h : post (hj_b (hj_CX P K S V vr))) : wpX_isClean post (nI P, nI K, S, V, It, L, gr, vr, pl) := by
  have hP := R.1.2
  refine loop_0 (fun n i (_ : Unit) => wX_isClean_2 post (nI P) (nI K) S V It L gr vr pl n (nI i)) (fun i _ => ∀ a, a < i → ∀ j, j < P → S a = 1 → ∀ x, x < K → ∀ v, v < 2 → vr ((a * 4 + x) * 8 + (2 * j + v)) = 0 ∨ (S j = 1 ∧ V (j * 4 + x) = nI (v + 1))) P () lt_0 ?_ ?_
  · intro n _ I
    exact br_t (nI_le (Nat.le_refl _) (by omega)) (hj_p1 h I)
  · intro n i _ hi I next
    refine br_f (nI_ge hi (by omega)) ?_
    refine loop_0 (fun n' j (_ : Unit) => wX_isClean_12 post (wX_isClean_2 post (nI P) (nI K) S V It L gr vr pl n) (nI i) (nI P) (nI K) S V It L gr vr pl n' (nI j)) (fun j _ => ∀ b, b < j → S i = 1 → ∀ x, x < K → ∀ v, v < 2 → vr ((i * 4 + x) * 8 + (2 * b + v)) = 0 ∨ (S b = 1 ∧ V (b * 4 + x) = nI (v + 1))) P () lt_0 ?_ ?_
    · intro n' _ I'
      exact br_t (nI_le (Nat.le_refl _) (by omega)) (nm_r (nI_1 i) (next () (lt_s I I')))
    · intro n' j _ hj I' next'
      have ci : (nI i).toNatClampNeg = i := nI_clamp (by omega)
      have vi : vp_in (nI i) 4 := vp_in_nI (by omega) (by omega)
      show wX_isClean_12 post _ (nI i) (nI P) (nI K) S V It L gr vr pl (n' + 1) (nI j)
      rw [wX_isClean_12]
      dsimp only
      rw [ci]
      exact br_f (nI_ge hj (by omega)) ⟨vi, br_c (fun z => hx_readsCleanly R (by omega) (by omega) (hj_br (fun hq => hj_p0 h (fun w => hq (w i hi j hj z))) (fun hq => nm_r (nI_1 j) (next' () (lt_s I' (fun _ => hq)))))) (fun z => nm_r (nI_1 j) (next' () (lt_s I' (fun w => absurd w z))))⟩
theorem hx_committedCount {post : Int32 → Prop} (R : hj_R P K S V It gr vr sw od L q l) (h : post (nI (hj_cn S P))) : wpX_committedCount post (nI P, nI K, S, V, It, L, gr, vr, pl) := by
  have hP := R.1.2
  refine loop_0 (fun n i (s : Int32) => wX_committedCount_4 post (nI P) (nI K) S V It L gr vr pl n s (nI i)) (fun i s => s = nI (hj_cn S i)) P 0 rfl ?_ ?_
  · intro n s I
    subst I
    exact br_t (nI_le (Nat.le_refl _) (by omega)) h
  · intro n i s hi I next
    subst I
    have ci : (nI i).toNatClampNeg = i := nI_clamp (by omega)
    have vi : vp_in (nI i) 4 := vp_in_nI (by omega) (by omega)
    show wX_committedCount_4 post (nI P) (nI K) S V It L gr vr pl (n + 1) (nI (hj_cn S i)) (nI i)
    rw [wX_committedCount_4]
    dsimp only
    rw [ci]
    refine br_f (nI_ge hi (by omega)) ⟨vi, br_c (fun z => nm_r (nI_1 _) (nm_r (nI_1 i) (next _ ?_))) (fun z => nm_r (nI_1 i) (next _ ?_))⟩
    · show nI (hj_cn S i + 1) = nI (hj_cn S i + (if S i = 1 then 1 else 0))
      rw [if_pos z]
    · show nI (hj_cn S i) = nI (hj_cn S i + (if S i = 1 then 1 else 0))
      rw [if_neg z]
      rfl
theorem hx_takesPlaces {post : Int32 → SX → Prop} {c : Nat} (hc : c < 256) (hn : n ≤ 4) (h0 : ∀ pl', ¬ hj_Val S (hj_m c n) n → post 0 (nI P, nI K, S, V, It, L, gr, vr, pl')) (h1 : ∀ pl', hj_Val S (hj_m c n) n → hj_PL pl' (hj_m c n) n → post 1 (nI P, nI K, S, V, It, L, gr, vr, pl')) : wpX_takesPlaces post (nI P, nI K, S, V, It, L, gr, vr, pl) (nI c) (nI n) := by
  refine loop_0 (fun n' i (s : Nat → Int32) => wX_takesPlaces_2 post (nI c) (nI n) (nI P) (nI K) n' (nI i) S V It L gr vr s) (fun i s => ∀ j, j < i → s j = -1) 4 pl lt_0 ?_ ?_
  · intro n' s I
    refine br_t (nI_le (a := 4) (b := 4) (Nat.le_refl 4) (by decide)) ?_
    refine loop_0 (fun n2 a (s : Nat → Int32) => wX_takesPlaces_22 post (nI c) (nI n) (nI P) (nI K) n2 (nI a) S V It L gr vr s) (fun a s => hj_PL s (hj_m c n) a ∧ hj_Val S (hj_m c n) a) n s ⟨fun i hi => Or.inr ⟨I i hi, fun a ha => absurd ha (Nat.not_lt_zero a)⟩, fun a ha => absurd ha (Nat.not_lt_zero a)⟩ ?_ ?_
    · intro n2 s2 I2
      exact br_t (nI_le (Nat.le_refl _) (by omega)) (h1 s2 I2.2 I2.1)
    · intro n2 a s2 ha I2 next
      have hm4 := hj_m4 c n a
      have ca : (nI (hj_m c n a)).toNatClampNeg = hj_m c n a := nI_clamp (by omega)
      have va : vp_in (nI (hj_m c n a)) 4 := vp_in_nI (by omega) (by omega)
      show wX_takesPlaces_22 post (nI c) (nI n) (nI P) (nI K) (n2 + 1) (nI a) S V It L gr vr s2
      rw [wX_takesPlaces_22]
      unfold wpX_memberAt
      dsimp only
      rw [hj_mem hc hn ha, ca]
      refine br_f (nI_ge ha (by omega)) ⟨va, br_c (fun z => ⟨va, br_c (fun z2 => ⟨va, nm_e (nm_r (nI_1 a) (next _ ⟨hj_plS I2.1, hj_valS I2.2 z (fun b hb e => ?_)⟩))⟩) (fun z2 => h0 s2 (hj_valN I2.1 (hj_m4 c n) ha (fun _ w => z2 w)))⟩) (fun z => h0 s2 (hj_valN I2.1 (hj_m4 c n) ha (fun w _ => z w)))⟩
      rcases I2.1 (hj_m c n a) hm4 with ⟨b', hb', e', h'⟩ | ⟨_, h'⟩
      · rw [z2] at h'
        exact hj_nm1 (by omega) h'.symm
      · exact h' b hb e
  · intro n' i s hi I next
    have ci : (nI i).toNatClampNeg = i := nI_clamp (by omega)
    have vi : vp_in (nI i) 4 := vp_in_nI (by omega) (by omega)
    show wX_takesPlaces_2 post (nI c) (nI n) (nI P) (nI K) (n' + 1) (nI i) S V It L gr vr s
    rw [wX_takesPlaces_2]
    dsimp only
    rw [ci]
    refine br_f (nI_ge (b := 4) hi (by decide)) ⟨vi, nm_e (nm_r (nI_1 i) (next _ (fun j hj => ?_)))⟩
    by_cases e : j = i
    · rw [e]
      exact pk_us
    · rw [pk_un e]
      exact I j (by omega)
end

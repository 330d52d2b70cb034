section
variable {P K : Nat} {S V It gr vr sw od L ls : Nat → Int32} {q l : Nat → Nat} {m : Nat → Nat} {n : Nat}
theorem hj_c0 {A : Prop} {i : Nat} {g : Nat → Prop} (h : ¬ (A ∧ ∀ a, a < i → g a)) : (0 : Int32) = hj_b (A ∧ ∀ a, a < i + 1 → g a) := (hj_b0 (fun z => h ⟨z.1, fun a ha => z.2 a (by omega)⟩)).symm
theorem hj_cF {A : Prop} {i : Nat} {g : Nat → Prop} (h : ¬ g i) : (0 : Int32) = hj_b (A ∧ ∀ a, a < i + 1 → g a) := (hj_b0 (fun z => h (z.2 i (by omega)))).symm
theorem hj_cT {A : Prop} {i : Nat} {g : Nat → Prop} (h : A ∧ ∀ a, a < i → g a) (hi : g i) : (1 : Int32) = hj_b (A ∧ ∀ a, a < i + 1 → g a) := (hj_b1 ⟨h.1, lt_s h.2 hi⟩).symm
theorem hj_cz {A : Prop} {g : Nat → Prop} : hj_b A = hj_b (A ∧ ∀ a, a < 0 → g a) := hj_bi ⟨fun h => ⟨h, lt_0⟩, fun h => h.1⟩
theorem hj_ce {i : Nat} {f : Nat → Prop} : hj_b ((∀ a, a < i → f a) ∧ f i) = hj_b (∀ a, a < i + 1 → f a) := hj_bi ⟨fun h => lt_s h.1 h.2, fun h => ⟨fun a ha => h a (by omega), h i (by omega)⟩⟩
theorem hy_who {post : Int32 → Prop} (R : hj_R P K S V It gr vr sw od L q l) (i : Int32) (h : post (hj_b (∃ j, j < P ∧ i = nI j))) : wpY_who post (nI P, nI K, S, V, sw, od, L, ls) i := by
  have hP := R.1.2
  refine br_c (fun z => hj_p0 h ?_) (fun z => br_c (fun z2 => hj_p0 h ?_) (fun z2 => hj_p1 h (hj_isN hP z z2)))
  · intro ⟨j, hj, e⟩
    exact hj_nf hP (Or.inl z) e hj
  · intro ⟨j, hj, e⟩
    exact hj_nf hP (Or.inr z2) e hj
theorem hy_what {post : Int32 → Prop} (R : hj_R P K S V It gr vr sw od L q l) (i : Int32) (h : post (hj_b (∃ j, j < K ∧ i = nI j))) : wpY_what post (nI P, nI K, S, V, sw, od, L, ls) i := by
  have hP := R.2.1.2
  refine br_c (fun z => hj_p0 h ?_) (fun z => br_c (fun z2 => hj_p0 h ?_) (fun z2 => hj_p1 h (hj_isN hP z z2)))
  · intro ⟨j, hj, e⟩
    exact hj_nf hP (Or.inl z) e hj
  · intro ⟨j, hj, e⟩
    exact hj_nf hP (Or.inr z2) e hj
theorem hy_in {post : Int32 → Prop} {i : Nat} (hi : i < 4) (h : post (hj_b (S i = 1))) : wpY_in post (nI P, nI K, S, V, sw, od, L, ls) (nI i) := by
  have ci : (nI i).toNatClampNeg = i := nI_clamp (by omega)
  unfold wpY_in
  dsimp only
  rw [ci]
  exact ⟨vp_in_nI (by omega) (by omega), br_c (fun z => hj_p1 h z) (fun z => hj_p0 h z)⟩
theorem hy_rank {post : Int32 → Prop} (R : hj_R P K S V It gr vr sw od L q l) {x i : Nat} (hx : x < 4) (hi : i < 4) (h : post (nI (hj_rn q x i))) : wpY_rank post (nI P, nI K, S, V, sw, od, L, ls) (nI x) (nI i) := by
  have h4 := hj_l4 R hx
  have hL := R.2.2.2.2.2.1 x hx
  have hq := R.2.2.2.2.2.2.2.1 x hx i hi
  have ho := R.2.2.2.2.2.2.2.2.1 x hx
  have cx : (nI x).toNatClampNeg = x := nI_clamp (by omega)
  have vx : vp_in (nI x) 4 := vp_in_nI (by omega) (by omega)
  unfold hj_rn at h
  refine loop_0 (fun n k (_ : Unit) => wY_rank_2 post (nI x) (nI i) (nI P) (nI K) S V sw od L ls n (nI k)) (fun k _ => ∀ y, y < k → q (i * 4 + x) ≠ y + 1) (l x) () lt_0 ?_ ?_
  · intro n _ I
    have z : q (i * 4 + x) = 0 := by
      rcases Nat.eq_zero_or_pos (q (i * 4 + x)) with y | y
      · exact y
      · exact absurd (by omega) (I (q (i * 4 + x) - 1) (by omega))
    rw [if_pos z] at h
    show wY_rank_2 post (nI x) (nI i) (nI P) (nI K) S V sw od L ls (n + 1) (nI (l x))
    rw [wY_rank_2]
    dsimp only
    rw [cx, hL]
    refine ⟨vx, br_t (nI_le (Nat.le_refl _) (by omega)) ?_⟩
    rw [show (4 : Int32) = nI 4 from rfl, nI_add]
    exact h
  · intro n k _ hk I next
    have ck : (nI (x * 4 + k)).toNatClampNeg = x * 4 + k := nI_clamp (by omega)
    have hok := ho k hk i hi
    show wY_rank_2 post (nI x) (nI i) (nI P) (nI K) S V sw od L ls (n + 1) (nI k)
    rw [wY_rank_2]
    dsimp only
    rw [hj_c4, cx, hL, ck]
    refine ⟨vx, br_f (nI_ge hk (by omega)) (br_f (nI_ge (b := 4) (by omega) (by decide)) ⟨vp_in_nI (by omega) (by omega), hj_if hok (fun z => ?_) (fun z => nm_r (nI_1 k) (next () (lt_s I z)))⟩)⟩
    rw [if_neg (by omega), z] at h
    exact h
theorem hj_s1 (i x j : Nat) : (nI i * 4 + nI x) * 9 + 2 * nI j + 1 = nI ((i * 4 + x) * 9 + 2 * j + 1) := by
  rw [hj_c9, show (2 : Int32) = nI 2 from rfl, pk_mul, nI_add, nI_1]
theorem hj_s2 (i x j : Nat) : (nI i * 4 + nI x) * 9 + 2 * nI j + 2 = nI ((i * 4 + x) * 9 + 2 * j + 2) := by
  rw [hj_c9, show (2 : Int32) = nI 2 from rfl, pk_mul, nI_add, nI_add]
theorem hy_sawAny {post : Int32 → Prop} {i j : Nat} (hi : i < 4) (hj : j < 4) (h : post (hj_b (hj_sawA sw i j))) : wpY_sawAny post (nI P, nI K, S, V, sw, od, L, ls) (nI i) (nI j) := by
  refine loop_0 (fun n x (s : Int32) => wY_sawAny_5 post (nI i) (nI j) (nI P) (nI K) S V sw od L ls n s (nI x)) (fun x s => s = hj_b (∃ y, y < x ∧ (¬ sw ((i * 4 + y) * 9 + 2 * j + 1) = 0 ∨ ¬ sw ((i * 4 + y) * 9 + 2 * j + 2) = 0))) 4 0 hj_e00 ?_ ?_
  · intro n s I
    subst I
    exact br_t (nI_le (a := 4) (b := 4) (Nat.le_refl 4) (by decide)) ⟨hj_nb _, h⟩
  · intro n x s hx I next
    subst I
    have c1 : (nI ((i * 4 + x) * 9 + 2 * j + 1)).toNatClampNeg = (i * 4 + x) * 9 + 2 * j + 1 := nI_clamp (by omega)
    have c2 : (nI ((i * 4 + x) * 9 + 2 * j + 2)).toNatClampNeg = (i * 4 + x) * 9 + 2 * j + 2 := nI_clamp (by omega)
    have v1 : vp_in (nI ((i * 4 + x) * 9 + 2 * j + 1)) 144 := vp_in_nI (by omega) (by omega)
    have v2 : vp_in (nI ((i * 4 + x) * 9 + 2 * j + 2)) 144 := vp_in_nI (by omega) (by omega)
    show wY_sawAny_5 post (nI i) (nI j) (nI P) (nI K) S V sw od L ls (n + 1) _ (nI x)
    rw [wY_sawAny_5]
    dsimp only
    rw [hj_s1, hj_s2, c1, c2]
    refine br_f (nI_ge (b := 4) hx (by decide)) (hj_br (fun hn => ⟨v1, br_c (fun z => ⟨v2, br_c (fun z2 => nm_r (nI_1 x) (next 0 (hj_eF hn (fun w => ?_)))) (fun z2 => nm_r (nI_1 x) (next 1 (hj_eT (Or.inr z2))))⟩) (fun z => nm_r (nI_1 x) (next 1 (hj_eT (Or.inl z))))⟩) (fun hn => nm_r (nI_1 x) (next 1 (hj_e1 hn))))
    rcases w with w | w
    · exact w z
    · exact w z2
theorem hy_share {post : Int32 → Prop} (R : hj_R P K S V It gr vr sw od L q l) {i j : Nat} (hi : i < 4) (hj : j < 4) (h : post (hj_b (hj_sh K V i j))) : wpY_share post (nI P, nI K, S, V, sw, od, L, ls) (nI i) (nI j) := by
  have hK := R.2.1.2
  refine loop_0 (fun n x (s : Int32) => wY_share_5 post (nI i) (nI j) (nI P) (nI K) S V sw od L ls n s (nI x)) (fun x s => s = hj_b (∃ y, y < x ∧ (hj_W V i y ∧ hj_W V j y))) K 0 hj_e00 ?_ ?_
  · intro n s I
    subst I
    exact br_t (nI_le (Nat.le_refl _) (by omega)) ⟨hj_nb _, h⟩
  · intro n x s hx I next
    subst I
    have c1 : (nI (i * 4 + x)).toNatClampNeg = i * 4 + x := nI_clamp (by omega)
    have c2 : (nI (j * 4 + x)).toNatClampNeg = j * 4 + x := nI_clamp (by omega)
    have v1 : vp_in (nI (i * 4 + x)) 16 := vp_in_nI (by omega) (by omega)
    have v2 : vp_in (nI (j * 4 + x)) 16 := vp_in_nI (by omega) (by omega)
    show wY_share_5 post (nI i) (nI j) (nI P) (nI K) S V sw od L ls (n + 1) _ (nI x)
    rw [wY_share_5]
    dsimp only
    rw [hj_c4 i x, hj_c4 j x, c1, c2]
    exact br_f (nI_ge hx (by omega)) (hj_br (fun hn => ⟨v1, br_c (fun z => nm_r (nI_1 x) (next 0 (hj_eF hn (fun w => w.1 z)))) (fun z => ⟨v2, br_c (fun z2 => nm_r (nI_1 x) (next 0 (hj_eF hn (fun w => w.2 z2)))) (fun z2 => nm_r (nI_1 x) (next 1 (hj_eT ⟨z, z2⟩)))⟩)⟩) (fun hn => nm_r (nI_1 x) (next 1 (hj_e1 hn))))
theorem hy_readsOnly {post : Int32 → Prop} {i x : Nat} {w : Int32} (hi : i < 4) (hx : x < 4) (h : post (hj_b (hj_RY sw i x w))) : wpY_readsOnly post (nI P, nI K, S, V, sw, od, L, ls) (nI i) (nI x) w := by
  refine nm_r (hj_c9 i x) ?_
  refine loop_0 (fun n k (s : Int32) => wY_readsOnly_16 post w (nI ((i * 4 + x) * 9)) (nI P) (nI K) S V sw od L ls n s (nI k)) (fun k s => s = hj_b (∀ y, y < k → sw ((i * 4 + x) * 9 + y) = 0 ∨ (w < 0 ∧ y = 0) ∨ (¬ w < 0 ∧ (nI y = 2 * w + 1 ∨ nI y = 2 * w + 2)))) 9 1 hj_a00 ?_ ?_
  · intro n s I
    subst I
    exact br_t (nI_le (a := 9) (b := 9) (Nat.le_refl 9) (by decide)) ⟨hj_nb _, h⟩
  · intro n k s hk I next
    have ck : (nI ((i * 4 + x) * 9 + k)).toNatClampNeg = (i * 4 + x) * 9 + k := nI_clamp (by omega)
    have vk : vp_in (nI ((i * 4 + x) * 9 + k)) 144 := vp_in_nI (by omega) (by omega)
    have w1 : ((w < 0 ∧ k = 0) ∨ (¬ w < 0 ∧ (nI k = 2 * w + 1 ∨ nI k = 2 * w + 2))) → wY_readsOnly_65 post (wY_readsOnly_16 post w (nI ((i * 4 + x) * 9)) (nI P) (nI K) S V sw od L ls n) w s (nI ((i * 4 + x) * 9)) (nI k) 1 (nI P) (nI K) S V sw od L ls := by
      intro g
      subst I
      unfold wY_readsOnly_65
      rw [nI_add, ck]
      exact hj_br (fun hn => nm_r (nI_1 k) (next 0 (hj_a0 hn))) (fun hn => ⟨vk, br_c (fun z => nm_r (nI_1 k) (next 1 (hj_aT hn (Or.inl z)))) (fun z => br_f (by decide) (nm_r (nI_1 k) (next 1 (hj_aT hn (Or.inr g)))))⟩)
    have w0 : ¬ ((w < 0 ∧ k = 0) ∨ (¬ w < 0 ∧ (nI k = 2 * w + 1 ∨ nI k = 2 * w + 2))) → wY_readsOnly_65 post (wY_readsOnly_16 post w (nI ((i * 4 + x) * 9)) (nI P) (nI K) S V sw od L ls n) w s (nI ((i * 4 + x) * 9)) (nI k) 0 (nI P) (nI K) S V sw od L ls := by
      intro g
      subst I
      unfold wY_readsOnly_65
      rw [nI_add, ck]
      refine hj_br (fun hn => nm_r (nI_1 k) (next 0 (hj_a0 hn))) (fun hn => ⟨vk, br_c (fun z => nm_r (nI_1 k) (next 1 (hj_aT hn (Or.inl z)))) (fun z => br_t rfl (nm_r (nI_1 k) (next 0 (hj_aF (fun y => ?_)))))⟩)
      rcases y with y | y
      · exact z y
      · exact g y
    refine br_f (nI_ge (b := 9) hk (by decide)) (br_c (fun z => br_c (fun z2 => w1 (Or.inr ⟨Int32.not_lt.mpr z, Or.inl z2⟩)) (fun z2 => br_c (fun z3 => w1 (Or.inr ⟨Int32.not_lt.mpr z, Or.inr z3⟩)) (fun z3 => w0 (fun y => ?_)))) (fun z => pk_eq k 0 (fun z2 => w1 (Or.inl ⟨Int32.not_le.mp z, z2⟩)) (fun z2 => w0 (fun y => ?_))))
    · rcases y with y | y
      · exact Int32.not_lt.mpr z y.1
      · rcases y.2 with y | y
        · exact z2 y
        · exact z3 y
    · rcases y with y | y
      · exact z2 y.2
      · exact y.1 (Int32.not_le.mp z)
end

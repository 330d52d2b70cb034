/-- the relation at the head of a turn -/
def i_Rel (_ : Nat) (u : SX) (v : SY) : Prop := ∃ (P K : Nat) (S V It gr vr sw od L pl ls : Nat → Int32) (q l : Nat → Nat), u = (nI P, nI K, S, V, It, L, gr, vr, pl) ∧ v = (nI P, nI K, S, V, sw, od, L, ls) ∧ hj_R P K S V It gr vr sw od L q l
theorem i_up {k : Nat} {u : SX} {v : SY} (h : i_Rel k u v) : i_Rel (k + 5) u v := h
section
variable {P K : Nat} {S V It gr vr sw od L pl : Nat → Int32} {q l : Nat → Nat} {m : Nat → Nat} {n : Nat}
variable {ls : Nat → Int32}
theorem hj_rel (R : hj_R P K S V It gr vr sw od L q l) {k : Nat} : i_Rel k (nI P, nI K, S, V, It, L, gr, vr, pl) (nI P, nI K, S, V, sw, od, L, ls) := ⟨P, K, S, V, It, gr, vr, sw, od, L, pl, ls, q, l, rfl, rfl, R⟩
theorem hx_isT0 {post : Int32 → Prop} (R : hj_R P K S V It gr vr sw od L q l) {i : Int32} (hi : ¬ ∃ j, j < P ∧ i = nI j) (h : post 0) : wpX_isTransaction post (nI P, nI K, S, V, It, L, gr, vr, pl) i := hx_isT R i (by rw [hj_b0 hi]; exact h)
theorem hx_isT1 {post : Int32 → Prop} (R : hj_R P K S V It gr vr sw od L q l) {i : Nat} (hi : i < P) (h : post 1) : wpX_isTransaction post (nI P, nI K, S, V, It, L, gr, vr, pl) (nI i) := hx_isT R (nI i) (by rw [hj_b1 ⟨i, hi, rfl⟩]; exact h)
theorem hx_isK0 {post : Int32 → Prop} (R : hj_R P K S V It gr vr sw od L q l) {i : Int32} (hi : ¬ ∃ j, j < K ∧ i = nI j) (h : post 0) : wpX_isKey post (nI P, nI K, S, V, It, L, gr, vr, pl) i := hx_isK R i (by rw [hj_b0 hi]; exact h)
theorem hx_isK1 {post : Int32 → Prop} (R : hj_R P K S V It gr vr sw od L q l) {i : Nat} (hi : i < K) (h : post 1) : wpX_isKey post (nI P, nI K, S, V, It, L, gr, vr, pl) (nI i) := hx_isK R (nI i) (by rw [hj_b1 ⟨i, hi, rfl⟩]; exact h)
theorem hy_who0 {post : Int32 → Prop} (R : hj_R P K S V It gr vr sw od L q l) {i : Int32} (hi : ¬ ∃ j, j < P ∧ i = nI j) (h : post 0) : wpY_who post (nI P, nI K, S, V, sw, od, L, ls) i := hy_who R i (by rw [hj_b0 hi]; exact h)
theorem hy_who1 {post : Int32 → Prop} (R : hj_R P K S V It gr vr sw od L q l) {i : Nat} (hi : i < P) (h : post 1) : wpY_who post (nI P, nI K, S, V, sw, od, L, ls) (nI i) := hy_who R (nI i) (by rw [hj_b1 ⟨i, hi, rfl⟩]; exact h)
theorem hy_what0 {post : Int32 → Prop} (R : hj_R P K S V It gr vr sw od L q l) {i : Int32} (hi : ¬ ∃ j, j < K ∧ i = nI j) (h : post 0) : wpY_what post (nI P, nI K, S, V, sw, od, L, ls) i := hy_what R i (by rw [hj_b0 hi]; exact h)
theorem hy_what1 {post : Int32 → Prop} (R : hj_R P K S V It gr vr sw od L q l) {i : Nat} (hi : i < K) (h : post 1) : wpY_what post (nI P, nI K, S, V, sw, od, L, ls) (nI i) := hy_what R (nI i) (by rw [hj_b1 ⟨i, hi, rfl⟩]; exact h)
end
theorem hj_clX (k : Int32) : ∃ P : Nat, 1 ≤ P ∧ P ≤ 4 ∧ ∀ post : Int32 → Prop, post (nI P) → ((1 ≤ k → ((k ≤ 4 → post k) ∧ (¬ k ≤ 4 → post 4))) ∧ (¬ 1 ≤ k → post 1)) := by
  by_cases h1 : 1 ≤ k
  · by_cases h2 : k ≤ 4
    · have h0 : ¬ k < 0 := Int32.not_lt.mpr (Int32.le_trans (by decide) h1)
      obtain ⟨j, hj, rfl⟩ := nI_of h0
      have a : 1 ≤ j := (nI_leI (a := 1) (by decide) hj).mp h1
      have b : j ≤ 4 := (nI_leI (b := 4) hj (by decide)).mp h2
      exact ⟨j, a, b, fun post h => br_t h1 (br_t h2 h)⟩
    · exact ⟨4, by decide, by decide, fun post h => br_t h1 (br_f h2 h)⟩
  · exact ⟨1, by decide, by decide, fun post h => br_f h1 h⟩
theorem i_vc0 (k0 : Int32) (k1 : Int32) : wpX_init (fun u => wpY_init (fun v => i_Rel 2 u v) k0 k1) k0 k1 := by
  obtain ⟨P, a, b, hP⟩ := hj_clX k0
  obtain ⟨K, c, d, hK⟩ := hj_clX k1
  have R := hj_R0 a b c d
  refine hP (fun r_1 => wpX_clamp (fun r_2 => wpY_init (fun v => i_Rel 2 (r_1, r_2, (fun _ => 0), (fun _ => 0), (fun _ => 0), (fun _ => 0), (fun _ => 0), (fun _ => 0), (fun _ => 0)) v) k0 k1) k1 4) ?_
  refine hK (fun r_2 => wpY_init (fun v => i_Rel 2 (nI P, r_2, (fun _ => 0), (fun _ => 0), (fun _ => 0), (fun _ => 0), (fun _ => 0), (fun _ => 0), (fun _ => 0)) v) k0 k1) ?_
  exact hP (fun z => wY_init_70 (fun v => i_Rel 2 (nI P, nI K, (fun _ => 0), (fun _ => 0), (fun _ => 0), (fun _ => 0), (fun _ => 0), (fun _ => 0), (fun _ => 0)) v) k1 z 0 0 (fun _ => 0) (fun _ => 0) (fun _ => 0) (fun _ => 0) (fun _ => 0) (fun _ => 0)) (hK (fun y => i_Rel 2 (nI P, nI K, (fun _ => 0), (fun _ => 0), (fun _ => 0), (fun _ => 0), (fun _ => 0), (fun _ => 0), (fun _ => 0)) (nI P, y, (fun _ => 0), (fun _ => 0), (fun _ => 0), (fun _ => 0), (fun _ => 0), (fun _ => 0))) (hj_rel R))
theorem i_vc_write {k : Nat} {u : SX} {v : SY} (I : i_Rel k u v) (hk : k + 5 ≤ 2562) (v1 : Int32) (v2 : Int32) : wpX_write (fun r u' => wpY_write (fun r' v' => r' = r ∧ i_Rel (k + 5) u' v') v v1 v2) u v1 v2 := by
  obtain ⟨P, K, S, V, It, gr, vr, sw, od, L, pl, ls, q, l, rfl, rfl, R⟩ := I
  have hP := R.1.2
  have hK := R.2.1.2
  unfold wpX_write wpY_write
  dsimp only
  by_cases h1 : ∃ j, j < P ∧ v1 = nI j
  · obtain ⟨i, hi, rfl⟩ := h1
    by_cases h2 : ∃ j, j < K ∧ v2 = nI j
    · obtain ⟨x, hx, rfl⟩ := h2
      have ci : (nI i).toNatClampNeg = i := nI_clamp (by omega)
      have vi : vp_in (nI i) 4 := vp_in_nI (by omega) (by omega)
      have cc : (nI (i * 4 + x)).toNatClampNeg = i * 4 + x := nI_clamp (by omega)
      have vc : vp_in (nI (i * 4 + x)) 16 := vp_in_nI (by omega) (by omega)
      obtain ⟨k0, hk0, e0⟩ := R.2.2.2.1 (i * 4 + x) (by omega)
      unfold wpX_cellOf
      dsimp only
      rw [hj_c4, ci, cc, e0, nI_1]
      refine hx_isT1 R hi (br_f (by decide) (hx_isK1 R hx (br_f (by decide) ⟨vi, br_c (fun hs => ⟨vc, pk_lt k0 2 (fun hlt => ⟨vc, vc, nm_e ⟨vc, ?_⟩⟩) (fun hlt => ?_)⟩) (fun hs => ?_)⟩)))
      · exact hy_who1 R hi (br_f (by decide) (hy_what1 R hx (br_f (by decide) ⟨vi, br_t hs ⟨vc, br_t (nI_lt (b := 2) hlt (by decide)) ⟨vc, vc, nm_e ⟨vc, rfl, hj_rel (hj_RV R (by omega))⟩⟩⟩⟩)))
      · exact hy_who1 R hi (br_f (by decide) (hy_what1 R hx (br_f (by decide) ⟨vi, br_t hs ⟨vc, br_f (nI_nlt (b := 2) hlt (by omega)) ⟨rfl, hj_rel R⟩⟩⟩)))
      · exact hy_who1 R hi (br_f (by decide) (hy_what1 R hx (br_f (by decide) ⟨vi, br_f hs ⟨rfl, hj_rel R⟩⟩)))
    · exact hx_isT1 R hi (br_f (by decide) (hx_isK0 R h2 (br_t rfl (hy_who1 R hi (br_f (by decide) (hy_what0 R h2 (br_t rfl ⟨rfl, hj_rel R⟩)))))))
  · exact hx_isT0 R h1 (br_t rfl (hy_who0 R h1 (br_t rfl ⟨rfl, hj_rel R⟩)))
theorem i_vc_readGround {k : Nat} {u : SX} {v : SY} (I : i_Rel k u v) (hk : k + 5 ≤ 2562) (v1 : Int32) (v2 : Int32) : wpX_readGround (fun r u' => wpY_readGround (fun r' v' => r' = r ∧ i_Rel (k + 5) u' v') v v1 v2) u v1 v2 := by
  obtain ⟨P, K, S, V, It, gr, vr, sw, od, L, pl, ls, q, l, rfl, rfl, R⟩ := I
  have hP := R.1.2
  have hK := R.2.1.2
  unfold wpX_readGround wpY_readGround
  dsimp only
  by_cases h1 : ∃ j, j < P ∧ v1 = nI j
  · obtain ⟨i, hi, rfl⟩ := h1
    by_cases h2 : ∃ j, j < K ∧ v2 = nI j
    · obtain ⟨x, hx, rfl⟩ := h2
      have ci : (nI i).toNatClampNeg = i := nI_clamp (by omega)
      have vi : vp_in (nI i) 4 := vp_in_nI (by omega) (by omega)
      have cc : (nI (i * 4 + x)).toNatClampNeg = i * 4 + x := nI_clamp (by omega)
      have vc : vp_in (nI (i * 4 + x)) 16 := vp_in_nI (by omega) (by omega)
      have c9 : (nI ((i * 4 + x) * 9)).toNatClampNeg = (i * 4 + x) * 9 := nI_clamp (by omega)
      have v9 : vp_in (nI ((i * 4 + x) * 9)) 144 := vp_in_nI (by omega) (by omega)
      unfold wpX_cellOf
      dsimp only
      rw [hj_c9, hj_c4, ci, cc, c9]
      refine hx_isT1 R hi (br_f (by decide) (hx_isK1 R hx (br_f (by decide) ⟨vi, br_c (fun hs => ⟨vc, nm_e ?_⟩) (fun hs => ?_)⟩)))
      · exact hy_who1 R hi (br_f (by decide) (hy_what1 R hx (br_f (by decide) ⟨vi, br_t hs ⟨v9, nm_e ⟨rfl, hj_rel (hj_Rg R _)⟩⟩⟩)))
      · exact hy_who1 R hi (br_f (by decide) (hy_what1 R hx (br_f (by decide) ⟨vi, br_f hs ⟨rfl, hj_rel R⟩⟩)))
    · exact hx_isT1 R hi (br_f (by decide) (hx_isK0 R h2 (br_t rfl (hy_who1 R hi (br_f (by decide) (hy_what0 R h2 (br_t rfl ⟨rfl, hj_rel R⟩)))))))
  · exact hx_isT0 R h1 (br_t rfl (hy_who0 R h1 (br_t rfl ⟨rfl, hj_rel R⟩)))
theorem hj_s0 (i x j v : Nat) : (nI i * 4 + nI x) * 9 + 2 * nI j + nI (v + 1) = nI ((i * 4 + x) * 9 + (2 * j + v + 1)) := by
  rw [hj_c9, show (2 : Int32) = nI 2 from rfl, pk_mul, nI_add, nI_add]
  exact congrArg nI (by omega)
theorem i_vc_read {k : Nat} {u : SX} {v : SY} (I : i_Rel k u v) (hk : k + 5 ≤ 2562) (v1 : Int32) (v2 : Int32) (v3 : Int32) (v4 : Int32) : wpX_read (fun r u' => wpY_read (fun r' v' => r' = r ∧ i_Rel (k + 5) u' v') v v1 v2 v3 v4) u v1 v2 v3 v4 := by
  obtain ⟨P, K, S, V, It, gr, vr, sw, od, L, pl, ls, q, l, rfl, rfl, R⟩ := I
  have hP := R.1.2
  have hK := R.2.1.2
  unfold wpX_read wpY_read
  dsimp only
  by_cases h1 : ∃ j, j < P ∧ v1 = nI j
  · obtain ⟨i, hi, rfl⟩ := h1
    by_cases h3 : ∃ j, j < P ∧ v3 = nI j
    · obtain ⟨j, hj, rfl⟩ := h3
      by_cases h2 : ∃ j, j < K ∧ v2 = nI j
      · obtain ⟨x, hx, rfl⟩ := h2
        have ci : (nI i).toNatClampNeg = i := nI_clamp (by omega)
        have vi : vp_in (nI i) 4 := vp_in_nI (by omega) (by omega)
        have cc : (nI (j * 4 + x)).toNatClampNeg = j * 4 + x := nI_clamp (by omega)
        have vc : vp_in (nI (j * 4 + x)) 16 := vp_in_nI (by omega) (by omega)
        obtain ⟨k0, hk0, e0⟩ := R.2.2.2.1 (j * 4 + x) (by omega)
        unfold wpX_cellOf wpX_readOf
        dsimp only
        rw [hj_c4 j x, ci, cc, e0]
        refine hx_isT1 R hi (br_f (by decide) (hx_isT1 R hj (br_f (by decide) (hx_isK1 R hx (br_f (by decide) (br_c (fun he => ?_) (fun he => ⟨vi, br_c (fun hs => br_c (fun h4 => ?_) (fun h4 => ⟨vc, br_c (fun h5 => ?_) (fun h5 => ?_)⟩)) (fun hs => ?_)⟩)))))))
        · exact hy_who1 R hi (br_f (by decide) (hy_who1 R hj (br_f (by decide) (hy_what1 R hx (br_f (by decide) (br_t he ⟨rfl, hj_rel R⟩))))))
        · exact hy_who1 R hi (br_f (by decide) (hy_who1 R hj (br_f (by decide) (hy_what1 R hx (br_f (by decide) (br_f he ⟨vi, br_t hs (br_t h4 ⟨rfl, hj_rel R⟩)⟩))))))
        · obtain ⟨w, hw, rfl⟩ := nI_of (x := v4) (Int32.not_lt.mpr (Int32.le_trans (by decide) (Int32.not_lt.mp h4)))
          have w1 : 1 ≤ w := (nI_leI (a := 1) (by decide) hw).mp (Int32.not_lt.mp h4)
          have w2 : w ≤ k0 := (nI_leI hw (by omega)).mp h5
          obtain ⟨w', rfl⟩ : ∃ w', w = w' + 1 := ⟨w - 1, by omega⟩
          have cr : (nI ((i * 4 + x) * 8 + (2 * j + w'))).toNatClampNeg = (i * 4 + x) * 8 + (2 * j + w') := nI_clamp (by omega)
          have vr1 : vp_in (nI ((i * 4 + x) * 8 + (2 * j + w'))) 128 := vp_in_nI (by omega) (by omega)
          have cs : (nI ((i * 4 + x) * 9 + (2 * j + w' + 1))).toNatClampNeg = (i * 4 + x) * 9 + (2 * j + w' + 1) := nI_clamp (by omega)
          have vs1 : vp_in (nI ((i * 4 + x) * 9 + (2 * j + w' + 1))) 144 := vp_in_nI (by omega) (by omega)
          rw [hj_ro, hj_s0, cr, cs]
          exact ⟨vr1, nm_e (hy_who1 R hi (br_f (by decide) (hy_who1 R hj (br_f (by decide) (hy_what1 R hx (br_f (by decide) (br_f he ⟨vi, br_t hs (br_f h4 (br_f (nI_nlt (a := 2) (by omega) (by decide)) ⟨vc, br_t h5 ⟨vs1, nm_e ⟨rfl, hj_rel (hj_Rv R (by omega) hx (by omega) (by omega) _)⟩⟩⟩))⟩)))))))⟩
        · exact hy_who1 R hi (br_f (by decide) (hy_who1 R hj (br_f (by decide) (hy_what1 R hx (br_f (by decide) (br_f he ⟨vi, br_t hs (br_f h4 (br_c (fun _ => ⟨rfl, hj_rel R⟩) (fun _ => ⟨vc, br_f h5 ⟨rfl, hj_rel R⟩⟩)))⟩))))))
        · exact hy_who1 R hi (br_f (by decide) (hy_who1 R hj (br_f (by decide) (hy_what1 R hx (br_f (by decide) (br_f he ⟨vi, br_f hs ⟨rfl, hj_rel R⟩⟩))))))
      · exact hx_isT1 R hi (br_f (by decide) (hx_isT1 R hj (br_f (by decide) (hx_isK0 R h2 (br_t rfl (hy_who1 R hi (br_f (by decide) (hy_who1 R hj (br_f (by decide) (hy_what0 R h2 (br_t rfl ⟨rfl, hj_rel R⟩)))))))))))
    · exact hx_isT1 R hi (br_f (by decide) (hx_isT0 R h3 (br_t rfl (hy_who1 R hi (br_f (by decide) (hy_who0 R h3 (br_t rfl ⟨rfl, hj_rel R⟩)))))))
  · exact hx_isT0 R h1 (br_t rfl (hy_who0 R h1 (br_t rfl ⟨rfl, hj_rel R⟩)))
theorem i_vc_install {k : Nat} {u : SX} {v : SY} (I : i_Rel k u v) (hk : k + 5 ≤ 2562) (v1 : Int32) (v2 : Int32) : wpX_install (fun r u' => wpY_install (fun r' v' => r' = r ∧ i_Rel (k + 5) u' v') v v1 v2) u v1 v2 := by
  obtain ⟨P, K, S, V, It, gr, vr, sw, od, L, pl, ls, q, l, rfl, rfl, R⟩ := I
  have hP := R.1.2
  have hK := R.2.1.2
  unfold wpX_install wpY_install
  dsimp only
  by_cases h1 : ∃ j, j < P ∧ v2 = nI j
  · obtain ⟨i, hi, rfl⟩ := h1
    by_cases h2 : ∃ j, j < K ∧ v1 = nI j
    · obtain ⟨x, hx, rfl⟩ := h2
      have hi4 : i < 4 := by omega
      have hx4 : x < 4 := by omega
      have cx : (nI x).toNatClampNeg = x := nI_clamp (by omega)
      have vx : vp_in (nI x) 4 := vp_in_nI (by omega) (by omega)
      have cc : (nI (i * 4 + x)).toNatClampNeg = i * 4 + x := nI_clamp (by omega)
      have vc : vp_in (nI (i * 4 + x)) 16 := vp_in_nI (by omega) (by omega)
      have hl4 := hj_l4 R hx4
      have eq := R.2.2.2.2.1 (i * 4 + x) (by omega)
      have eL := R.2.2.2.2.2.1 x hx4
      have hql := R.2.2.2.2.2.2.2.1 x hx4 i hi4
      obtain ⟨k0, hk0, e0⟩ := R.2.2.2.1 (i * 4 + x) (by omega)
      unfold wpX_cellOf
      dsimp only
      rw [hj_c4 i x, cx, cc, e0, eq, eL, nI_1, hj_c4 x (l x)]
      refine hx_isT1 R hi (br_f (by decide) (hx_isK1 R hx (br_f (by decide) (hx_wrote hi4 hx4 (hj_br (fun hw => ?_) (fun hw => ⟨vc, pk_eq (q (i * 4 + x)) 0 (fun hq => ⟨vx, vx, nm_e ⟨vx, vc, nm_e ?_⟩⟩) (fun hq => ?_)⟩))))))
      · have z : k0 = 0 := by
          have a : V (i * 4 + x) ≤ 0 := Classical.not_not.mp hw
          rw [e0] at a
          exact Nat.le_zero.mp ((nI_leI (b := 0) (by omega) (by decide)).mp a)
        subst z
        exact hy_who1 R hi (br_f (by decide) (hy_what1 R hx (br_f (by decide) ⟨vc, br_t rfl ⟨rfl, hj_rel R⟩⟩)))
      · have hl3 := hj_l3 R hx4 hi4 hq
        have k1 : 0 < k0 := by
          rcases Nat.eq_zero_or_pos k0 with z | z
          · refine absurd ?_ hw
            rw [e0, z]
            decide
          · exact z
        have co : (nI (x * 4 + l x)).toNatClampNeg = x * 4 + l x := nI_clamp (by omega)
        have vo : vp_in (nI (x * 4 + l x)) 16 := vp_in_nI (by omega) (by omega)
        have rn : hj_rn q x i = 4 + i := if_pos hq
        rw [co, pk_us]
        exact hy_who1 R hi (br_f (by decide) (hy_what1 R hx (br_f (by decide) ⟨vc, br_f (nI_ne0 k1 (by omega)) (hy_rank R hx4 hi4 (by
          rw [rn]
          exact br_f (nI_nlt (b := 4) (by omega) (by omega)) ⟨vx, br_t (nI_lt (b := 4) hl3 (by decide)) ⟨vx, vo, nm_e ⟨vx, vx, nm_e ⟨rfl, hj_rel (hj_Ri R hi4 hx4 hq)⟩⟩⟩⟩))⟩)))
      · have k1 : 0 < k0 := by
          rcases Nat.eq_zero_or_pos k0 with z | z
          · refine absurd ?_ hw
            rw [e0, z]
            decide
          · exact z
        have rn : hj_rn q x i = q (i * 4 + x) - 1 := if_neg hq
        exact hy_who1 R hi (br_f (by decide) (hy_what1 R hx (br_f (by decide) ⟨vc, br_f (nI_ne0 k1 (by omega)) (hy_rank R hx4 hi4 (by
          rw [rn]
          exact br_t (nI_lt (b := 4) (by omega) (by decide)) ⟨rfl, hj_rel R⟩))⟩)))
    · exact hx_isT1 R hi (br_f (by decide) (hx_isK0 R h2 (br_t rfl (hy_who1 R hi (br_f (by decide) (hy_what0 R h2 (br_t rfl ⟨rfl, hj_rel R⟩)))))))
  · exact hx_isT0 R h1 (br_t rfl (hy_who0 R h1 (br_t rfl ⟨rfl, hj_rel R⟩)))
theorem i_vc_commit {k : Nat} {u : SX} {v : SY} (I : i_Rel k u v) (hk : k + 5 ≤ 2562) (v1 : Int32) : wpX_commit (fun r u' => wpY_commit (fun r' v' => r' = r ∧ i_Rel (k + 5) u' v') v v1) u v1 := by
  obtain ⟨P, K, S, V, It, gr, vr, sw, od, L, pl, ls, q, l, rfl, rfl, R⟩ := I
  have hP := R.1.2
  unfold wpX_commit wpY_commit wpX_close wpY_close
  dsimp only
  by_cases h1 : ∃ j, j < P ∧ v1 = nI j
  · obtain ⟨i, hi, rfl⟩ := h1
    have ci : (nI i).toNatClampNeg = i := nI_clamp (by omega)
    have vi : vp_in (nI i) 4 := vp_in_nI (by omega) (by omega)
    rw [ci]
    exact hx_isT1 R hi (br_f (by decide) ⟨vi, br_c (fun hs => ⟨vi, nm_e (hy_who1 R hi (br_f (by decide) ⟨vi, br_t hs ⟨vi, nm_e ⟨rfl, hj_rel (hj_RS R hi 1)⟩⟩⟩))⟩) (fun hs => hy_who1 R hi (br_f (by decide) ⟨vi, br_f hs ⟨rfl, hj_rel R⟩⟩))⟩)
  · exact hx_isT0 R h1 (br_t rfl (hy_who0 R h1 (br_t rfl ⟨rfl, hj_rel R⟩)))
theorem i_vc_abort {k : Nat} {u : SX} {v : SY} (I : i_Rel k u v) (hk : k + 5 ≤ 2562) (v1 : Int32) : wpX_abort (fun r u' => wpY_abort (fun r' v' => r' = r ∧ i_Rel (k + 5) u' v') v v1) u v1 := by
  obtain ⟨P, K, S, V, It, gr, vr, sw, od, L, pl, ls, q, l, rfl, rfl, R⟩ := I
  have hP := R.1.2
  unfold wpX_abort wpY_abort wpX_close wpY_close
  dsimp only
  by_cases h1 : ∃ j, j < P ∧ v1 = nI j
  · obtain ⟨i, hi, rfl⟩ := h1
    have ci : (nI i).toNatClampNeg = i := nI_clamp (by omega)
    have vi : vp_in (nI i) 4 := vp_in_nI (by omega) (by omega)
    rw [ci]
    exact hx_isT1 R hi (br_f (by decide) ⟨vi, br_c (fun hs => ⟨vi, nm_e (hy_who1 R hi (br_f (by decide) ⟨vi, br_t hs ⟨vi, nm_e ⟨rfl, hj_rel (hj_RS R hi 2)⟩⟩⟩))⟩) (fun hs => hy_who1 R hi (br_f (by decide) ⟨vi, br_f hs ⟨rfl, hj_rel R⟩⟩))⟩)
  · exact hx_isT0 R h1 (br_t rfl (hy_who0 R h1 (br_t rfl ⟨rfl, hj_rel R⟩)))
theorem i_vc_state {k : Nat} {u : SX} {v : SY} (I : i_Rel k u v) (hk : k + 5 ≤ 2562) (v1 : Int32) : wpX_state (fun r => wpY_state (fun r' => r' = r ∧ i_Rel (k + 5) u v) v v1) u v1 := by
  obtain ⟨P, K, S, V, It, gr, vr, sw, od, L, pl, ls, q, l, rfl, rfl, R⟩ := I
  have hP := R.1.2
  unfold wpX_state wpY_state
  dsimp only
  by_cases h1 : ∃ j, j < P ∧ v1 = nI j
  · obtain ⟨i, hi, rfl⟩ := h1
    have vi : vp_in (nI i) 4 := vp_in_nI (by omega) (by omega)
    exact hx_isT1 R hi (br_f (by decide) ⟨vi, hy_who1 R hi (br_f (by decide) ⟨vi, rfl, hj_rel R⟩)⟩)
  · exact hx_isT0 R h1 (br_t rfl (hy_who0 R h1 (br_t rfl ⟨rfl, hj_rel R⟩)))

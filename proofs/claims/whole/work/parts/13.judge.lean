section
variable {P K : Nat} {S V It gr vr sw od L pl : Nat → Int32} {q l : Nat → Nat} {m : Nat → Nat} {n : Nat}
variable {ls : Nat → Int32}
theorem hj_n4 (R : hj_R P K S V It gr vr sw od L q l) (hnS : n = hj_cn S P) : n ≤ 4 := by
  have := hj_cn_le S P
  have := R.1.2
  omega
theorem hj_c31 {c n : Nat} (hn : n ≤ 4) (hc : c < 2 ^ (2 * n)) : c < 2 ^ 31 := by
  have := hj_p8 hn
  omega
/-- the end of Y's commitIf: the state is closed, the judgement is asked -/
theorem hy_cif {post : Int32 → SY → Prop} (R : hj_R P K S V It gr vr sw od L q l) (hnS : n = hj_cn S P) {kind : Nat} {x1 : Int32} (hk : kind ≤ 4) (h0 : ∀ ls', ¬ hj_J P K S V gr vr q n kind → wY_commitIf_101 post x1 (nI P) (nI K) S V sw od L ls') (h1 : ∀ ls', hj_J P K S V gr vr q n kind → wY_commitIf_97 post x1 (nI P) (nI K) S V sw od L ls') : (nI kind = 0 → wpY_clean (fun r_65 => (r_65 = 0 → wY_commitIf_49 post x1 (nI kind) (nI P) (nI K) S V sw od L ls) ∧ (¬ r_65 = 0 → wY_commitIf_97 post x1 (nI P) (nI K) S V sw od L ls)) (nI P, nI K, S, V, sw, od, L, ls)) ∧ (¬ nI kind = 0 → wY_commitIf_49 post x1 (nI kind) (nI P) (nI K) S V sw od L ls) := by
  have hJ0 := hj_J0 R hnS
  rcases (by omega : kind = 0 ∨ kind = 1 ∨ kind = 2 ∨ kind = 3 ∨ kind = 4) with e | e | e | e | e <;> subst e
  · exact br_t rfl (hy_clean R (hj_br (fun hq => br_f (by decide) (br_f (by decide) (br_f (by decide) (br_f (by decide) (h0 ls (fun w => hq (hJ0.mp w))))))) (fun hq => h1 ls (hJ0.mpr hq))))
  · exact br_f (by decide) (br_t rfl (hy_ordered R hnS (fun ls' w => br_t rfl (br_f (by decide) (br_f (by decide) (br_f (by decide) (h0 ls' w))))) (fun ls' w => br_f (by decide) (h1 ls' w))))
  · exact br_f (by decide) (br_f (by decide) (br_t rfl (hy_sourced R hnS (fun ls' w => br_t rfl (br_f (by decide) (br_f (by decide) (h0 ls' w)))) (fun ls' w => br_f (by decide) (h1 ls' w)))))
  · exact br_f (by decide) (br_f (by decide) (br_f (by decide) (br_t rfl (hy_snapshot R hnS (fun ls' w => br_t rfl (br_f (by decide) (h0 ls' w))) (fun ls' w => br_f (by decide) (h1 ls' w))))))
  · exact br_f (by decide) (br_f (by decide) (br_f (by decide) (br_f (by decide) (br_t rfl (hy_serial R hnS (fun ls' w => br_t rfl (h0 ls' w)) (fun ls' w _ => br_f (by decide) (h1 ls' w)))))))
end
theorem i_vc_clean {k : Nat} {u : SX} {v : SY} (I : i_Rel k u v) (hk : k + 5 ≤ 2562) : wpX_clean (fun r => wpY_clean (fun r' => r' = r ∧ i_Rel (k + 5) u v) v) u := by
  obtain ⟨P, K, S, V, It, gr, vr, sw, od, L, pl, ls, q, l, rfl, rfl, R⟩ := I
  unfold wpX_clean
  dsimp only
  exact hx_isClean R ⟨hj_nb _, hy_clean R ⟨rfl, hj_rel R⟩⟩
theorem i_vc_ordered {k : Nat} {u : SX} {v : SY} (I : i_Rel k u v) (hk : k + 5 ≤ 2562) : wpX_ordered (fun r u' => wpY_ordered (fun r' v' => r' = r ∧ i_Rel (k + 5) u' v') v) u := by
  obtain ⟨P, K, S, V, It, gr, vr, sw, od, L, pl, ls, q, l, rfl, rfl, R⟩ := I
  unfold wpX_ordered
  dsimp only
  exact hx_first R rfl (kind := 1) (by decide) (fun pl' w => br_t rfl (hy_ordered R rfl (fun _ _ => ⟨rfl, hj_rel R⟩) (fun _ w' => absurd w' w))) (fun pl' c w hF => br_f (hj_nm1 (hj_c31 (hj_n4 R rfl) hF.1)) (hy_ordered R rfl (fun _ w' => absurd w w') (fun _ _ => ⟨rfl, hj_rel R⟩)))
theorem i_vc_sourced {k : Nat} {u : SX} {v : SY} (I : i_Rel k u v) (hk : k + 5 ≤ 2562) : wpX_sourced (fun r u' => wpY_sourced (fun r' v' => r' = r ∧ i_Rel (k + 5) u' v') v) u := by
  obtain ⟨P, K, S, V, It, gr, vr, sw, od, L, pl, ls, q, l, rfl, rfl, R⟩ := I
  unfold wpX_sourced
  dsimp only
  exact hx_first R rfl (kind := 2) (by decide) (fun pl' w => br_t rfl (hy_sourced R rfl (fun _ _ => ⟨rfl, hj_rel R⟩) (fun _ w' => absurd w' w))) (fun pl' c w hF => br_f (hj_nm1 (hj_c31 (hj_n4 R rfl) hF.1)) (hy_sourced R rfl (fun _ w' => absurd w w') (fun _ _ => ⟨rfl, hj_rel R⟩)))
theorem i_vc_snapshot {k : Nat} {u : SX} {v : SY} (I : i_Rel k u v) (hk : k + 5 ≤ 2562) : wpX_snapshot (fun r u' => wpY_snapshot (fun r' v' => r' = r ∧ i_Rel (k + 5) u' v') v) u := by
  obtain ⟨P, K, S, V, It, gr, vr, sw, od, L, pl, ls, q, l, rfl, rfl, R⟩ := I
  unfold wpX_snapshot
  dsimp only
  exact hx_first R rfl (kind := 3) (by decide) (fun pl' w => br_t rfl (hy_snapshot R rfl (fun _ _ => ⟨rfl, hj_rel R⟩) (fun _ w' => absurd w' w))) (fun pl' c w hF => br_f (hj_nm1 (hj_c31 (hj_n4 R rfl) hF.1)) (hy_snapshot R rfl (fun _ w' => absurd w w') (fun _ _ => ⟨rfl, hj_rel R⟩)))
theorem i_vc_serial {k : Nat} {u : SX} {v : SY} (I : i_Rel k u v) (hk : k + 5 ≤ 2562) : wpX_serial (fun r u' => wpY_serial (fun r' v' => r' = r ∧ i_Rel (k + 5) u' v') v) u := by
  obtain ⟨P, K, S, V, It, gr, vr, sw, od, L, pl, ls, q, l, rfl, rfl, R⟩ := I
  unfold wpX_serial
  dsimp only
  exact hx_first R rfl (kind := 4) (by decide) (fun pl' w => br_t rfl (hy_serial R rfl (fun _ _ => ⟨rfl, hj_rel R⟩) (fun _ w' _ => absurd w' w))) (fun pl' c w hF => br_f (hj_nm1 (hj_c31 (hj_n4 R rfl) hF.1)) (hy_serial R rfl (fun _ w' => absurd w w') (fun _ _ _ => ⟨rfl, hj_rel R⟩)))
theorem i_vc_serialAt {k : Nat} {u : SX} {v : SY} (I : i_Rel k u v) (hk : k + 5 ≤ 2562) (v1 : Int32) : wpX_serialAt (fun r u' => wpY_serialAt (fun r' v' => r' = r ∧ i_Rel (k + 5) u' v') v v1) u v1 := by
  obtain ⟨P, K, S, V, It, gr, vr, sw, od, L, pl, ls, q, l, rfl, rfl, R⟩ := I
  have hn := hj_n4 R rfl
  unfold wpX_serialAt wpY_serialAt
  dsimp only
  refine hx_committedCount R (br_c (fun h1 => ?_) (fun h1 => br_c (fun h2 => ?_) (fun h2 => ?_)))
  · exact hy_serial R rfl (fun ls' w => hy_committed R (br_t rfl ⟨rfl, hj_rel R⟩)) (fun ls' w _ => hy_committed R (br_f (by decide) (br_t h1 ⟨rfl, hj_rel R⟩)))
  · obtain ⟨j, hj, rfl⟩ := nI_of h1
    have hjn : j < hj_cn S P := (nI_ltI hj (by omega)).mp h2
    refine hx_first R rfl (kind := 4) (by decide) (fun pl' w => br_t rfl ?_) (fun pl' c w hF => br_f (hj_nm1 (hj_c31 hn hF.1)) ?_)
    · exact hy_serial R rfl (fun ls' w' => hy_committed R (br_t rfl ⟨rfl, hj_rel R⟩)) (fun ls' w' _ => absurd w' w)
    · have hc8 := hj_p8 hn
      have hc := hF.1
      have e3 : nI j &&& 3 = nI j := by
        rw [pk_andN (by omega) 2 (by decide), Nat.mod_eq_of_lt (by omega)]
      have cj : (nI j).toNatClampNeg = j := nI_clamp (by omega)
      have vj : vp_in (nI j) 4 := vp_in_nI (by omega) (by omega)
      have hge : ¬ nI (hj_cn S P) ≤ nI j := nI_ge hjn (by omega)
      unfold wpX_memberAt
      rw [hj_mem (by omega) hn hjn, e3, cj]
      exact hy_serial R rfl (fun ls' w' => absurd w w') (fun ls' w' hl => hy_committed R (br_f (by decide) (br_f h1 (br_f hge ⟨vj, hl c hF j hjn, hj_rel R⟩))))
  · have h3 : nI (hj_cn S P) ≤ v1 := Int32.not_lt.mp h2
    exact hy_serial R rfl (fun ls' w => hy_committed R (br_t rfl ⟨rfl, hj_rel R⟩)) (fun ls' w _ => hy_committed R (br_f (by decide) (br_f h1 (br_t h3 ⟨rfl, hj_rel R⟩))))
theorem i_vc_commitIf {k : Nat} {u : SX} {v : SY} (I : i_Rel k u v) (hk : k + 5 ≤ 2562) (v1 : Int32) (v2 : Int32) : wpX_commitIf (fun r u' => wpY_commitIf (fun r' v' => r' = r ∧ i_Rel (k + 5) u' v') v v1 v2) u v1 v2 := by
  obtain ⟨P, K, S, V, It, gr, vr, sw, od, L, pl, ls, q, l, rfl, rfl, R⟩ := I
  have hP := R.1.2
  unfold wpX_commitIf wpY_commitIf
  dsimp only
  by_cases h1 : ∃ j, j < P ∧ v1 = nI j
  · obtain ⟨i, hi, rfl⟩ := h1
    have ci : (nI i).toNatClampNeg = i := nI_clamp (by omega)
    have vi : vp_in (nI i) 4 := vp_in_nI (by omega) (by omega)
    have R1 := hj_RS R hi 1
    have R2 := hj_RS R1 hi 2
    rw [ci]
    refine hx_isT1 R hi (br_f (by decide) (br_c (fun h2 => ?_) (fun h2 => br_c (fun h3 => ⟨vi, br_c (fun hs => ⟨vi, nm_e ?_⟩) (fun hs => ?_)⟩) (fun h3 => ?_))))
    · exact hy_who1 R hi (br_f (by decide) (br_t h2 ⟨rfl, hj_rel R⟩))
    · obtain ⟨kind, hkd, rfl⟩ := nI_of h2
      have hk4 : kind ≤ 4 := (nI_leI (b := 4) hkd (by decide)).mp h3
      refine hx_first R1 rfl hk4 (fun pl' w => br_t rfl ⟨vi, nm_e ?_⟩) (fun pl' c w hF => br_f (hj_nm1 (hj_c31 (hj_n4 R1 rfl) hF.1)) ?_)
      · exact hy_who1 R hi (br_f (by decide) (br_f h2 (br_t h3 ⟨vi, br_t hs ⟨vi, nm_e (hy_cif R1 rfl hk4 (fun ls' _ => br_t rfl ⟨vi, nm_r (by rw [ci]) ⟨rfl, hj_rel R2⟩⟩) (fun ls' w' => absurd w' w))⟩⟩)))
      · exact hy_who1 R hi (br_f (by decide) (br_f h2 (br_t h3 ⟨vi, br_t hs ⟨vi, nm_e (hy_cif R1 rfl hk4 (fun ls' w' => absurd w w') (fun ls' _ => br_f (by decide) ⟨rfl, hj_rel R1⟩))⟩⟩)))
    · exact hy_who1 R hi (br_f (by decide) (br_f h2 (br_t h3 ⟨vi, br_f hs ⟨rfl, hj_rel R⟩⟩)))
    · exact hy_who1 R hi (br_f (by decide) (br_f h2 (br_f h3 ⟨rfl, hj_rel R⟩)))
  · exact hx_isT0 R h1 (br_t rfl (hy_who0 R h1 (br_t rfl ⟨rfl, hj_rel R⟩)))

section
variable {P K : Nat} {S V It gr vr sw od L ls : Nat → Int32} {q l : Nat → Nat} {m : Nat → Nat} {n : Nat}
theorem hj_c16 {c : Nat} (hc : c < 16) : nI c / 4 = nI (c / 4) := pk_div (d := 4) (by omega) (by decide) (by decide)
theorem hj_r16 {c : Nat} (hc : c < 16) : nI c - nI c / 4 * 4 = nI (c % 4) := pk_rem (d := 4) (by omega) (by decide) (by decide)
theorem hj_s9 (c j : Nat) : nI c * 9 + 2 * nI j + 1 = nI (c * 9 + 2 * j + 1) := by
  rw [show (9 : Int32) = nI 9 from rfl, show (2 : Int32) = nI 2 from rfl, pk_mul, pk_mul, nI_add, nI_1]
theorem hj_t9 (c j : Nat) : nI c * 9 + 2 * nI j + 2 = nI (c * 9 + 2 * j + 2) := by
  rw [show (9 : Int32) = nI 9 from rfl, show (2 : Int32) = nI 2 from rfl, pk_mul, pk_mul, nI_add, nI_add]
def hj_cy (S V sw : Nat → Int32) (c j : Nat) : Prop := S (c / 4) = 1 → (sw (c * 9 + 2 * j + 1) = 0 ∧ sw (c * 9 + 2 * j + 2) = 0) ∨ (S j = 1 ∧ (sw (c * 9 + 2 * j + 1) = 0 ∨ V (j * 4 + c % 4) = 1) ∧ (sw (c * 9 + 2 * j + 2) = 0 ∨ V (j * 4 + c % 4) = 2))
theorem hy_clean {post : Int32 → Prop} (R : hj_R P K S V It gr vr sw od L q l) (h : post (hj_b (hj_CX P K S V vr))) : wpY_clean post (nI P, nI K, S, V, sw, od, L, ls) := by
  have hE : (∀ c, c < 16 → ∀ j, j < 4 → hj_cy S V sw c j) ↔ hj_CX P K S V vr := hj_CXY R.1.2 R.2.1.2 R.2.2.1 R.2.2.2.2.2.2.2.2.2.2.1 R.2.2.2.2.2.2.2.2.2.2.2
  rw [← hj_bi hE] at h
  refine loop_0 (fun n c (s : Int32) => wY_clean_4 post (nI P) (nI K) S V sw od L ls n s (nI c)) (fun c s => s = hj_b (∀ y, y < c → ∀ j, j < 4 → hj_cy S V sw y j)) 16 1 hj_a00 ?_ ?_
  · intro n s I
    subst I
    exact br_t (nI_le (a := 16) (b := 16) (Nat.le_refl 16) (by decide)) ⟨hj_nb _, h⟩
  · intro n c s hc I next
    subst I
    refine br_f (nI_ge (b := 16) hc (by decide)) ?_
    refine loop_0 (fun n2 j (s : Int32) => wY_clean_12 post (wY_clean_4 post (nI P) (nI K) S V sw od L ls n) (nI c) (nI P) (nI K) S V sw od L ls n2 s (nI j)) (fun j s => s = hj_b ((∀ y, y < c → ∀ j, j < 4 → hj_cy S V sw y j) ∧ ∀ j', j' < j → hj_cy S V sw c j')) 4 _ hj_cz ?_ ?_
    · intro n2 s I'
      subst I'
      exact br_t (nI_le (a := 4) (b := 4) (Nat.le_refl 4) (by decide)) (nm_r (nI_1 c) (next _ (hj_ce (f := fun y => ∀ j, j < 4 → hj_cy S V sw y j))))
    · intro n2 j s hj I' next'
      have c1 : (nI (c * 9 + 2 * j + 1)).toNatClampNeg = c * 9 + 2 * j + 1 := nI_clamp (by omega)
      have c2 : (nI (c * 9 + 2 * j + 2)).toNatClampNeg = c * 9 + 2 * j + 2 := nI_clamp (by omega)
      have v1 : vp_in (nI (c * 9 + 2 * j + 1)) 144 := vp_in_nI (by omega) (by omega)
      have v2 : vp_in (nI (c * 9 + 2 * j + 2)) 144 := vp_in_nI (by omega) (by omega)
      have c3 : (nI (j * 4 + c % 4)).toNatClampNeg = j * 4 + c % 4 := nI_clamp (by omega)
      have v3 : vp_in (nI (j * 4 + c % 4)) 16 := vp_in_nI (by omega) (by omega)
      have hd : ¬ (4 : Int32) = 0 := by decide
      have keep : hj_cy S V sw c j → wY_clean_12 post (wY_clean_4 post (nI P) (nI K) S V sw od L ls n) (nI c) (nI P) (nI K) S V sw od L ls n2 s (nI (j + 1)) := by
        intro g
        refine next' s ?_
        rw [I']
        exact hj_bi ⟨fun w => ⟨w.1, lt_s w.2 g⟩, fun w => ⟨w.1, fun y hy => w.2 y (by omega)⟩⟩
      have go : S (c / 4) = 1 → ¬ (sw (c * 9 + 2 * j + 1) = 0 ∧ sw (c * 9 + 2 * j + 2) = 0) → wY_clean_71 post (wY_clean_4 post (nI P) (nI K) S V sw od L ls n) (wY_clean_12 post (wY_clean_4 post (nI P) (nI K) S V sw od L ls n) (nI c) (nI P) (nI K) S V sw od L ls n2) s (nI c) (nI j) (sw (c * 9 + 2 * j + 1)) (sw (c * 9 + 2 * j + 2)) (nI P) (nI K) S V sw od L ls := by
        intro hS hno
        subst I'
        have bad : ¬ (S j = 1 ∧ (sw (c * 9 + 2 * j + 1) = 0 ∨ V (j * 4 + c % 4) = 1) ∧ (sw (c * 9 + 2 * j + 2) = 0 ∨ V (j * 4 + c % 4) = 2)) → ¬ hj_cy S V sw c j := by
          intro g w
          rcases w hS with w | w
          · exact hno w
          · exact g w
        unfold wY_clean_71
        rw [hj_r16 hc, hj_c4, c3]
        refine ⟨hd, v3, nm_e (hj_br (fun hq => nm_r (nI_1 j) (next' 0 (hj_c0 hq))) (fun hq => hy_in hj (hj_br (fun hz => nm_r (nI_1 j) (next' 0 (hj_cF (bad (fun w => hz w.1))))) (fun hz => ?_))))⟩
        have tail : (sw (c * 9 + 2 * j + 1) = 0 ∨ V (j * 4 + c % 4) = 1) → wY_clean_108 post (wY_clean_4 post (nI P) (nI K) S V sw od L ls n) (wY_clean_12 post (wY_clean_4 post (nI P) (nI K) S V sw od L ls n) (nI c) (nI P) (nI K) S V sw od L ls n2) (nI c) (nI j) (sw (c * 9 + 2 * j + 2)) (V (j * 4 + c % 4)) (nI P) (nI K) S V sw od L ls := by
          intro g1
          refine br_c (fun z => nm_r (nI_1 j) (next' 1 (hj_cT hq (fun _ => Or.inr ⟨hz, g1, Or.inl z⟩)))) (fun z => br_c (fun z2 => nm_r (nI_1 j) (next' 1 (hj_cT hq (fun _ => Or.inr ⟨hz, g1, Or.inr z2⟩)))) (fun z2 => nm_r (nI_1 j) (next' 0 (hj_cF (bad (fun w => ?_))))))
          rcases w.2.2 with w | w
          · exact z w
          · exact z2 w
        refine br_c (fun z => tail (Or.inl z)) (fun z => br_c (fun z2 => tail (Or.inr z2)) (fun z2 => nm_r (nI_1 j) (next' 0 (hj_cF (bad (fun w => ?_))))))
        rcases w.2.1 with w | w
        · exact z w
        · exact z2 w
      show wY_clean_12 post _ (nI c) (nI P) (nI K) S V sw od L ls (n2 + 1) s (nI j)
      rw [wY_clean_12]
      dsimp only
      rw [hj_s9, hj_t9, c1, c2, hj_c16 hc]
      exact br_f (nI_ge (b := 4) hj (by decide)) ⟨v1, nm_e ⟨v2, nm_e ⟨hd, hy_in (by omega) (hj_br (fun hz => nm_r (nI_1 j) (keep (fun w => absurd w hz))) (fun hz => br_c (fun z => br_c (fun z2 => nm_r (nI_1 j) (keep (fun _ => Or.inl ⟨z, z2⟩))) (fun z2 => go hz (fun w => z2 w.2))) (fun z => go hz (fun w => z w.1))))⟩⟩⟩
theorem hy_committed {post : Int32 → Prop} (R : hj_R P K S V It gr vr sw od L q l) (h : post (nI (hj_cn S P))) : wpY_committed post (nI P, nI K, S, V, sw, od, L, ls) := by
  rw [← hj_cn4 R.1.2 R.2.2.1] at h
  refine loop_0 (fun n i (s : Int32) => wY_committed_4 post (nI P) (nI K) S V sw od L ls n s (nI i)) (fun i s => s = nI (hj_cn S i)) 4 0 rfl ?_ ?_
  · intro n s I
    subst I
    exact br_t (nI_le (a := 4) (b := 4) (Nat.le_refl 4) (by decide)) h
  · intro n i s hi I next
    subst I
    refine br_f (nI_ge (b := 4) hi (by decide)) (hy_in hi (hj_br (fun z => nm_r (nI_add _ 0) (nm_r (nI_1 i) (next _ ?_))) (fun z => nm_r (nI_1 _) (nm_r (nI_1 i) (next _ ?_)))))
    · show nI (hj_cn S i + 0) = nI (hj_cn S i + (if S i = 1 then 1 else 0))
      rw [if_neg z]
    · show nI (hj_cn S i + 1) = nI (hj_cn S i + (if S i = 1 then 1 else 0))
      rw [if_pos z]
/-! ===== spelling a list ===== -/
theorem hj_sb1 : ∀ s, s < 16 → ∀ i, i < 4 → nI s ||| ((1 : Int32) <<< (nI i &&& 31)) = nI (s ||| 2 ^ i) := by decide +kernel
theorem hj_sb2 : ∀ s, s < 16 → ∀ i, i < 4 → (nI s >>> (nI i &&& 31)) &&& 1 = nI (s / 2 ^ i % 2) := by decide +kernel
theorem hj_sb3 : ∀ s, s < 16 → ∀ i, i < 4 → s ||| 2 ^ i < 16 ∧ ∀ j, j < 4 → ((s ||| 2 ^ i) / 2 ^ j % 2 = 1 ↔ (s / 2 ^ j % 2 = 1 ∨ j = i)) := by decide +kernel
/-- the members from place t on are spelled -/
def hj_sp (c n t : Nat) (rest seen : Int32) (ls : Nat → Int32) : Prop := rest = nI (c / 2 ^ (2 * (n - t))) ∧ (∃ s, s < 16 ∧ seen = nI s ∧ ∀ i, i < 4 → (s / 2 ^ i % 2 = 1 ↔ ∃ b, t ≤ b ∧ b < n ∧ hj_m c n b = i)) ∧ ∀ b, t ≤ b → b < n → ls b = nI (hj_m c n b)
def hj_vt (S : Nat → Int32) (m : Nat → Nat) (n t : Nat) : Prop := ∀ a, t ≤ a → a < n → S (m a) = 1 ∧ ∀ b, a < b → b < n → m b ≠ m a
theorem hy_spell {post : Int32 → SY → Prop} {c : Nat} (hc : c < 256) (hn : n ≤ 4) (h : ∀ ls', hj_LS ls' (hj_m c n) n → post (hj_b (hj_Val S (hj_m c n) n)) (nI P, nI K, S, V, sw, od, L, ls')) : wpY_spell post (nI P, nI K, S, V, sw, od, L, ls) (nI c) (nI n) := by
  have key : ∀ t, t ≤ n → ∀ rest seen ok ls, hj_sp c n t rest seen ls → ok = hj_b (hj_vt S (hj_m c n) n t) → wY_spell_13 post (nI P) (nI K) (t + 1) rest seen ok (nI t - 1) S V sw od L ls := by
    intro t
    induction t with
    | zero =>
      intro _ rest seen ok ls hsp hok
      subst hok
      refine br_t (by decide) ⟨hj_nb _, ?_⟩
      have e : hj_b (hj_vt S (hj_m c n) n 0) = hj_b (hj_Val S (hj_m c n) n) := hj_bi hj_valM
      rw [e]
      exact h ls (fun a ha => hsp.2.2 a (by omega) ha)
    | succ t ih =>
      intro ht rest seen ok ls hsp hok
      obtain ⟨hr, ⟨s, hs, hseen, hbits⟩, hls⟩ := hsp
      subst hr hseen
      have hm4 := hj_m4 c n t
      have hcl : c / 2 ^ (2 * (n - (t + 1))) ≤ c := Nat.div_le_self _ _
      have e0 : nI (t + 1) - 1 = nI t := nI_pred t
      have e1 : nI (c / 2 ^ (2 * (n - (t + 1)))) &&& 3 = nI (hj_m c n t) := by
        rw [pk_andN (by omega) 2 (by decide), show n - (t + 1) = n - 1 - t by omega]
        rfl
      have e2 : nI (c / 2 ^ (2 * (n - (t + 1)))) >>> ((2 : Int32) &&& 31) = nI (c / 2 ^ (2 * (n - t))) := by
        rw [pk_shrN (by omega) _ 2 (by decide), Nat.div_div_eq_div_mul, ← Nat.pow_add, show 2 * (n - (t + 1)) + 2 = 2 * (n - t) by omega]
      have e3 : nI t &&& 3 = nI t := by
        rw [pk_andN (by omega) 2 (by decide), Nat.mod_eq_of_lt (by omega)]
      have e4 : nI t + (-1) = nI t - 1 := (Int32.sub_eq_add_neg _ _).symm
      have ct : (nI t).toNatClampNeg = t := nI_clamp (by omega)
      have vt : vp_in (nI t) 4 := vp_in_nI (by omega) (by omega)
      have step : ∀ z0, z0 = hj_b (hj_vt S (hj_m c n) n t) → wY_spell_56 post (wY_spell_13 post (nI P) (nI K) (t + 1)) (nI (c / 2 ^ (2 * (n - t)))) (nI s) (nI t) (nI (hj_m c n t)) z0 (nI P) (nI K) S V sw od L ls := by
        intro z0 hz
        unfold wY_spell_56
        rw [e3, ct, hj_sb1 s hs _ hm4]
        refine nm_e ⟨vt, nm_e (nm_r e4 (ih (by omega) _ _ _ _ ⟨rfl, ⟨s ||| 2 ^ hj_m c n t, (hj_sb3 s hs _ hm4).1, rfl, fun i hi => ?_⟩, fun b hb hbn => ?_⟩ hz))⟩
        · rw [(hj_sb3 s hs _ hm4).2 i hi, hbits i hi]
          constructor
          · intro w
            rcases w with ⟨b, h1, h2, h3⟩ | w
            · exact ⟨b, by omega, h2, h3⟩
            · exact ⟨t, Nat.le_refl t, by omega, w.symm⟩
          · intro ⟨b, h1, h2, h3⟩
            by_cases w : b = t
            · rw [w] at h3
              exact Or.inr h3.symm
            · exact Or.inl ⟨b, by omega, h2, h3⟩
        · by_cases w : b = t
          · rw [w]
            exact pk_us
          · rw [pk_un w]
            exact hls b (by omega) hbn
      show wY_spell_13 post (nI P) (nI K) (t + 1 + 1) _ _ ok (nI (t + 1) - 1) S V sw od L ls
      rw [wY_spell_13]
      dsimp only
      rw [e0, e1, e2]
      subst hok
      refine br_f (nI_pos (by omega)) (nm_e (nm_e (hj_br (fun hq => step 0 (hj_b0 (fun w => ?_)).symm) (fun hq => hy_in hm4 (hj_br (fun hz => step 0 (hj_b0 (fun w => ?_)).symm) (fun hz => ?_))))))
      · exact hq (fun a h1 h2 => w a (by omega) h2)
      · exact hz (w t (Nat.le_refl t) (by omega)).1
      · rw [hj_sb2 s hs _ hm4]
        have h2 : s / 2 ^ hj_m c n t % 2 < 2 := Nat.mod_lt _ (by decide)
        refine pk_eq (s / 2 ^ hj_m c n t % 2) 0 (fun e => step 1 (hj_b1 (fun a h1 h2 => ?_)).symm) (fun e => step 0 (hj_b0 (fun w => ?_)).symm)
        · by_cases w : a = t
          · rw [w]
            refine ⟨hz, fun b h3 h4 h5 => ?_⟩
            have := (hbits _ hm4).mpr ⟨b, by omega, h4, h5⟩
            omega
          · exact hq a (by omega) h2
        · obtain ⟨b, h3, h4, h5⟩ := (hbits _ hm4).mp (by omega)
          exact (w t (Nat.le_refl t) (by omega)).2 b (by omega) h4 h5
  refine nm_e ⟨n + 1, key n (Nat.le_refl n) _ _ _ _ ⟨?_, ⟨0, by decide, rfl, fun i hi => ?_⟩, fun b h1 h2 => absurd h2 (by omega)⟩ ?_⟩
  · rw [Nat.sub_self]
    exact congrArg nI (Nat.div_one c).symm
  · constructor
    · intro w
      rw [Nat.zero_div] at w
      exact absurd w (by decide)
    · intro ⟨b, h1, h2, _⟩
      omega
  · exact (hj_b1 (fun a h1 h2 => absurd h2 (by omega))).symm
end

section
/-! rows pasted from the kit's rows: pk_*, s_l; the rest is ours -/
theorem pk_us {f : Nat → Int32} {k : Nat} {x : Int32} : upd f k x k = x := if_pos rfl
theorem pk_un {f : Nat → Int32} {k j : Nat} {x : Int32} (h : j ≠ k) : upd f k x j = f j := if_neg h
theorem pk_sub {a b : Nat} (h : b ≤ a) : nI a - nI b = nI (a - b) := by
  obtain ⟨c, rfl⟩ : ∃ c, a = c + b := ⟨a - b, by omega⟩
  rw [← nI_add, Int32.add_sub_cancel, Nat.add_sub_cancel]
theorem pk_m1 (n : Nat) : nI (n + 1) + (-1) = nI n := by
  rw [← nI_1, Int32.add_assoc, show (1 : Int32) + (-1) = 0 from rfl, Int32.add_zero]
theorem pk_mul (a b : Nat) : nI a * nI b = nI (a * b) := (Int32.ofNat_mul a b).symm
theorem pk_div {a d : Nat} (ha : a < 2 ^ 31) (h0 : 0 < d) (hd : d < 2 ^ 31) : nI a / nI d = nI (a / d) := by
  apply Int32.toInt_inj.mp
  rw [lg_idiv_nonneg (by rw [nI_toInt ha]; omega) (by rw [nI_toInt hd]; omega), nI_toInt ha, nI_toInt hd, nI_toInt (Nat.lt_of_le_of_lt (Nat.div_le_self a d) ha)]
  first | rfl | exact (Int.natCast_ediv _ _).symm
theorem pk_rem {a d : Nat} (ha : a < 2 ^ 31) (h0 : 0 < d) (hd : d < 2 ^ 31) : nI a - nI a / nI d * nI d = nI (a % d) := by
  rw [pk_div ha h0 hd, pk_mul, pk_sub (Nat.div_mul_le_self a d)]
  exact congrArg nI (by have := Nat.div_add_mod' a d; omega)
theorem pk_ix (x : Int32) {n : Nat} (hn : n < 2 ^ 31) : x < 0 ∨ nI n ≤ x ∨ ∃ j : Nat, j < n ∧ x = nI j := by
  by_cases h : x < 0
  · exact Or.inl h
  · obtain ⟨j, hj, rfl⟩ := nI_of h
    by_cases h2 : j < n
    · exact Or.inr (Or.inr ⟨j, h2, rfl⟩)
    · exact Or.inr (Or.inl (nI_le (by omega) hj))
theorem pk_le {x y : Int32} {A B : Prop} (a b : Nat) (f : a ≤ b → A) (g : b < a → B) (hx : x = nI a := by rfl) (hy : y = nI b := by rfl) (ha : a < 2 ^ 31 := by omega) (hb : b < 2 ^ 31 := by omega) : (x ≤ y → A) ∧ (¬ x ≤ y → B) := by
  subst hx hy
  rw [nI_leI ha hb]
  exact ⟨f, fun z => g (by omega)⟩
theorem pk_lt {x y : Int32} {A B : Prop} (a b : Nat) (f : a < b → A) (g : b ≤ a → B) (hx : x = nI a := by rfl) (hy : y = nI b := by rfl) (ha : a < 2 ^ 31 := by omega) (hb : b < 2 ^ 31 := by omega) : (x < y → A) ∧ (¬ x < y → B) := by
  subst hx hy
  rw [nI_ltI ha hb]
  exact ⟨f, fun z => g (by omega)⟩
theorem pk_eq {x y : Int32} {A B : Prop} (a b : Nat) (f : a = b → A) (g : a ≠ b → B) (hx : x = nI a := by rfl) (hy : y = nI b := by rfl) (ha : a < 2 ^ 31 := by omega) (hb : b < 2 ^ 31 := by omega) : (x = y → A) ∧ (¬ x = y → B) := by
  subst hx hy
  rw [nI_eq ha hb]
  exact ⟨f, g⟩
theorem pk_in {x : Int32} (n N : Nat) (h : n < N) (hx : x = nI n := by rfl) (hN : N < 2 ^ 31 := by omega) : vp_in x N := by
  subst hx
  exact vp_in_nI h hN
theorem pk_cl {x : Int32} (n : Nat) (hx : x = nI n := by rfl) (h : n < 2 ^ 31 := by omega) : x.toNatClampNeg = n := by
  subst hx
  exact nI_clamp h
theorem pk_tn {n : Nat} (h : n < 2 ^ 32) : (nI n).toBitVec.toNat = n := Nat.mod_eq_of_lt h
theorem pk_and (x : Int32) {m : Int32} (k : Nat) (hm : m.toBitVec.toNat = 2 ^ k - 1) : x &&& m = nI (x.toBitVec.toNat % 2 ^ k) := by
  apply Int32.toBitVec_inj.mp
  apply BitVec.eq_of_toNat_eq
  rw [Int32.toBitVec_and, BitVec.toNat_and, hm, Nat.and_two_pow_sub_one_eq_mod]
  show _ = (BitVec.ofNat 32 _).toNat
  rw [BitVec.toNat_ofNat]
  exact (Nat.mod_eq_of_lt (Nat.lt_of_le_of_lt (Nat.mod_le _ _) x.toBitVec.isLt)).symm
theorem pk_andN {n : Nat} (h : n < 2 ^ 32) {m : Int32} (k : Nat) (hm : m.toBitVec.toNat = 2 ^ k - 1) : nI n &&& m = nI (n % 2 ^ k) := by
  rw [pk_and _ k hm, pk_tn h]
theorem pk_shl (a s : Int32) (k : Nat) (hs : (s.toBitVec.smod 32).toNat = k) : (a <<< s).toBitVec.toNat = a.toBitVec.toNat * 2 ^ k % 2 ^ 32 := by
  show (a.toBitVec <<< (s.toBitVec.smod 32).toNat).toNat = _
  rw [hs, BitVec.toNat_shiftLeft, Nat.shiftLeft_eq]
theorem pk_shlN {n : Nat} (s : Int32) (k : Nat) (hs : (s.toBitVec.smod 32).toNat = k) (h : n * 2 ^ k < 2 ^ 32) : nI n <<< s = nI (n * 2 ^ k) := by
  apply Int32.toBitVec_inj.mp
  apply BitVec.eq_of_toNat_eq
  have hn : n < 2 ^ 32 := Nat.lt_of_le_of_lt (Nat.le_mul_of_pos_right n (Nat.two_pow_pos k)) h
  rw [pk_shl _ _ k hs, pk_tn hn, pk_tn h, Nat.mod_eq_of_lt h]
theorem pk_shr (a s : Int32) (k : Nat) (hs : (s.toBitVec.smod 32).toNat = k) : (a >>> s).toInt = a.toInt >>> k := by
  show (a.toBitVec.sshiftRight (s.toBitVec.smod 32).toNat).toInt = _
  rw [hs, BitVec.toInt_sshiftRight]
  rfl
theorem pk_shrN {n : Nat} (h : n < 2 ^ 31) (s : Int32) (k : Nat) (hs : (s.toBitVec.smod 32).toNat = k) : nI n >>> s = nI (n / 2 ^ k) := by
  apply Int32.toInt_inj.mp
  have h2 : n / 2 ^ k ≤ n := Nat.div_le_self _ _
  rw [pk_shr _ _ k hs, nI_toInt h, nI_toInt (by omega), Int.shiftRight_eq_div_pow]
  rfl
theorem pk_loop {σ : Type} (W : Nat → Nat → σ → Prop) (I : Nat → σ → Prop) (e i0 : Nat) (s : σ) (hi : i0 ≤ e) (h0 : I i0 s) (hx : ∀ n s, I e s → W (n + 1) e s)
    (hs : ∀ n i s, i < e → I i s → (∀ s', I (i + 1) s' → W n (i + 1) s') → W (n + 1) i s) : ∃ n, W n i0 s :=
  ⟨e + 1, loop_i W I e hx hs (e + 1) i0 s hi (by omega) h0⟩
theorem pk_loopD {σ : Type} (W : Nat → Nat → σ → Prop) (I : Nat → σ → Prop) (hx : ∀ n s, I 0 s → W (n + 1) 0 s)
    (hs : ∀ n i s, I (i + 1) s → (∀ s', I i s' → W n i s') → W (n + 1) (i + 1) s) : ∀ (e : Nat) (s : σ), I e s → W (e + 1) e s := by
  intro e
  induction e with
  | zero => exact fun s h => hx 0 s h
  | succ e ih => exact fun s h => hs (e + 1) e s h (fun s' h' => ih s' h')
theorem pk_least (P : Nat → Prop) (h : ∃ k, P k) : ∃ k, P k ∧ ∀ j, j < k → ¬ P j := by
  obtain ⟨k, hk⟩ := h
  induction k using Nat.strongRecOn with
  | ind k ih =>
    by_cases e : ∃ j, j < k ∧ P j
    · obtain ⟨j, hj, pj⟩ := e
      exact ih j hj pj
    · exact ⟨k, hk, fun j hj pj => e ⟨j, hj, pj⟩⟩
theorem s_l : ∀ n, n < 32 → ((nI n &&& 31).toBitVec.smod 32).toNat = n := by decide +kernel

/-! ===== truth as an int ===== -/
noncomputable def hj_b (p : Prop) : Int32 := @ite Int32 p (Classical.propDecidable p) 1 0
theorem hj_b1 {p : Prop} (h : p) : hj_b p = 1 := @if_pos p (Classical.propDecidable p) h Int32 1 0
theorem hj_b0 {p : Prop} (h : ¬ p) : hj_b p = 0 := @if_neg p (Classical.propDecidable p) h Int32 1 0
theorem hj_bi {p q : Prop} (h : p ↔ q) : hj_b p = hj_b q := by rw [propext h]
theorem hj_b01 (p : Prop) : hj_b p = 0 ∨ hj_b p = 1 := by
  by_cases h : p
  · exact Or.inr (hj_b1 h)
  · exact Or.inl (hj_b0 h)
theorem hj_bz {p : Prop} : hj_b p = 0 ↔ ¬ p := by
  by_cases h : p
  · rw [hj_b1 h]
    exact ⟨fun e => absurd e (by decide), fun e => absurd h e⟩
  · rw [hj_b0 h]
    exact ⟨fun _ => h, fun _ => rfl⟩
theorem hj_br {p A B : Prop} (f : ¬ p → A) (g : p → B) : (hj_b p = 0 → A) ∧ (¬ hj_b p = 0 → B) := by
  rw [hj_bz]
  exact ⟨f, fun h => g (Classical.not_not.mp h)⟩
theorem hj_nb (p : Prop) : narrow .boolean (.int (hj_b p)) = .int (hj_b p) := by
  rcases hj_b01 p with h | h <;> rw [h] <;> rfl
/-- a branch on an array's or a local's value by a proposition that stands for it -/
theorem hj_if {c d A B : Prop} (e : c ↔ d) (f : d → A) (g : ¬ d → B) : (c → A) ∧ (¬ c → B) := ⟨fun h => f (e.mp h), fun h => g (fun z => h (e.mpr z))⟩

/-! ===== the number that stands for none ===== -/
theorem hj_m1i : (-1 : Int32).toInt = -1 := by decide
theorem hj_nm1 {a : Nat} (h : a < 2 ^ 31) : ¬ nI a = -1 := fun e => by
  have := congrArg Int32.toInt e
  rw [nI_toInt h, hj_m1i] at this
  omega
theorem hj_m1le {a : Nat} (h : a < 2 ^ 31) : (-1 : Int32) ≤ nI a := by
  rw [Int32.le_iff_toInt_le, nI_toInt h, hj_m1i]
  omega
theorem hj_m1lt {a : Nat} (h : a < 2 ^ 31) : (-1 : Int32) < nI a := by
  rw [Int32.lt_iff_toInt_lt, nI_toInt h, hj_m1i]
  omega
theorem hj_nle1 {a : Nat} (h : a < 2 ^ 31) : ¬ nI a ≤ -1 := by
  rw [Int32.le_iff_toInt_le, nI_toInt h, hj_m1i]
  omega
theorem hj_nlt1 {a : Nat} (h : a < 2 ^ 31) : ¬ nI a < -1 := by
  rw [Int32.lt_iff_toInt_lt, nI_toInt h, hj_m1i]
  omega
theorem hj_m1n0 : (-1 : Int32) < 0 := by decide

/-! ===== a list as a number: the member at a place ===== -/
def hj_m (c n a : Nat) : Nat := c / 2 ^ (2 * (n - 1 - a)) % 2 ^ 2
theorem hj_m4 (c n a : Nat) : hj_m c n a < 4 := Nat.mod_lt _ (by decide)
/-- the list has committed members alone, each once -/
def hj_Val (S : Nat → Int32) (m : Nat → Nat) (n : Nat) : Prop := ∀ a, a < n → S (m a) = 1 ∧ ∀ b, b < a → m b ≠ m a
/-- the places stand for the first n members of the list -/
def hj_PL (pl : Nat → Int32) (m : Nat → Nat) (n : Nat) : Prop := ∀ i, i < 4 → (∃ a, a < n ∧ m a = i ∧ pl i = nI a) ∨ (pl i = -1 ∧ ∀ a, a < n → m a ≠ i)
theorem hj_inj {S : Nat → Int32} {m : Nat → Nat} {n : Nat} (h : hj_Val S m n) {a b : Nat} (ha : a < n) (hb : b < n) (e : m a = m b) : a = b := by
  rcases Nat.lt_trichotomy a b with z | z | z
  · exact absurd e ((h b hb).2 a z)
  · exact z
  · exact absurd e.symm ((h a ha).2 b z)
theorem hj_at {S pl : Nat → Int32} {m : Nat → Nat} {n a : Nat} (hv : hj_Val S m n) (hp : hj_PL pl m n) (hm : ∀ a, m a < 4) (ha : a < n) : pl (m a) = nI a := by
  rcases hp (m a) (hm a) with ⟨b, hb, e, h⟩ | ⟨_, h⟩
  · rw [h, hj_inj hv hb ha e]
  · exact absurd rfl (h a ha)
theorem hj_lo {S : Nat → Int32} {m : Nat → Nat} {n P : Nat} (hv : hj_Val S m n) (hm : ∀ a, m a < 4) (hS : ∀ i, i < 4 → P ≤ i → S i = 0) {a : Nat} (ha : a < n) : m a < P := by
  rcases Nat.lt_or_ge (m a) P with h | h
  · exact h
  · have := hS (m a) (hm a) h
    rw [(hv a ha).1] at this
    exact absurd this (by decide)
/-- over pairs of transactions by their places = over pairs of places -/
theorem hj_pairs {S pl : Nat → Int32} {m : Nat → Nat} {n P : Nat} (R : Nat → Nat → Prop) (hn : n ≤ 4) (hP : P ≤ 4) (hv : hj_Val S m n) (hp : hj_PL pl m n) (hm : ∀ a, m a < 4) (hS : ∀ i, i < 4 → P ≤ i → S i = 0) : (∀ i, i < P → ∀ j, j < P → (pl i = -1 ∨ pl j ≤ pl i ∨ R i j)) ↔ (∀ b, b < n → ∀ a, a < b → R (m a) (m b)) := by
  constructor
  · intro h b hb a ha
    have han : a < n := by omega
    rcases h (m a) (hj_lo hv hm hS han) (m b) (hj_lo hv hm hS hb) with e | e | e
    · rw [hj_at hv hp hm han] at e
      exact absurd e (hj_nm1 (by omega))
    · rw [hj_at hv hp hm han, hj_at hv hp hm hb, nI_leI (by omega) (by omega)] at e
      omega
    · exact e
  · intro h i hi j hj
    rcases hp i (by omega) with ⟨a, ha, e, hpa⟩ | ⟨z, _⟩
    · rcases hp j (by omega) with ⟨b, hb, e', hpb⟩ | ⟨z', _⟩
      · rcases Nat.lt_or_ge a b with z | z
        · exact Or.inr (Or.inr (by rw [← e, ← e']; exact h b hb a z))
        · exact Or.inr (Or.inl (by rw [hpa, hpb]; exact nI_le z (by omega)))
      · exact Or.inr (Or.inl (by rw [hpa, z']; exact hj_m1le (by omega)))
    · exact Or.inl z
/-- over transactions by their place = over places -/
theorem hj_each {S pl : Nat → Int32} {m : Nat → Nat} {n P : Nat} (R : Nat → Nat → Prop) (hn : n ≤ 4) (hP : P ≤ 4) (hv : hj_Val S m n) (hp : hj_PL pl m n) (hm : ∀ a, m a < 4) (hS : ∀ i, i < 4 → P ≤ i → S i = 0) : (∀ i, i < P → (pl i = -1 ∨ ∃ a, a < n ∧ pl i = nI a ∧ R i a)) ↔ (∀ b, b < n → R (m b) b) := by
  constructor
  · intro h b hb
    rcases h (m b) (hj_lo hv hm hS hb) with e | ⟨a, ha, e, r⟩
    · rw [hj_at hv hp hm hb] at e
      exact absurd e (hj_nm1 (by omega))
    · rw [hj_at hv hp hm hb, nI_eq (by omega) (by omega)] at e
      rw [e] at r ⊢
      exact r
  · intro h i hi
    rcases hp i (by omega) with ⟨a, ha, e, hpa⟩ | ⟨z, _⟩
    · exact Or.inr ⟨a, ha, hpa, by rw [← e]; exact h a ha⟩
    · exact Or.inl z
/-- one more place is taken -/
theorem hj_plS {pl : Nat → Int32} {m : Nat → Nat} {a : Nat} (hp : hj_PL pl m a) : hj_PL (upd pl (m a) (nI a)) m (a + 1) := by
  intro i hi
  by_cases e : i = m a
  · exact Or.inl ⟨a, by omega, e.symm, by rw [e]; exact pk_us⟩
  · rcases hp i hi with ⟨b, hb, eb, h⟩ | ⟨z, h⟩
    · exact Or.inl ⟨b, by omega, eb, by rw [pk_un e]; exact h⟩
    · refine Or.inr ⟨by rw [pk_un e]; exact z, fun b hb => ?_⟩
      rcases Nat.lt_or_ge b a with y | y
      · exact h b y
      · rw [show b = a by omega]
        exact fun z => e z.symm
theorem hj_valS {S : Nat → Int32} {m : Nat → Nat} {a : Nat} (h : hj_Val S m a) (h1 : S (m a) = 1) (h2 : ∀ b, b < a → m b ≠ m a) : hj_Val S m (a + 1) := by
  intro b hb
  rcases Nat.lt_or_ge b a with y | y
  · exact h b y
  · rw [show b = a by omega]
    exact ⟨h1, h2⟩
theorem hj_valN {S pl : Nat → Int32} {m : Nat → Nat} {a n : Nat} (hp : hj_PL pl m a) (hm : ∀ a, m a < 4) (han : a < n) (h : S (m a) = 1 → pl (m a) = -1 → False) : ¬ hj_Val S m n := by
  intro hv
  refine h (hv a han).1 ?_
  rcases hp (m a) (hm a) with ⟨b, hb, e, _⟩ | ⟨z, _⟩
  · exact absurd e ((hv a han).2 b hb)
  · exact z
theorem hj_valM {S : Nat → Int32} {m : Nat → Nat} {n : Nat} : (∀ a, 0 ≤ a → a < n → S (m a) = 1 ∧ ∀ b, a < b → b < n → m b ≠ m a) ↔ hj_Val S m n := by
  constructor
  · intro h a ha
    exact ⟨(h a (by omega) ha).1, fun b hb e => (h b (by omega) (by omega)).2 a hb ha e.symm⟩
  · intro h a _ ha
    exact ⟨(h a ha).1, fun b hb hbn e => (h b hbn).2 a hb e.symm⟩

/-! ===== how many are committed ===== -/
def hj_cn (S : Nat → Int32) : Nat → Nat
  | 0 => 0
  | i + 1 => hj_cn S i + (if S i = 1 then 1 else 0)
theorem hj_cn_le (S : Nat → Int32) (i : Nat) : hj_cn S i ≤ i := by
  induction i with
  | zero => exact Nat.le_refl 0
  | succ i ih =>
    show hj_cn S i + (if S i = 1 then 1 else 0) ≤ i + 1
    split <;> omega
theorem hj_cn_P {S : Nat → Int32} {P : Nat} (hS : ∀ i, i < 4 → P ≤ i → S i = 0) : ∀ d, P + d ≤ 4 → hj_cn S (P + d) = hj_cn S P := by
  intro d
  induction d with
  | zero => intro _; rfl
  | succ d ih =>
    intro h
    show hj_cn S (P + d) + (if S (P + d) = 1 then 1 else 0) = hj_cn S P
    rw [hS (P + d) (by omega) (by omega), ih (by omega), if_neg (by decide)]
    rfl
theorem hj_cn4 {S : Nat → Int32} {P : Nat} (hP : P ≤ 4) (hS : ∀ i, i < 4 → P ≤ i → S i = 0) : hj_cn S 4 = hj_cn S P := by
  have := hj_cn_P hS (4 - P) (by omega)
  rw [show P + (4 - P) = 4 by omega] at this
  exact this

/-! ===== some list is there ===== -/
def hj_tc (t : Nat) : Nat := t % 2 + t / 2 % 2 + t / 4 % 2 + t / 8 % 2
theorem hj_ext : ∀ t, t < 16 → ∃ c, c < 2 ^ (2 * hj_tc t) ∧ ∀ a, a < hj_tc t → (t / 2 ^ (hj_m c (hj_tc t) a) % 2 = 1 ∧ ∀ b, b < a → hj_m c (hj_tc t) b ≠ hj_m c (hj_tc t) a) := by decide +kernel
theorem hj_exS (S : Nat → Int32) : ∃ t, t < 16 ∧ hj_tc t = hj_cn S 4 ∧ ∀ i, i < 4 → t / 2 ^ i % 2 = 1 → S i = 1 := by
  refine ⟨(if S 0 = 1 then 1 else 0) + (if S 1 = 1 then 2 else 0) + (if S 2 = 1 then 4 else 0) + (if S 3 = 1 then 8 else 0), ?_, ?_, ?_⟩
  · by_cases h0 : S 0 = 1 <;> by_cases h1 : S 1 = 1 <;> by_cases h2 : S 2 = 1 <;> by_cases h3 : S 3 = 1 <;> simp [h0, h1, h2, h3]
  · by_cases h0 : S 0 = 1 <;> by_cases h1 : S 1 = 1 <;> by_cases h2 : S 2 = 1 <;> by_cases h3 : S 3 = 1 <;> simp [hj_cn, hj_tc, h0, h1, h2, h3]
  · intro i hi
    rcases (by omega : i = 0 ∨ i = 1 ∨ i = 2 ∨ i = 3) with e | e | e | e <;> subst e <;> by_cases h0 : S 0 = 1 <;> by_cases h1 : S 1 = 1 <;> by_cases h2 : S 2 = 1 <;> by_cases h3 : S 3 = 1 <;> simp [h0, h1, h2, h3]
theorem hj_ex (S : Nat → Int32) : ∃ c, c < 2 ^ (2 * hj_cn S 4) ∧ hj_Val S (hj_m c (hj_cn S 4)) (hj_cn S 4) := by
  obtain ⟨t, ht, e, h⟩ := hj_exS S
  obtain ⟨c, hc, hv⟩ := hj_ext t ht
  rw [e] at hc hv
  exact ⟨c, hc, fun a ha => ⟨h _ (hj_m4 _ _ _) (hv a ha).1, (hv a ha).2⟩⟩

/-! ===== folded truths ===== -/
theorem hj_a0 {i : Nat} {g : Nat → Prop} (h : ¬ ∀ a, a < i → g a) : (0 : Int32) = hj_b (∀ a, a < i + 1 → g a) := (hj_b0 (fun z => h (fun a ha => z a (by omega)))).symm
theorem hj_aF {i : Nat} {g : Nat → Prop} (h : ¬ g i) : (0 : Int32) = hj_b (∀ a, a < i + 1 → g a) := (hj_b0 (fun z => h (z i (by omega)))).symm
theorem hj_aT {i : Nat} {g : Nat → Prop} (h : ∀ a, a < i → g a) (hi : g i) : (1 : Int32) = hj_b (∀ a, a < i + 1 → g a) := (hj_b1 (lt_s h hi)).symm
theorem hj_e1 {i : Nat} {g : Nat → Prop} (h : ∃ a, a < i ∧ g a) : (1 : Int32) = hj_b (∃ a, a < i + 1 ∧ g a) := by
  obtain ⟨a, ha, z⟩ := h
  exact (hj_b1 ⟨a, by omega, z⟩).symm
theorem hj_eT {i : Nat} {g : Nat → Prop} (hi : g i) : (1 : Int32) = hj_b (∃ a, a < i + 1 ∧ g a) := (hj_b1 ⟨i, by omega, hi⟩).symm
theorem hj_eF {i : Nat} {g : Nat → Prop} (h : ¬ ∃ a, a < i ∧ g a) (hi : ¬ g i) : (0 : Int32) = hj_b (∃ a, a < i + 1 ∧ g a) := by
  refine (hj_b0 ?_).symm
  intro ⟨a, ha, z⟩
  rcases Nat.lt_or_ge a i with y | y
  · exact h ⟨a, y, z⟩
  · rw [show a = i by omega] at z
    exact hi z
theorem hj_a00 {g : Nat → Prop} : (1 : Int32) = hj_b (∀ a, a < 0 → g a) := (hj_b1 lt_0).symm
theorem hj_e00 {g : Nat → Prop} : (0 : Int32) = hj_b (∃ a, a < 0 ∧ g a) := (hj_b0 (fun ⟨a, h, _⟩ => absurd h (Nat.not_lt_zero a))).symm

/-! ===== indexes ===== -/
theorem hj_c4 (i x : Nat) : nI i * 4 + nI x = nI (i * 4 + x) := by
  rw [show (4 : Int32) = nI 4 from rfl, pk_mul, nI_add]
theorem hj_c9 (i x : Nat) : (nI i * 4 + nI x) * 9 = nI ((i * 4 + x) * 9) := by
  rw [hj_c4, show (9 : Int32) = nI 9 from rfl, pk_mul]
theorem hj_ro (i x j v : Nat) : ((nI i * 4 + nI x) * 4 + nI j) * 2 + nI (v + 1) - 1 = nI ((i * 4 + x) * 8 + (2 * j + v)) := by
  rw [hj_c4, show (4 : Int32) = nI 4 from rfl, show (2 : Int32) = nI 2 from rfl, pk_mul, nI_add, pk_mul, nI_add]
  rw [show (1 : Int32) = nI 1 from rfl, pk_sub (by omega)]
  exact congrArg nI (by omega)
theorem hj_shc {n : Nat} (h : n ≤ 4) : (1 : Int32) <<< ((2 * nI n) &&& 31) = nI (2 ^ (2 * n)) := by
  have : ∀ n, n < 5 → (1 : Int32) <<< ((2 * nI n) &&& 31) = nI (2 ^ (2 * n)) := by decide +kernel
  exact this n (by omega)
theorem hj_p8 {n : Nat} (h : n ≤ 4) : 2 ^ (2 * n) ≤ 256 := by
  have : ∀ n, n < 5 → 2 ^ (2 * n) ≤ 256 := by decide +kernel
  exact this n (by omega)
theorem hj_mem {c n a : Nat} (hc : c < 256) (hn : n ≤ 4) (ha : a < n) : (nI c >>> ((2 * (nI n - 1 - nI a)) &&& 31)) &&& 3 = nI (hj_m c n a) := by
  have e : (2 : Int32) * (nI n - 1 - nI a) = nI (2 * (n - 1 - a)) := by
    rw [show (1 : Int32) = nI 1 from rfl, pk_sub (by omega), pk_sub (by omega), show (2 : Int32) = nI 2 from rfl, pk_mul]
  rw [e, pk_shrN (by omega) _ (2 * (n - 1 - a)) (s_l _ (by omega)), pk_andN (Nat.lt_of_le_of_lt (Nat.div_le_self _ _) (by omega)) 2 (by decide)]
  rfl
end
section
/-! ===== who wrote, the last writer ===== -/
def hj_W (V : Nat → Int32) (i x : Nat) : Prop := ¬ V (i * 4 + x) ≤ 0
noncomputable def hj_lw (V : Nat → Int32) (m : Nat → Nat) (x : Nat) : Nat → Int32
  | 0 => -1
  | g + 1 => @ite Int32 (hj_W V (m g) x) (Classical.propDecidable _) (nI (m g)) (hj_lw V m x g)
theorem hj_lwT {V : Nat → Int32} {m : Nat → Nat} {x g : Nat} (h : hj_W V (m g) x) : hj_lw V m x (g + 1) = nI (m g) := @if_pos _ (Classical.propDecidable _) h Int32 _ _
theorem hj_lwF {V : Nat → Int32} {m : Nat → Nat} {x g : Nat} (h : ¬ hj_W V (m g) x) : hj_lw V m x (g + 1) = hj_lw V m x g := @if_neg _ (Classical.propDecidable _) h Int32 _ _
theorem hj_lw_v (V : Nat → Int32) (m : Nat → Nat) (x g : Nat) : hj_lw V m x g = -1 ∨ ∃ a, a < g ∧ hj_lw V m x g = nI (m a) := by
  induction g with
  | zero => exact Or.inl rfl
  | succ g ih =>
    by_cases h : hj_W V (m g) x
    · exact Or.inr ⟨g, by omega, hj_lwT h⟩
    · rw [hj_lwF h]
      rcases ih with e | ⟨a, ha, e⟩
      · exact Or.inl e
      · exact Or.inr ⟨a, by omega, e⟩
theorem hj_lw0 {V : Nat → Int32} {m : Nat → Nat} {x : Nat} : ∀ g, (∀ a, a < g → ¬ hj_W V (m a) x) → hj_lw V m x g = -1 := by
  intro g
  induction g with
  | zero => intro _; rfl
  | succ g ih =>
    intro h
    rw [hj_lwF (h g (by omega))]
    exact ih (fun a ha => h a (by omega))
theorem hj_lw1 {V : Nat → Int32} {m : Nat → Nat} {x a : Nat} (ha : hj_W V (m a) x) : ∀ g, a < g → (∀ b, a < b → b < g → ¬ hj_W V (m b) x) → hj_lw V m x g = nI (m a) := by
  intro g
  induction g with
  | zero => intro h; omega
  | succ g ih =>
    intro h hb
    by_cases e : a = g
    · rw [e] at ha ⊢
      exact hj_lwT ha
    · rw [hj_lwF (hb g (by omega) (by omega))]
      exact ih (by omega) (fun b h1 h2 => hb b h1 (by omega))
/-- the search of the last writer over the transactions below J -/
def hj_LA (V : Nat → Int32) (m : Nat → Nat) (x g J : Nat) (w p : Int32) : Prop := (w = -1 ∧ p = -1 ∧ ∀ a, a < g → m a < J → ¬ hj_W V (m a) x) ∨ ∃ a, a < g ∧ m a < J ∧ w = nI (m a) ∧ p = nI a ∧ hj_W V (m a) x ∧ ∀ b, a < b → b < g → m b < J → ¬ hj_W V (m b) x
theorem hj_LA0 {V : Nat → Int32} {m : Nat → Nat} {x g : Nat} : hj_LA V m x g 0 (-1) (-1) := Or.inl ⟨rfl, rfl, fun _ _ h => absurd h (Nat.not_lt_zero _)⟩
theorem hj_LAe {V : Nat → Int32} {m : Nat → Nat} {x g P : Nat} {w p : Int32} (h : hj_LA V m x g P w p) (hP : ∀ a, a < g → m a < P) : w = hj_lw V m x g := by
  rcases h with ⟨e, _, h⟩ | ⟨a, ha, _, e, _, hw, h⟩
  · rw [e, hj_lw0 g (fun a ha => h a ha (hP a ha))]
  · rw [e, hj_lw1 hw g ha (fun b h1 h2 => h b h1 h2 (hP b h2))]
theorem hj_LAt {S V pl : Nat → Int32} {m : Nat → Nat} {x g n J : Nat} {w p : Int32} (hg : g ≤ n) (hn : n ≤ 4) (hJ : J < 4) (hv : hj_Val S m n) (hp : hj_PL pl m n) (h : hj_LA V m x g J w p) (hw : hj_W V J x) (h1 : p < pl J) (h2 : pl J < nI g) : hj_LA V m x g (J + 1) (nI J) (pl J) := by
  rcases hp J hJ with ⟨a, ha, e, hpa⟩ | ⟨z, _⟩
  · rw [hpa, nI_ltI (by omega) (by omega)] at h2
    refine Or.inr ⟨a, h2, by omega, by rw [e], hpa, by rw [e]; exact hw, fun b hb hbg hbJ => ?_⟩
    have hne : m b ≠ J := fun z => by
      have := hj_inj hv (a := b) (b := a) (by omega) ha (z.trans e.symm)
      omega
    rcases h with ⟨_, _, h⟩ | ⟨c, hc, _, _, ep, _, h⟩
    · exact h b hbg (by omega)
    · rw [ep, hpa, nI_ltI (by omega) (by omega)] at h1
      exact h b (by omega) hbg (by omega)
  · rw [z] at h1
    rcases h with ⟨_, e, _⟩ | ⟨c, hc, _, _, ep, _, h⟩
    · rw [e] at h1
      exact absurd h1 (by decide)
    · rw [ep] at h1
      exact absurd h1 (hj_nlt1 (by omega))
theorem hj_LAf {S V pl : Nat → Int32} {m : Nat → Nat} {x g n J : Nat} {w p : Int32} (hg : g ≤ n) (hn : n ≤ 4) (hJ : J < 4) (hv : hj_Val S m n) (hp : hj_PL pl m n) (hm : ∀ a, m a < 4) (h : hj_LA V m x g J w p) (hno : hj_W V J x → p < pl J → pl J < nI g → False) : hj_LA V m x g (J + 1) w p := by
  rcases h with ⟨ew, ep, h⟩ | ⟨a, ha, haJ, ew, ep, hw, h⟩
  · refine Or.inl ⟨ew, ep, fun b hb hbJ => ?_⟩
    rcases Nat.lt_or_ge (m b) J with y | y
    · exact h b hb y
    · have e : m b = J := by omega
      intro hw
      have hpb := hj_at hv hp hm (a := b) (by omega)
      rw [e] at hw hpb
      refine hno hw ?_ ?_
      · rw [ep, hpb]
        exact hj_m1lt (by omega)
      · rw [hpb]
        exact nI_lt hb (by omega)
  · refine Or.inr ⟨a, ha, by omega, ew, ep, hw, fun b hab hb hbJ => ?_⟩
    rcases Nat.lt_or_ge (m b) J with y | y
    · exact h b hab hb y
    · have e : m b = J := by omega
      intro hw
      have hpb := hj_at hv hp hm (a := b) (by omega)
      rw [e] at hw hpb
      refine hno hw ?_ ?_
      · rw [ep, hpb]
        exact nI_lt hab (by omega)
      · rw [hpb]
        exact nI_lt hb (by omega)

/-! ===== the reads ===== -/
def hj_rk (vr : Nat → Int32) (i x j : Nat) : Prop := ¬ vr ((i * 4 + x) * 8 + 2 * j) = 0 ∨ ¬ vr ((i * 4 + x) * 8 + (2 * j + 1)) = 0
/-- the reads by i of x fit the writer w -/
def hj_RX (P : Nat) (gr vr : Nat → Int32) (i x : Nat) (w : Int32) : Prop := (gr (i * 4 + x) = 0 ∨ w = -1) ∧ ∀ j, j < P → nI j = w ∨ ¬ hj_rk vr i x j
def hj_RY (saw : Nat → Int32) (i x : Nat) (w : Int32) : Prop := ∀ k, k < 9 → saw ((i * 4 + x) * 9 + k) = 0 ∨ (w < 0 ∧ k = 0) ∨ (¬ w < 0 ∧ (nI k = 2 * w + 1 ∨ nI k = 2 * w + 2))
theorem hj_2w (j : Nat) : 2 * nI j + 1 = nI (2 * j + 1) ∧ 2 * nI j + 2 = nI (2 * j + 2) := by
  have e : (2 : Int32) * nI j = nI (2 * j) := pk_mul 2 j
  have e2 : nI (2 * j) + 2 = nI (2 * j + 2) := nI_add (2 * j) 2
  exact ⟨by rw [e, nI_1], by rw [e, e2]⟩
theorem hj_RYX {P : Nat} {gr vr saw : Nat → Int32} (hg : ∀ c, c < 16 → saw (c * 9) = gr c) (hs : ∀ c, c < 16 → ∀ d, d < 8 → saw (c * 9 + (d + 1)) = vr (c * 8 + d)) (hP : P ≤ 4) {i x : Nat} (hi : i < 4) (hx : x < 4) (hz : ∀ d, d < 8 → P ≤ d / 2 → vr ((i * 4 + x) * 8 + d) = 0) {w : Int32} (hw : w = -1 ∨ ∃ j, j < P ∧ w = nI j) : hj_RY saw i x w ↔ hj_RX P gr vr i x w := by
  have hc : i * 4 + x < 16 := by omega
  have h0 := hg _ hc
  have hk := hs _ hc
  unfold hj_RY hj_RX hj_rk
  generalize i * 4 + x = c at *
  rcases hw with e | ⟨j0, hj0, e⟩
  · subst e
    constructor
    · intro h
      refine ⟨Or.inr rfl, fun j hj => Or.inr ?_⟩
      have a := h (2 * j + 1) (by omega)
      have b := h (2 * j + 1 + 1) (by omega)
      rw [hk (2 * j) (by omega)] at a
      rw [hk (2 * j + 1) (by omega)] at b
      rcases a with a | ⟨_, a⟩ | ⟨a, _⟩
      · rcases b with b | ⟨_, b⟩ | ⟨b, _⟩
        · intro z
          rcases z with z | z
          · exact z a
          · exact z b
        · omega
        · exact absurd hj_m1n0 b
      · omega
      · exact absurd hj_m1n0 a
    · intro h k hk9
      match k, hk9 with
      | 0, _ => exact Or.inr (Or.inl ⟨hj_m1n0, rfl⟩)
      | d + 1, hd =>
        refine Or.inl ?_
        rw [hk d (by omega)]
        rcases Nat.lt_or_ge (d / 2) P with y | y
        · rcases h.2 (d / 2) y with z | z
          · exact absurd z (hj_nm1 (by omega))
          · rcases (by omega : d = 2 * (d / 2) ∨ d = 2 * (d / 2) + 1) with q | q
            · rw [q]
              exact Classical.not_not.mp (fun t => z (Or.inl t))
            · rw [q]
              exact Classical.not_not.mp (fun t => z (Or.inr t))
        · exact hz d (by omega) y
  · subst e
    have hn0 : ¬ nI j0 < 0 := nI_pos (by omega)
    have hne : ¬ nI j0 = -1 := hj_nm1 (by omega)
    constructor
    · intro h
      refine ⟨Or.inl ?_, fun j hj => ?_⟩
      · have a := h 0 (by omega)
        rw [Nat.add_zero, h0] at a
        rcases a with a | ⟨a, _⟩ | ⟨_, a⟩
        · exact a
        · exact absurd a hn0
        · rw [(hj_2w j0).1, (hj_2w j0).2, nI_eq (by omega) (by omega), nI_eq (by omega) (by omega)] at a
          omega
      · by_cases q : j = j0
        · exact Or.inl (by rw [q])
        · refine Or.inr ?_
          have a := h (2 * j + 1) (by omega)
          have b := h (2 * j + 1 + 1) (by omega)
          rw [hk (2 * j) (by omega)] at a
          rw [hk (2 * j + 1) (by omega)] at b
          rw [(hj_2w j0).1, (hj_2w j0).2, nI_eq (by omega) (by omega), nI_eq (by omega) (by omega)] at a b
          rcases a with a | ⟨a, _⟩ | ⟨_, a⟩
          · rcases b with b | ⟨b, _⟩ | ⟨_, b⟩
            · intro z
              rcases z with z | z
              · exact z a
              · exact z b
            · exact absurd b hn0
            · omega
          · exact absurd a hn0
          · omega
    · intro h k hk9
      match k, hk9 with
      | 0, _ =>
        refine Or.inl ?_
        rw [Nat.add_zero, h0]
        rcases h.1 with a | a
        · exact a
        · exact absurd a hne
      | d + 1, hd =>
        rw [(hj_2w j0).1, (hj_2w j0).2, nI_eq (by omega) (by omega), nI_eq (by omega) (by omega), hk d (by omega)]
        rcases Nat.lt_or_ge (d / 2) P with y | y
        · rcases h.2 (d / 2) y with z | z
          · rw [nI_eq (by omega) (by omega)] at z
            exact Or.inr (Or.inr ⟨hn0, by omega⟩)
          · refine Or.inl ?_
            rcases (by omega : d = 2 * (d / 2) ∨ d = 2 * (d / 2) + 1) with q | q
            · rw [q]
              exact Classical.not_not.mp (fun t => z (Or.inl t))
            · rw [q]
              exact Classical.not_not.mp (fun t => z (Or.inr t))
        · exact Or.inl (hz d (by omega) y)

/-! ===== clean ===== -/
def hj_CX (P K : Nat) (S V vr : Nat → Int32) : Prop := ∀ i, i < P → ∀ j, j < P → S i = 1 → ∀ x, x < K → ∀ v, v < 2 → vr ((i * 4 + x) * 8 + (2 * j + v)) = 0 ∨ (S j = 1 ∧ V (j * 4 + x) = nI (v + 1))
def hj_CY (S V saw : Nat → Int32) : Prop := ∀ c, c < 16 → ∀ j, j < 4 → S (c / 4) = 1 → (saw (c * 9 + 2 * j + 1) = 0 ∧ saw (c * 9 + 2 * j + 2) = 0) ∨ (S j = 1 ∧ (saw (c * 9 + 2 * j + 1) = 0 ∨ V (j * 4 + c % 4) = 1) ∧ (saw (c * 9 + 2 * j + 2) = 0 ∨ V (j * 4 + c % 4) = 2))
theorem hj_CXY {P K : Nat} {S V vr saw : Nat → Int32} (hP : P ≤ 4) (hK : K ≤ 4) (hS : ∀ i, i < 4 → P ≤ i → S i = 0) (hs : ∀ c, c < 16 → ∀ d, d < 8 → saw (c * 9 + (d + 1)) = vr (c * 8 + d)) (hz : ∀ i, i < 4 → ∀ x, x < 4 → ∀ d, d < 8 → (K ≤ x ∨ P ≤ d / 2) → vr ((i * 4 + x) * 8 + d) = 0) : hj_CY S V saw ↔ hj_CX P K S V vr := by
  have s1 : ∀ c, c < 16 → ∀ j, j < 4 → saw (c * 9 + 2 * j + 1) = vr (c * 8 + (2 * j + 0)) := fun c hc j hj => by
    rw [← hs c hc (2 * j + 0) (by omega)]
    exact congrArg saw (by omega)
  have s2 : ∀ c, c < 16 → ∀ j, j < 4 → saw (c * 9 + 2 * j + 2) = vr (c * 8 + (2 * j + 1)) := fun c hc j hj => by
    rw [← hs c hc (2 * j + 1) (by omega)]
    exact congrArg saw (by omega)
  constructor
  · intro h i hi j hj hSi x hx v hv
    have hc : i * 4 + x < 16 := by omega
    have hd : (i * 4 + x) / 4 = i := by omega
    have hm : (i * 4 + x) % 4 = x := by omega
    have a := h (i * 4 + x) hc j (by omega)
    rw [hd, hm, s1 _ hc j (by omega), s2 _ hc j (by omega)] at a
    rcases (by omega : v = 0 ∨ v = 1) with e | e <;> subst e
    · rcases a hSi with ⟨a, _⟩ | ⟨a, b, _⟩
      · exact Or.inl a
      · rcases b with b | b
        · exact Or.inl b
        · exact Or.inr ⟨a, b⟩
    · rcases a hSi with ⟨_, a⟩ | ⟨a, _, b⟩
      · exact Or.inl a
      · rcases b with b | b
        · exact Or.inl b
        · exact Or.inr ⟨a, b⟩
  · intro h c hc j hj hSi
    have ec : c = (c / 4) * 4 + c % 4 := by omega
    rw [s1 c hc j hj, s2 c hc j hj]
    have hP' : c / 4 < P := by
      rcases Nat.lt_or_ge (c / 4) P with y | y
      · exact y
      · rw [hS _ (by omega) y] at hSi
        exact absurd hSi (by decide)
    by_cases hx : c % 4 < K ∧ j < P
    · have a := h (c / 4) hP' j hx.2 hSi (c % 4) hx.1 0 (by omega)
      have b := h (c / 4) hP' j hx.2 hSi (c % 4) hx.1 1 (by omega)
      rw [← ec] at a b
      rcases a with a | ⟨a1, a2⟩
      · rcases b with b | ⟨b1, b2⟩
        · exact Or.inl ⟨a, b⟩
        · exact Or.inr ⟨b1, Or.inl a, Or.inr b2⟩
      · rcases b with b | ⟨b1, b2⟩
        · exact Or.inr ⟨a1, Or.inr a2, Or.inl b⟩
        · exact Or.inr ⟨a1, Or.inr a2, Or.inr b2⟩
    · have a := hz (c / 4) (by omega) (c % 4) (by omega) (2 * j + 0) (by omega) (by omega)
      have b := hz (c / 4) (by omega) (c % 4) (by omega) (2 * j + 1) (by omega) (by omega)
      rw [← ec] at a b
      exact Or.inl ⟨a, b⟩

/-! ===== ranks ===== -/
def hj_rn (q : Nat → Nat) (x i : Nat) : Nat := if q (i * 4 + x) = 0 then 4 + i else q (i * 4 + x) - 1
end
section
/-! ===== the relation, without the tuples ===== -/
def hj_R (P K : Nat) (S V inst gr vr saw ord L : Nat → Int32) (q l : Nat → Nat) : Prop :=
  (1 ≤ P ∧ P ≤ 4) ∧ (1 ≤ K ∧ K ≤ 4) ∧ (∀ i, i < 4 → P ≤ i → S i = 0) ∧ (∀ c, c < 16 → ∃ k, k ≤ 2 ∧ V c = nI k) ∧
  (∀ c, c < 16 → inst c = nI (q c)) ∧ (∀ x, x < 4 → L x = nI (l x)) ∧
  (∀ x, x < 4 → l x = min (q (0 * 4 + x)) 1 + min (q (1 * 4 + x)) 1 + min (q (2 * 4 + x)) 1 + min (q (3 * 4 + x)) 1) ∧
  (∀ x, x < 4 → ∀ i, i < 4 → q (i * 4 + x) ≤ l x) ∧
  (∀ x, x < 4 → ∀ k, k < l x → ∀ i, i < 4 → (ord (x * 4 + k) = nI i ↔ q (i * 4 + x) = k + 1)) ∧
  (∀ c, c < 16 → saw (c * 9) = gr c) ∧ (∀ c, c < 16 → ∀ d, d < 8 → saw (c * 9 + (d + 1)) = vr (c * 8 + d)) ∧
  (∀ i, i < 4 → ∀ x, x < 4 → ∀ d, d < 8 → (K ≤ x ∨ P ≤ d / 2) → vr ((i * 4 + x) * 8 + d) = 0)
theorem hj_R0 {P K : Nat} (h1 : 1 ≤ P) (h2 : P ≤ 4) (h3 : 1 ≤ K) (h4 : K ≤ 4) : hj_R P K (fun _ => 0) (fun _ => 0) (fun _ => 0) (fun _ => 0) (fun _ => 0) (fun _ => 0) (fun _ => 0) (fun _ => 0) (fun _ => 0) (fun _ => 0) :=
  ⟨⟨h1, h2⟩, ⟨h3, h4⟩, fun _ _ _ => rfl, fun _ _ => ⟨0, by omega, rfl⟩, fun _ _ => rfl, fun _ _ => rfl, fun _ _ => rfl, fun _ _ _ _ => Nat.le_refl 0, fun _ _ k hk => absurd hk (Nat.not_lt_zero k), fun _ _ => rfl, fun _ _ _ _ => rfl, fun _ _ _ _ _ _ _ => rfl⟩
theorem hj_RS {P K : Nat} {S V inst gr vr saw ord L : Nat → Int32} {q l : Nat → Nat} (h : hj_R P K S V inst gr vr saw ord L q l) {i : Nat} (hi : i < P) (v : Int32) : hj_R P K (upd S i v) V inst gr vr saw ord L q l := by
  obtain ⟨h1, h2, h3, h⟩ := h
  exact ⟨h1, h2, fun j hj hPj => by rw [pk_un (by omega)]; exact h3 j hj hPj, h⟩
theorem hj_RV {P K : Nat} {S V inst gr vr saw ord L : Nat → Int32} {q l : Nat → Nat} (h : hj_R P K S V inst gr vr saw ord L q l) {c k : Nat} (hk : k ≤ 2) : hj_R P K S (upd V c (nI k)) inst gr vr saw ord L q l := by
  obtain ⟨h1, h2, h3, h4, h⟩ := h
  refine ⟨h1, h2, h3, fun c' hc' => ?_, h⟩
  by_cases e : c' = c
  · rw [e]
    exact ⟨k, hk, pk_us⟩
  · rw [pk_un e]
    exact h4 c' hc'
theorem hj_Rg {P K : Nat} {S V inst gr vr saw ord L : Nat → Int32} {q l : Nat → Nat} (h : hj_R P K S V inst gr vr saw ord L q l) {c : Nat} (v : Int32) : hj_R P K S V inst (upd gr c v) vr (upd saw (c * 9) v) ord L q l := by
  obtain ⟨h1, h2, h3, h4, h5, h6, h7, h8, h9, h10, h11, h12⟩ := h
  refine ⟨h1, h2, h3, h4, h5, h6, h7, h8, h9, fun c' hc' => ?_, fun c' hc' d hd => ?_, h12⟩
  · by_cases e : c' = c
    · rw [e, pk_us, pk_us]
    · rw [pk_un e, pk_un (by omega)]
      exact h10 c' hc'
  · rw [pk_un (by omega)]
    exact h11 c' hc' d hd
theorem hj_Rv {P K : Nat} {S V inst gr vr saw ord L : Nat → Int32} {q l : Nat → Nat} (h : hj_R P K S V inst gr vr saw ord L q l) {i x d : Nat} (hi : i < 4) (hx : x < K) (hd : d < 8) (hdP : d / 2 < P) (v : Int32) : hj_R P K S V inst gr (upd vr ((i * 4 + x) * 8 + d) v) (upd saw ((i * 4 + x) * 9 + (d + 1)) v) ord L q l := by
  obtain ⟨h1, h2, h3, h4, h5, h6, h7, h8, h9, h10, h11, h12⟩ := h
  refine ⟨h1, h2, h3, h4, h5, h6, h7, h8, h9, fun c' hc' => ?_, fun c' hc' d' hd' => ?_, fun i' hi' x' hx' d' hd' hz => ?_⟩
  · rw [pk_un (by omega)]
    exact h10 c' hc'
  · by_cases e : c' = i * 4 + x ∧ d' = d
    · rw [e.1, e.2, pk_us, pk_us]
    · rw [pk_un (by omega), pk_un (by omega)]
      exact h11 c' hc' d' hd'
  · rw [pk_un (by omega)]
    exact h12 i' hi' x' hx' d' hd' hz
theorem hj_Ri {P K : Nat} {S V inst gr vr saw ord L : Nat → Int32} {q l : Nat → Nat} (h : hj_R P K S V inst gr vr saw ord L q l) {i x : Nat} (hi : i < 4) (hx : x < 4) (h0 : q (i * 4 + x) = 0) : hj_R P K S V (upd inst (i * 4 + x) (nI (l x + 1))) gr vr saw (upd ord (x * 4 + l x) (nI i)) (upd L x (nI (l x + 1))) (fun c => if c = i * 4 + x then l x + 1 else q c) (fun y => if y = x then l x + 1 else l y) := by
  obtain ⟨h1, h2, h3, h4, h5, h6, h7, h8, h9, h10, h11, h12⟩ := h
  have hl := h7 x hx
  have hl3 : l x ≤ 3 := by
    rcases (by omega : i = 0 ∨ i = 1 ∨ i = 2 ∨ i = 3) with e | e | e | e <;> subst e <;> omega
  refine ⟨h1, h2, h3, h4, fun c hc => ?_, fun y hy => ?_, fun y hy => ?_, fun y hy j hj => ?_, fun y hy k hk j hj => ?_, h10, h11, h12⟩
  · dsimp only
    by_cases e : c = i * 4 + x
    · rw [e, pk_us, if_pos rfl]
    · rw [pk_un e, if_neg e]
      exact h5 c hc
  · dsimp only
    by_cases e : y = x
    · rw [e, pk_us, if_pos rfl]
    · rw [pk_un e, if_neg e]
      exact h6 y hy
  · dsimp only
    by_cases e : y = x
    · subst e
      rw [if_pos rfl]
      rcases (by omega : i = 0 ∨ i = 1 ∨ i = 2 ∨ i = 3) with e | e | e | e <;> subst e
      · rw [if_pos rfl, if_neg (by omega), if_neg (by omega), if_neg (by omega)]; omega
      · rw [if_pos rfl, if_neg (by omega), if_neg (by omega), if_neg (by omega)]; omega
      · rw [if_pos rfl, if_neg (by omega), if_neg (by omega), if_neg (by omega)]; omega
      · rw [if_pos rfl, if_neg (by omega), if_neg (by omega), if_neg (by omega)]; omega
    · rw [if_neg e, if_neg (by omega), if_neg (by omega), if_neg (by omega), if_neg (by omega)]
      exact h7 y hy
  · dsimp only
    by_cases e : y = x
    · subst e
      rw [if_pos rfl]
      have := h8 y hy j hj
      split <;> omega
    · rw [if_neg e, if_neg (by omega)]
      exact h8 y hy j hj
  · dsimp only at hk ⊢
    by_cases e : y = x
    · subst e
      rw [if_pos rfl] at hk
      by_cases ek : k = l y
      · rw [ek, pk_us, nI_eq (by omega) (by omega)]
        have := h8 y hy j hj
        by_cases ej : j = i
        · rw [ej, if_pos rfl]
          exact ⟨fun _ => rfl, fun _ => rfl⟩
        · rw [if_neg (by omega)]
          exact ⟨fun z => by omega, fun z => by omega⟩
      · rw [pk_un (by omega), h9 y hy k (by omega) j hj]
        by_cases ej : j = i
        · rw [ej, if_pos rfl, h0]
          exact ⟨fun z => by omega, fun z => by omega⟩
        · rw [if_neg (by omega)]
    · rw [if_neg e] at hk
      have := h7 y hy
      rw [pk_un (by omega), if_neg (by omega)]
      exact h9 y hy k hk j hj
theorem hj_l4 {P K : Nat} {S V inst gr vr saw ord L : Nat → Int32} {q l : Nat → Nat} (h : hj_R P K S V inst gr vr saw ord L q l) {x : Nat} (hx : x < 4) : l x ≤ 4 := by
  obtain ⟨_, _, _, _, _, _, h7, _⟩ := h
  have := h7 x hx
  omega
theorem hj_l3 {P K : Nat} {S V inst gr vr saw ord L : Nat → Int32} {q l : Nat → Nat} (h : hj_R P K S V inst gr vr saw ord L q l) {x i : Nat} (hx : x < 4) (hi : i < 4) (h0 : q (i * 4 + x) = 0) : l x < 4 := by
  obtain ⟨_, _, _, _, _, _, h7, _⟩ := h
  have hl := h7 x hx
  rcases (by omega : i = 0 ∨ i = 1 ∨ i = 2 ∨ i = 3) with e | e | e | e <;> subst e <;> omega
theorem hj_rnl {P K : Nat} {S V inst gr vr saw ord L : Nat → Int32} {q l : Nat → Nat} (h : hj_R P K S V inst gr vr saw ord L q l) {x i : Nat} (hx : x < 4) (hi : i < 4) : hj_rn q x i < 8 := by
  have h4 := hj_l4 h hx
  obtain ⟨_, _, _, _, _, _, _, h8, _⟩ := h
  have := h8 x hx i hi
  unfold hj_rn
  split <;> omega
theorem hj_rni {P K : Nat} {S V inst gr vr saw ord L : Nat → Int32} {q l : Nat → Nat} (h : hj_R P K S V inst gr vr saw ord L q l) {x i j : Nat} (hx : x < 4) (hi : i < 4) (hj : j < 4) (e : hj_rn q x i = hj_rn q x j) : i = j := by
  have h4 := hj_l4 h hx
  obtain ⟨_, _, _, _, _, _, _, h8, h9, _⟩ := h
  have a := h8 x hx i hi
  have b := h8 x hx j hj
  unfold hj_rn at e
  by_cases zi : q (i * 4 + x) = 0
  · rw [if_pos zi] at e
    by_cases zj : q (j * 4 + x) = 0
    · rw [if_pos zj] at e
      omega
    · rw [if_neg zj] at e
      omega
  · rw [if_neg zi] at e
    by_cases zj : q (j * 4 + x) = 0
    · rw [if_pos zj] at e
      omega
    · rw [if_neg zj] at e
      have p := (h9 x hx (q (i * 4 + x) - 1) (by omega) i hi).mpr (by omega)
      have r := (h9 x hx (q (i * 4 + x) - 1) (by omega) j hj).mpr (by omega)
      rw [p, nI_eq (by omega) (by omega)] at r
      exact r

/-! ===== what a list keeps ===== -/
def hj_Rk (K : Nat) (V : Nat → Int32) (q : Nat → Nat) (m : Nat → Nat) (n : Nat) : Prop := ∀ x, x < K → ∀ b, b < n → ∀ a, a < b → hj_W V (m b) x → hj_W V (m a) x → hj_rn q x (m a) < hj_rn q x (m b)
def hj_RkX (K : Nat) (V : Nat → Int32) (q : Nat → Nat) (i j : Nat) : Prop := ∀ x, x < K → ¬ (hj_W V i x ∧ hj_W V j x ∧ hj_rn q x j < hj_rn q x i)
def hj_Src (K : Nat) (vr : Nat → Int32) (m : Nat → Nat) (n : Nat) : Prop := ∀ b, b < n → ∀ a, a < b → ¬ ∃ x, x < K ∧ hj_rk vr (m a) x (m b)
def hj_sawA (saw : Nat → Int32) (i j : Nat) : Prop := ∃ x, x < 4 ∧ (¬ saw ((i * 4 + x) * 9 + 2 * j + 1) = 0 ∨ ¬ saw ((i * 4 + x) * 9 + 2 * j + 2) = 0)
def hj_RF (P K : Nat) (V gr vr : Nat → Int32) (m : Nat → Nat) (i g : Nat) : Prop := ∀ x, x < K → hj_RX P gr vr i x (hj_lw V m x g)
def hj_Rd (P K : Nat) (V gr vr : Nat → Int32) (m : Nat → Nat) (n : Nat) : Prop := ∀ b, b < n → hj_RF P K V gr vr m (m b) b
def hj_sh (K : Nat) (V : Nat → Int32) (i j : Nat) : Prop := ∃ x, x < K ∧ hj_W V i x ∧ hj_W V j x
def hj_St (P K : Nat) (V gr vr : Nat → Int32) (m : Nat → Nat) (b g : Nat) : Prop := hj_RF P K V gr vr m (m b) g ∧ ∀ a, g ≤ a → a < b → ¬ hj_sh K V (m a) (m b)
def hj_Sn (P K : Nat) (V gr vr : Nat → Int32) (m : Nat → Nat) (n : Nat) : Prop := ∀ b, b < n → ∃ g, g ≤ b ∧ hj_St P K V gr vr m b g
/-- startsAfterRivals -/
def hj_SR (P K : Nat) (V pl : Nat → Int32) (i g : Nat) : Prop := ∀ j, j < P → ∀ x, x < K → ¬ (hj_W V i x ∧ hj_W V j x ∧ nI g ≤ pl j ∧ pl j < pl i)
theorem hj_RkXY {P K : Nat} {S V inst gr vr saw ord L : Nat → Int32} {q l : Nat → Nat} (h : hj_R P K S V inst gr vr saw ord L q l) {m : Nat → Nat} {n : Nat} (hv : hj_Val S m n) (hm : ∀ a, m a < 4) : (∀ b, b < n → ∀ a, a < b → hj_RkX K V q (m a) (m b)) ↔ hj_Rk K V q m n := by
  have hK := h.2.1.2
  constructor
  · intro H x hx b hb a ha wb wa
    have := H b hb a ha x hx
    rcases Nat.lt_trichotomy (hj_rn q x (m a)) (hj_rn q x (m b)) with z | z | z
    · exact z
    · exact absurd (hj_rni h (by omega) (hm a) (hm b) z) ((hv b hb).2 a ha)
    · exact absurd ⟨wa, wb, z⟩ this
  · intro H b hb a ha x hx ⟨wa, wb, z⟩
    have := H x hx b hb a ha wb wa
    omega
theorem hj_SrcY {P K : Nat} {S V inst gr vr saw ord L : Nat → Int32} {q l : Nat → Nat} (h : hj_R P K S V inst gr vr saw ord L q l) {i j : Nat} (hi : i < 4) (hj : j < 4) : hj_sawA saw i j ↔ ∃ x, x < K ∧ hj_rk vr i x j := by
  obtain ⟨_, h2, _, _, _, _, _, _, _, _, h11, h12⟩ := h
  have s1 : ∀ x, x < 4 → saw ((i * 4 + x) * 9 + 2 * j + 1) = vr ((i * 4 + x) * 8 + 2 * j) := fun x hx => by
    rw [← h11 (i * 4 + x) (by omega) (2 * j) (by omega)]
    exact congrArg saw (by omega)
  have s2 : ∀ x, x < 4 → saw ((i * 4 + x) * 9 + 2 * j + 2) = vr ((i * 4 + x) * 8 + (2 * j + 1)) := fun x hx => by
    rw [← h11 (i * 4 + x) (by omega) (2 * j + 1) (by omega)]
    exact congrArg saw (by omega)
  constructor
  · intro ⟨x, hx, z⟩
    rw [s1 x hx, s2 x hx] at z
    rcases Nat.lt_or_ge x K with y | y
    · exact ⟨x, y, z⟩
    · rcases z with z | z
      · exact absurd (h12 i hi x hx (2 * j) (by omega) (Or.inl y)) z
      · exact absurd (h12 i hi x hx (2 * j + 1) (by omega) (Or.inl y)) z
  · intro ⟨x, hx, z⟩
    refine ⟨x, by omega, ?_⟩
    rw [s1 x (by omega), s2 x (by omega)]
    exact z
theorem hj_RFY {P K : Nat} {S V inst gr vr saw ord L : Nat → Int32} {q l : Nat → Nat} (h : hj_R P K S V inst gr vr saw ord L q l) {m : Nat → Nat} {n : Nat} (hv : hj_Val S m n) (hm : ∀ a, m a < 4) {i g : Nat} (hi : i < 4) (hg : g ≤ n) : (∀ x, x < K → hj_RY saw i x (hj_lw V m x g)) ↔ hj_RF P K V gr vr m i g := by
  obtain ⟨h1, h2, h3, _, _, _, _, _, _, h10, h11, h12⟩ := h
  have key : ∀ x, x < K → (hj_RY saw i x (hj_lw V m x g) ↔ hj_RX P gr vr i x (hj_lw V m x g)) := fun x hx => by
    refine hj_RYX h10 h11 h1.2 hi (by omega) (fun d hd hPd => h12 i hi x (by omega) d hd (Or.inr hPd)) ?_
    rcases hj_lw_v V m x g with e | ⟨a, ha, e⟩
    · exact Or.inl e
    · exact Or.inr ⟨m a, hj_lo hv hm h3 (by omega), e⟩
  exact ⟨fun H x hx => (key x hx).mp (H x hx), fun H x hx => (key x hx).mpr (H x hx)⟩
theorem hj_SRY {P K : Nat} {S V pl : Nat → Int32} {m : Nat → Nat} {n b g : Nat} (hn : n ≤ 4) (hP : P ≤ 4) (hv : hj_Val S m n) (hp : hj_PL pl m n) (hm : ∀ a, m a < 4) (hS : ∀ i, i < 4 → P ≤ i → S i = 0) (hb : b < n) (hg : g ≤ b) : hj_SR P K V pl (m b) g ↔ ∀ a, g ≤ a → a < b → ¬ hj_sh K V (m a) (m b) := by
  have hpb := hj_at hv hp hm hb
  constructor
  · intro H a ga ab ⟨x, hx, wa, wb⟩
    have hpa := hj_at hv hp hm (a := a) (by omega)
    refine H (m a) (hj_lo hv hm hS (by omega)) x hx ⟨wb, wa, ?_, ?_⟩
    · rw [hpa]
      exact nI_le ga (by omega)
    · rw [hpa, hpb]
      exact nI_lt ab (by omega)
  · intro H j hj x hx ⟨wb, wj, c1, c2⟩
    rcases hp j (by omega) with ⟨a, ha, e, hpa⟩ | ⟨z, _⟩
    · rw [hpa, nI_leI (by omega) (by omega)] at c1
      rw [hpa, hpb, nI_ltI (by omega) (by omega)] at c2
      refine H a c1 c2 ⟨x, hx, ?_, wb⟩
      rw [e]
      exact wj
    · rw [z] at c1
      exact absurd c1 (hj_nle1 (by omega))
/-- the list is kept for the kind -/
def hj_Kp (P K : Nat) (S V gr vr : Nat → Int32) (q : Nat → Nat) (n kind : Nat) (m : Nat → Nat) : Prop := hj_Val S m n ∧ (kind = 0 ∨ hj_Rk K V q m n) ∧ (kind ≠ 2 ∨ hj_Src K vr m n) ∧ (kind ≠ 3 ∨ hj_Sn P K V gr vr m n) ∧ (kind ≠ 4 ∨ hj_Rd P K V gr vr m n)
end
section
section
variable {P K : Nat} {S V It gr vr sw od L pl : Nat → Int32} {q l : Nat → Nat} {m : Nat → Nat} {n : Nat}
theorem hj_p0 {post : Int32 → Prop} {p : Prop} (h : post (hj_b p)) (hn : ¬ p) : post 0 := by
  rw [hj_b0 hn] at h
  exact h
theorem hj_p1 {post : Int32 → Prop} {p : Prop} (h : post (hj_b p)) (hp : p) : post 1 := by
  rw [hj_b1 hp] at h
  exact h
theorem hj_nf {i P : Nat} {x : Int32} (hP : P ≤ 4) (h : x < 0 ∨ nI P ≤ x) (hx : x = nI i) (hi : i < P) : False := by
  subst hx
  rcases h with h | h
  · exact nI_pos (by omega) h
  · exact nI_ge hi (by omega) h
theorem hj_isN {P : Nat} {x : Int32} (hP : P ≤ 4) (h0 : ¬ x < 0) (h1 : ¬ nI P ≤ x) : ∃ j, j < P ∧ x = nI j := by
  obtain ⟨j, hj, rfl⟩ := nI_of h0
  rw [nI_leI (by omega) hj] at h1
  exact ⟨j, by omega, rfl⟩
theorem hx_isT {post : Int32 → Prop} (R : hj_R P K S V It gr vr sw od L q l) (i : Int32) (h : post (hj_b (∃ j, j < P ∧ i = nI j))) : wpX_isTransaction post (nI P, nI K, S, V, It, L, gr, vr, pl) i := by
  have hP := R.1.2
  refine br_c (fun z => hj_p0 h ?_) (fun z => br_c (fun z2 => hj_p0 h ?_) (fun z2 => hj_p1 h (hj_isN hP z z2)))
  · intro ⟨j, hj, e⟩
    exact hj_nf hP (Or.inl z) e hj
  · intro ⟨j, hj, e⟩
    exact hj_nf hP (Or.inr z2) e hj
theorem hx_isK {post : Int32 → Prop} (R : hj_R P K S V It gr vr sw od L q l) (i : Int32) (h : post (hj_b (∃ j, j < K ∧ i = nI j))) : wpX_isKey post (nI P, nI K, S, V, It, L, gr, vr, pl) i := by
  have hP := R.2.1.2
  refine br_c (fun z => hj_p0 h ?_) (fun z => br_c (fun z2 => hj_p0 h ?_) (fun z2 => hj_p1 h (hj_isN hP z z2)))
  · intro ⟨j, hj, e⟩
    exact hj_nf hP (Or.inl z) e hj
  · intro ⟨j, hj, e⟩
    exact hj_nf hP (Or.inr z2) e hj
theorem hx_wrote {post : Int32 → Prop} {i x : Nat} (hi : i < 4) (hx : x < 4) (h : post (hj_b (hj_W V i x))) : wpX_wrote post (nI P, nI K, S, V, It, L, gr, vr, pl) (nI i) (nI x) := by
  have ec : (nI (i * 4 + x)).toNatClampNeg = i * 4 + x := nI_clamp (by omega)
  unfold wpX_wrote
  dsimp only
  rw [hj_c4, ec]
  exact ⟨vp_in_nI (by omega) (by omega), br_c (fun z => hj_p0 h (fun w => w z)) (fun z => hj_p1 h z)⟩
theorem hx_rankOf {post : Int32 → Prop} (R : hj_R P K S V It gr vr sw od L q l) {i x : Nat} (hi : i < 4) (hx : x < 4) (h : post (nI (hj_rn q x i + 1))) : wpX_rankOf post (nI P, nI K, S, V, It, L, gr, vr, pl) (nI i) (nI x) := by
  have ec : (nI (i * 4 + x)).toNatClampNeg = i * 4 + x := nI_clamp (by omega)
  have hq := R.2.2.2.2.1 (i * 4 + x) (by omega)
  have hl := hj_l4 R hx
  have hq4 := R.2.2.2.2.2.2.2.1 x hx i hi
  unfold wpX_rankOf wpX_cellOf
  dsimp only
  rw [hj_c4, ec, hq]
  refine ⟨vp_in_nI (by omega) (by omega), nm_e ?_⟩
  unfold hj_rn at h
  by_cases z : q (i * 4 + x) = 0
  · rw [if_pos z] at h
    rw [z]
    refine br_t (nI_le (a := 0) (b := 0) (Nat.le_refl 0) (by decide)) ?_
    rw [show (5 : Int32) = nI 5 from rfl, nI_add, show 5 + i = 4 + i + 1 by omega]
    exact h
  · rw [if_neg z] at h
    refine br_f (nI_nle (by omega) (by omega)) ?_
    rw [show q (i * 4 + x) - 1 + 1 = q (i * 4 + x) by omega] at h
    exact h
theorem hx_ranksBefore {post : Int32 → Prop} (R : hj_R P K S V It gr vr sw od L q l) {i j : Nat} (hi : i < 4) (hj : j < 4) (h : post (hj_b (hj_RkX K V q i j))) : wpX_ranksBefore post (nI P, nI K, S, V, It, L, gr, vr, pl) (nI i) (nI j) := by
  have hK := R.2.1.2
  refine loop_0 (fun n x (_ : Unit) => wX_ranksBefore_2 post (nI i) (nI j) (nI P) (nI K) S V It L gr vr pl n (nI x)) (fun x _ => ∀ y, y < x → ¬ (hj_W V i y ∧ hj_W V j y ∧ hj_rn q y j < hj_rn q y i)) K () lt_0 ?_ ?_
  · intro n _ I
    exact br_t (nI_le (Nat.le_refl _) (by omega)) (hj_p1 h I)
  · intro n x _ hx I next
    refine br_f (nI_ge hx (by omega)) (hx_wrote hi (by omega) (hj_br (fun hn => ?_) (fun hw => hx_wrote hj (by omega) (hj_br (fun hn => ?_) (fun hw2 => ?_)))))
    · exact br_t rfl (nm_r (nI_1 x) (next () (lt_s I (fun z => hn z.1))))
    · exact br_t rfl (nm_r (nI_1 x) (next () (lt_s I (fun z => hn z.2.1))))
    · have a := hj_rnl R (x := x) (i := i) (by omega) hi
      have b := hj_rnl R (x := x) (i := j) (by omega) hj
      refine br_f (by decide) (hx_rankOf R hi (by omega) (hx_rankOf R hj (by omega) (pk_le (hj_rn q x i + 1) (hj_rn q x j + 1) (fun z => ?_) (fun z => ?_))))
      · exact nm_r (nI_1 x) (next () (lt_s I (fun w => by omega)))
      · exact hj_p0 h (fun w => w x hx ⟨hw, hw2, by omega⟩)
theorem hx_keepsRankings {post : Int32 → Prop} (R : hj_R P K S V It gr vr sw od L q l) (h : post (hj_b (∀ i, i < P → ∀ j, j < P → (pl i = -1 ∨ pl j ≤ pl i ∨ hj_RkX K V q i j)))) : wpX_keepsRankings post (nI P, nI K, S, V, It, L, gr, vr, pl) := by
  have hP := R.1.2
  refine loop_0 (fun n i (_ : Unit) => wX_keepsRankings_2 post (nI P) (nI K) S V It L gr vr pl n (nI i)) (fun i _ => ∀ a, a < i → ∀ j, j < P → (pl a = -1 ∨ pl j ≤ pl a ∨ hj_RkX K V q a j)) P () lt_0 ?_ ?_
  · intro n _ I
    exact br_t (nI_le (Nat.le_refl _) (by omega)) (hj_p1 h I)
  · intro n i _ hi I next
    refine br_f (nI_ge hi (by omega)) ?_
    refine loop_0 (fun n' j (_ : Unit) => wX_keepsRankings_12 post (wX_keepsRankings_2 post (nI P) (nI K) S V It L gr vr pl n) (nI i) (nI P) (nI K) S V It L gr vr pl n' (nI j)) (fun j _ => ∀ b, b < j → (pl i = -1 ∨ pl b ≤ pl i ∨ hj_RkX K V q i b)) P () lt_0 ?_ ?_
    · intro n' _ I'
      exact br_t (nI_le (Nat.le_refl _) (by omega)) (nm_r (nI_1 i) (next () (lt_s I I')))
    · intro n' j _ hj I' next'
      have ci : (nI i).toNatClampNeg = i := nI_clamp (by omega)
      have cj : (nI j).toNatClampNeg = j := nI_clamp (by omega)
      have vi : vp_in (nI i) 4 := vp_in_nI (by omega) (by omega)
      have vj : vp_in (nI j) 4 := vp_in_nI (by omega) (by omega)
      show wX_keepsRankings_12 post _ (nI i) (nI P) (nI K) S V It L gr vr pl (n' + 1) (nI j)
      rw [wX_keepsRankings_12]
      dsimp only
      rw [ci, cj]
      refine br_f (nI_ge hj (by omega)) ⟨vi, br_c (fun z => nm_r (nI_1 j) (next' () (lt_s I' (Or.inl z)))) (fun z => ⟨vj, vi, br_c (fun z2 => nm_r (nI_1 j) (next' () (lt_s I' (Or.inr (Or.inl z2))))) (fun z2 => hx_ranksBefore R (by omega) (by omega) (hj_br (fun hn => hj_p0 h (fun w => ?_)) (fun hg => nm_r (nI_1 j) (next' () (lt_s I' (Or.inr (Or.inr hg)))))))⟩)⟩
      rcases w i hi j hj with w | w | w
      · exact z w
      · exact z2 w
      · exact hn w
theorem hj_ro1 (i x j : Nat) : ((nI i * 4 + nI x) * 4 + nI j) * 2 + 1 - 1 = nI ((i * 4 + x) * 8 + 2 * j) := hj_ro i x j 0
theorem hj_ro2 (i x j : Nat) : ((nI i * 4 + nI x) * 4 + nI j) * 2 + 2 - 1 = nI ((i * 4 + x) * 8 + (2 * j + 1)) := hj_ro i x j 1
theorem hx_readsKeyFrom {post : Int32 → Prop} {i x j : Nat} (hi : i < 4) (hx : x < 4) (hj : j < 4) (h : post (hj_b (hj_rk vr i x j))) : wpX_readsKeyFrom post (nI P, nI K, S, V, It, L, gr, vr, pl) (nI i) (nI x) (nI j) := by
  have c1 : (nI ((i * 4 + x) * 8 + 2 * j)).toNatClampNeg = (i * 4 + x) * 8 + 2 * j := nI_clamp (by omega)
  have c2 : (nI ((i * 4 + x) * 8 + (2 * j + 1))).toNatClampNeg = (i * 4 + x) * 8 + (2 * j + 1) := nI_clamp (by omega)
  have v1 : vp_in (nI ((i * 4 + x) * 8 + 2 * j)) 128 := vp_in_nI (by omega) (by omega)
  have v2 : vp_in (nI ((i * 4 + x) * 8 + (2 * j + 1))) 128 := vp_in_nI (by omega) (by omega)
  unfold wpX_readsKeyFrom wpX_readOf
  dsimp only
  rw [hj_ro1, hj_ro2, c1, c2]
  refine ⟨v1, nm_e ⟨v2, nm_e (br_c (fun z => br_c (fun z2 => hj_p0 h ?_) (fun z2 => hj_p1 h (Or.inr z2))) (fun z => hj_p1 h (Or.inl z)))⟩⟩
  intro w
  rcases w with w | w
  · exact w z
  · exact w z2
theorem hx_readsFrom {post : Int32 → Prop} (R : hj_R P K S V It gr vr sw od L q l) {i j : Nat} (hi : i < 4) (hj : j < 4) (h : post (hj_b (∃ x, x < K ∧ hj_rk vr i x j))) : wpX_readsFrom post (nI P, nI K, S, V, It, L, gr, vr, pl) (nI i) (nI j) := by
  have hK := R.2.1.2
  refine loop_0 (fun n x (_ : Unit) => wX_readsFrom_2 post (nI i) (nI j) (nI P) (nI K) S V It L gr vr pl n (nI x)) (fun x _ => ∀ y, y < x → ¬ hj_rk vr i y j) K () lt_0 ?_ ?_
  · intro n _ I
    exact br_t (nI_le (Nat.le_refl _) (by omega)) (hj_p0 h (fun ⟨x, hx, z⟩ => I x hx z))
  · intro n x _ hx I next
    exact br_f (nI_ge hx (by omega)) (hx_readsKeyFrom hi (by omega) hj (hj_br (fun hn => nm_r (nI_1 x) (next () (lt_s I hn))) (fun hg => hj_p1 h ⟨x, hx, hg⟩)))
theorem hx_keepsSources {post : Int32 → Prop} (R : hj_R P K S V It gr vr sw od L q l) (h : post (hj_b (∀ i, i < P → ∀ j, j < P → (pl i = -1 ∨ pl j ≤ pl i ∨ ¬ ∃ x, x < K ∧ hj_rk vr i x j)))) : wpX_keepsSources post (nI P, nI K, S, V, It, L, gr, vr, pl) := by
  have hP := R.1.2
  refine loop_0 (fun n i (_ : Unit) => wX_keepsSources_2 post (nI P) (nI K) S V It L gr vr pl n (nI i)) (fun i _ => ∀ a, a < i → ∀ j, j < P → (pl a = -1 ∨ pl j ≤ pl a ∨ ¬ ∃ x, x < K ∧ hj_rk vr a x j)) P () lt_0 ?_ ?_
  · intro n _ I
    exact br_t (nI_le (Nat.le_refl _) (by omega)) (hj_p1 h I)
  · intro n i _ hi I next
    refine br_f (nI_ge hi (by omega)) ?_
    refine loop_0 (fun n' j (_ : Unit) => wX_keepsSources_12 post (wX_keepsSources_2 post (nI P) (nI K) S V It L gr vr pl n) (nI i) (nI P) (nI K) S V It L gr vr pl n' (nI j)) (fun j _ => ∀ b, b < j → (pl i = -1 ∨ pl b ≤ pl i ∨ ¬ ∃ x, x < K ∧ hj_rk vr i x b)) P () lt_0 ?_ ?_
    · intro n' _ I'
      exact br_t (nI_le (Nat.le_refl _) (by omega)) (nm_r (nI_1 i) (next () (lt_s I I')))
    · intro n' j _ hj I' next'
      have ci : (nI i).toNatClampNeg = i := nI_clamp (by omega)
      have cj : (nI j).toNatClampNeg = j := nI_clamp (by omega)
      have vi : vp_in (nI i) 4 := vp_in_nI (by omega) (by omega)
      have vj : vp_in (nI j) 4 := vp_in_nI (by omega) (by omega)
      show wX_keepsSources_12 post _ (nI i) (nI P) (nI K) S V It L gr vr pl (n' + 1) (nI j)
      rw [wX_keepsSources_12]
      dsimp only
      rw [ci, cj]
      refine br_f (nI_ge hj (by omega)) ⟨vi, br_c (fun z => nm_r (nI_1 j) (next' () (lt_s I' (Or.inl z)))) (fun z => ⟨vj, vi, br_c (fun z2 => nm_r (nI_1 j) (next' () (lt_s I' (Or.inr (Or.inl z2))))) (fun z2 => hx_readsFrom R (by omega) (by omega) (hj_br (fun hg => nm_r (nI_1 j) (next' () (lt_s I' (Or.inr (Or.inr hg))))) (fun hn => hj_p0 h (fun w => ?_))))⟩)⟩
      rcases w i hi j hj with w | w | w
      · exact z w
      · exact z2 w
      · exact w hn
end
end
section
section
variable {P K : Nat} {S V It gr vr sw od L pl : Nat → Int32} {q l : Nat → Nat} {m : Nat → Nat} {n : Nat}
theorem hx_lastWriter {post : Int32 → Prop} (R : hj_R P K S V It gr vr sw od L q l) (hn : n ≤ 4) (hv : hj_Val S m n) (hp : hj_PL pl m n) (hm : ∀ a, m a < 4) {x g : Nat} (hx : x < 4) (hg : g ≤ n) (h : post (hj_lw V m x g)) : wpX_lastWriter post (nI P, nI K, S, V, It, L, gr, vr, pl) (nI x) (nI g) := by
  have hP := R.1.2
  refine loop_0 (fun n' j (s : Int32 × Int32) => wX_lastWriter_8 post (nI x) (nI g) (nI P) (nI K) S V It L gr vr pl n' s.1 s.2 (nI j)) (fun j s => hj_LA V m x g j s.1 s.2) P (-1, -1) hj_LA0 ?_ ?_
  · intro n' s I
    have e := hj_LAe I (fun a ha => hj_lo hv hm R.2.2.1 (by omega))
    refine br_t (nI_le (Nat.le_refl _) (by omega)) ?_
    rw [e]
    exact h
  · intro n' j s hj I next
    have cj : (nI j).toNatClampNeg = j := nI_clamp (by omega)
    have vj : vp_in (nI j) 4 := vp_in_nI (by omega) (by omega)
    have hj4 : j < 4 := by omega
    show wX_lastWriter_8 post (nI x) (nI g) (nI P) (nI K) S V It L gr vr pl (n' + 1) s.1 s.2 (nI j)
    rw [wX_lastWriter_8]
    dsimp only
    rw [cj]
    refine br_f (nI_ge hj (by omega)) (hx_wrote hj4 hx (hj_br (fun hw => nm_r (nI_1 j) (next s (hj_LAf hg hn hj4 hv hp hm I (fun w _ _ => hw w)))) (fun hw => ⟨vj, br_c (fun z => nm_r (nI_1 j) (next s (hj_LAf hg hn hj4 hv hp hm I (fun _ w _ => Int32.not_le.mpr w z)))) (fun z => ⟨vj, br_c (fun z2 => nm_r (nI_1 j) (next s (hj_LAf hg hn hj4 hv hp hm I (fun _ _ w => Int32.not_le.mpr w z2)))) (fun z2 => ⟨vj, nm_e (nm_r (nI_1 j) (next (nI j, pl j) (hj_LAt hg hn hj4 hv hp I hw (Int32.not_le.mp z) (Int32.not_le.mp z2))))⟩)⟩)⟩)))
theorem hx_readsFitAt {post : Int32 → Prop} (R : hj_R P K S V It gr vr sw od L q l) (hn : n ≤ 4) (hv : hj_Val S m n) (hp : hj_PL pl m n) (hm : ∀ a, m a < 4) {i g : Nat} (hi : i < 4) (hg : g ≤ n) (h : post (hj_b (hj_RF P K V gr vr m i g))) : wpX_readsFitAt post (nI P, nI K, S, V, It, L, gr, vr, pl) (nI i) (nI g) := by
  have hP := R.1.2
  have hK := R.2.1.2
  refine loop_0 (fun n' x (_ : Unit) => wX_readsFitAt_2 post (nI i) (nI g) (nI P) (nI K) S V It L gr vr pl n' (nI x)) (fun x _ => ∀ y, y < x → hj_RX P gr vr i y (hj_lw V m y g)) K () lt_0 ?_ ?_
  · intro n' _ I
    exact br_t (nI_le (Nat.le_refl _) (by omega)) (hj_p1 h I)
  · intro n' x _ hx I next
    have ec : (nI (i * 4 + x)).toNatClampNeg = i * 4 + x := nI_clamp (by omega)
    have inner : (gr (i * 4 + x) = 0 ∨ hj_lw V m x g = -1) → ∃ n42, wX_readsFitAt_42 post (wX_readsFitAt_2 post (nI i) (nI g) (nI P) (nI K) S V It L gr vr pl n') (nI i) (nI g) (nI x) (hj_lw V m x g) (nI P) (nI K) S V It L gr vr pl n42 0 := by
      intro hgr
      refine loop_0 (fun n2 j (_ : Unit) => wX_readsFitAt_42 post (wX_readsFitAt_2 post (nI i) (nI g) (nI P) (nI K) S V It L gr vr pl n') (nI i) (nI g) (nI x) (hj_lw V m x g) (nI P) (nI K) S V It L gr vr pl n2 (nI j)) (fun j _ => ∀ b, b < j → nI b = hj_lw V m x g ∨ ¬ hj_rk vr i x b) P () lt_0 ?_ ?_
      · intro n2 _ I'
        exact br_t (nI_le (Nat.le_refl _) (by omega)) (nm_r (nI_1 x) (next () (lt_s I ⟨hgr, I'⟩)))
      · intro n2 j _ hj I' next'
        refine br_f (nI_ge hj (by omega)) (br_c (fun z => nm_r (nI_1 j) (next' () (lt_s I' (Or.inl z)))) (fun z => hx_readsKeyFrom hi (by omega) (by omega) (hj_br (fun hr => nm_r (nI_1 j) (next' () (lt_s I' (Or.inr hr)))) (fun hr => hj_p0 h (fun w => ?_)))))
        rcases (w x hx).2 j hj with y | y
        · exact z y
        · exact y hr
    refine br_f (nI_ge hx (by omega)) (hx_lastWriter R hn hv hp hm (by omega) hg ?_)
    unfold wpX_cellOf
    dsimp only
    rw [hj_c4, ec]
    refine ⟨vp_in_nI (by omega) (by omega), br_c (fun z => inner (Or.inl z)) (fun z => br_c (fun z2 => inner (Or.inr z2)) (fun z2 => hj_p0 h (fun w => ?_)))⟩
    rcases (w x hx).1 with y | y
    · exact z y
    · exact z2 y
theorem hx_startsAfterRivals {post : Int32 → Prop} (R : hj_R P K S V It gr vr sw od L q l) {i g : Nat} (hi : i < 4) (h : post (hj_b (hj_SR P K V pl i g))) : wpX_startsAfterRivals post (nI P, nI K, S, V, It, L, gr, vr, pl) (nI i) (nI g) := by
  have hP := R.1.2
  have hK := R.2.1.2
  refine loop_0 (fun n' j (_ : Unit) => wX_startsAfterRivals_2 post (nI i) (nI g) (nI P) (nI K) S V It L gr vr pl n' (nI j)) (fun j _ => ∀ b, b < j → ∀ x, x < K → ¬ (hj_W V i x ∧ hj_W V b x ∧ nI g ≤ pl b ∧ pl b < pl i)) P () lt_0 ?_ ?_
  · intro n' _ I
    exact br_t (nI_le (Nat.le_refl _) (by omega)) (hj_p1 h I)
  · intro n' j _ hj I next
    have ci : (nI i).toNatClampNeg = i := nI_clamp (by omega)
    have cj : (nI j).toNatClampNeg = j := nI_clamp (by omega)
    have vi : vp_in (nI i) 4 := vp_in_nI (by omega) (by omega)
    have vj : vp_in (nI j) 4 := vp_in_nI (by omega) (by omega)
    refine br_f (nI_ge hj (by omega)) ?_
    refine loop_0 (fun n2 x (_ : Unit) => wX_startsAfterRivals_13 post (wX_startsAfterRivals_2 post (nI i) (nI g) (nI P) (nI K) S V It L gr vr pl n') (nI i) (nI g) (nI j) (nI P) (nI K) S V It L gr vr pl n2 (nI x)) (fun x _ => ∀ y, y < x → ¬ (hj_W V i y ∧ hj_W V j y ∧ nI g ≤ pl j ∧ pl j < pl i)) K () lt_0 ?_ ?_
    · intro n2 _ I'
      exact br_t (nI_le (Nat.le_refl _) (by omega)) (nm_r (nI_1 j) (next () (lt_s I I')))
    · intro n2 x _ hx I' next'
      refine br_f (nI_ge hx (by omega)) (hx_wrote hi (by omega) (hj_br (fun hw => br_t rfl (nm_r (nI_1 x) (next' () (lt_s I' (fun w => hw w.1))))) (fun hw => hx_wrote (by omega) (by omega) (hj_br (fun hw2 => br_t rfl (nm_r (nI_1 x) (next' () (lt_s I' (fun w => hw2 w.2.1))))) (fun hw2 => ?_)))))
      unfold wX_startsAfterRivals_47
      rw [ci, cj]
      exact br_f (by decide) ⟨vj, br_c (fun z => nm_r (nI_1 x) (next' () (lt_s I' (fun w => Int32.not_le.mpr z w.2.2.1)))) (fun z => ⟨vj, vi, br_c (fun z2 => nm_r (nI_1 x) (next' () (lt_s I' (fun w => Int32.not_le.mpr w.2.2.2 z2)))) (fun z2 => hj_p0 h (fun w => w j hj x hx ⟨hw, hw2, Int32.not_lt.mp z, Int32.not_le.mp z2⟩))⟩)⟩
def hj_Q (P K : Nat) (V gr vr pl : Nat → Int32) (m : Nat → Nat) (i a : Nat) : Prop := ∃ g, g < a + 1 ∧ (hj_SR P K V pl i g ∧ hj_RF P K V gr vr m i g)
theorem hx_keepsSnapshots {post : Int32 → Prop} (R : hj_R P K S V It gr vr sw od L q l) (hn : n ≤ 4) (hv : hj_Val S m n) (hp : hj_PL pl m n) (hm : ∀ a, m a < 4) (h : post (hj_b (∀ i, i < P → (pl i = -1 ∨ ∃ a, a < n ∧ pl i = nI a ∧ hj_Q P K V gr vr pl m i a)))) : wpX_keepsSnapshots post (nI P, nI K, S, V, It, L, gr, vr, pl) := by
  have hP := R.1.2
  refine loop_0 (fun n' i (_ : Unit) => wX_keepsSnapshots_2 post (nI P) (nI K) S V It L gr vr pl n' (nI i)) (fun i _ => ∀ b, b < i → (pl b = -1 ∨ ∃ a, a < n ∧ pl b = nI a ∧ hj_Q P K V gr vr pl m b a)) P () lt_0 ?_ ?_
  · intro n' _ I
    exact br_t (nI_le (Nat.le_refl _) (by omega)) (hj_p1 h I)
  · intro n' i _ hi I next
    have ci : (nI i).toNatClampNeg = i := nI_clamp (by omega)
    have vi : vp_in (nI i) 4 := vp_in_nI (by omega) (by omega)
    show wX_keepsSnapshots_2 post (nI P) (nI K) S V It L gr vr pl (n' + 1) (nI i)
    rw [wX_keepsSnapshots_2]
    dsimp only
    rw [ci]
    refine br_f (nI_ge hi (by omega)) ⟨vi, ?_⟩
    rcases hp i (by omega) with ⟨a, ha, e, hpa⟩ | ⟨z, _⟩
    · rw [hpa]
      refine nm_e (br_f (hj_nm1 (by omega)) ?_)
      refine loop_0 (fun n2 g (s : Int32) => wX_keepsSnapshots_31 post (wX_keepsSnapshots_2 post (nI P) (nI K) S V It L gr vr pl n') (nI i) (nI a) (nI P) (nI K) S V It L gr vr pl n2 s (nI g)) (fun g s => s = hj_b (∃ y, y < g ∧ (hj_SR P K V pl i y ∧ hj_RF P K V gr vr m i y))) (a + 1) 0 hj_e00 ?_ ?_
      · intro n2 s I'
        subst I'
        refine br_t (nI_lt (by omega) (by omega)) (hj_br (fun hq => hj_p0 h (fun w => ?_)) (fun hq => nm_r (nI_1 i) (next () (lt_s I (Or.inr ⟨a, ha, hpa, hq⟩)))))
        rcases w i hi with y | ⟨a', ha', y, hq'⟩
        · rw [hpa] at y
          exact hj_nm1 (by omega) y
        · rw [hpa, nI_eq (by omega) (by omega)] at y
          rw [← y] at hq'
          exact hq hq'
      · intro n2 g s hg I' next'
        subst I'
        refine br_f (nI_nlt (by omega) (by omega)) (hj_br (fun hq => hx_startsAfterRivals R (by omega) (hj_br (fun h1 => nm_r (nI_1 g) (next' 0 (hj_eF hq (fun w => h1 w.1)))) (fun h1 => hx_readsFitAt R hn hv hp hm (by omega) (by omega) (hj_br (fun h2 => nm_r (nI_1 g) (next' 0 (hj_eF hq (fun w => h2 w.2)))) (fun h2 => nm_r (nI_1 g) (next' 1 (hj_eT ⟨h1, h2⟩))))))) (fun hq => nm_r (nI_1 g) (next' 1 (hj_e1 hq))))
    · rw [z]
      exact nm_e (br_t rfl ⟨1, br_t hj_m1n0 (br_f (by decide) (nm_r (nI_1 i) (next () (lt_s I (Or.inl z)))))⟩)
theorem hx_keepsReads {post : Int32 → Prop} (R : hj_R P K S V It gr vr sw od L q l) (hn : n ≤ 4) (hv : hj_Val S m n) (hp : hj_PL pl m n) (hm : ∀ a, m a < 4) (h : post (hj_b (∀ i, i < P → (pl i = -1 ∨ ∃ a, a < n ∧ pl i = nI a ∧ hj_RF P K V gr vr m i a)))) : wpX_keepsReads post (nI P, nI K, S, V, It, L, gr, vr, pl) := by
  have hP := R.1.2
  refine loop_0 (fun n' i (_ : Unit) => wX_keepsReads_2 post (nI P) (nI K) S V It L gr vr pl n' (nI i)) (fun i _ => ∀ b, b < i → (pl b = -1 ∨ ∃ a, a < n ∧ pl b = nI a ∧ hj_RF P K V gr vr m b a)) P () lt_0 ?_ ?_
  · intro n' _ I
    exact br_t (nI_le (Nat.le_refl _) (by omega)) (hj_p1 h I)
  · intro n' i _ hi I next
    have ci : (nI i).toNatClampNeg = i := nI_clamp (by omega)
    have vi : vp_in (nI i) 4 := vp_in_nI (by omega) (by omega)
    show wX_keepsReads_2 post (nI P) (nI K) S V It L gr vr pl (n' + 1) (nI i)
    rw [wX_keepsReads_2]
    dsimp only
    rw [ci]
    refine br_f (nI_ge hi (by omega)) ⟨vi, br_c (fun z => nm_r (nI_1 i) (next () (lt_s I (Or.inl z)))) (fun z => ⟨vi, ?_⟩)⟩
    rcases hp i (by omega) with ⟨a, ha, e, hpa⟩ | ⟨z', _⟩
    · rw [hpa]
      refine hx_readsFitAt R hn hv hp hm (by omega) (by omega) (hj_br (fun hq => hj_p0 h (fun w => ?_)) (fun hq => nm_r (nI_1 i) (next () (lt_s I (Or.inr ⟨a, ha, hpa, hq⟩)))))
      rcases w i hi with y | ⟨a', ha', y, hq'⟩
      · exact z y
      · rw [hpa, nI_eq (by omega) (by omega)] at y
        rw [← y] at hq'
        exact hq hq'
    · exact absurd z' z
end
end
section
section
variable {P K : Nat} {S V It gr vr sw od L pl : Nat → Int32} {q l : Nat → Nat} {m : Nat → Nat} {n : Nat}
theorem hx_readsCleanly {post : Int32 → Prop} (R : hj_R P K S V It gr vr sw od L q l) {i j : Nat} (hi : i < 4) (hj : j < 4) (h : post (hj_b (∀ x, x < K → ∀ v, v < 2 → vr ((i * 4 + x) * 8 + (2 * j + v)) = 0 ∨ (S j = 1 ∧ V (j * 4 + x) = nI (v + 1))))) : wpX_readsCleanly post (nI P, nI K, S, V, It, L, gr, vr, pl) (nI i) (nI j) := by
  have hK := R.2.1.2
  have cj : (nI j).toNatClampNeg = j := nI_clamp (by omega)
  have vj : vp_in (nI j) 4 := vp_in_nI (by omega) (by omega)
  refine loop_0 (fun n x (_ : Unit) => wX_readsCleanly_2 post (nI i) (nI j) (nI P) (nI K) S V It L gr vr pl n (nI x)) (fun x _ => ∀ y, y < x → ∀ v, v < 2 → vr ((i * 4 + y) * 8 + (2 * j + v)) = 0 ∨ (S j = 1 ∧ V (j * 4 + y) = nI (v + 1))) K () lt_0 ?_ ?_
  · intro n _ I
    exact br_t (nI_le (Nat.le_refl _) (by omega)) (hj_p1 h I)
  · intro n x _ hx I next
    have ec : (nI (j * 4 + x)).toNatClampNeg = j * 4 + x := nI_clamp (by omega)
    refine br_f (nI_ge hx (by omega)) ?_
    unfold wpX_cellOf
    dsimp only
    rw [hj_c4, ec]
    refine ⟨vp_in_nI (by omega) (by omega), nm_e ?_⟩
    refine loop_0 (fun n' v (_ : Unit) => wX_readsCleanly_25 post (wX_readsCleanly_2 post (nI i) (nI j) (nI P) (nI K) S V It L gr vr pl n) (nI i) (nI j) (nI x) (V (j * 4 + x)) (nI P) (nI K) S V It L gr vr pl n' (nI (v + 1))) (fun v _ => ∀ y, y < v → vr ((i * 4 + x) * 8 + (2 * j + y)) = 0 ∨ (S j = 1 ∧ V (j * 4 + x) = nI (y + 1))) 2 () lt_0 ?_ ?_
    · intro n' _ I'
      exact br_t (nI_lt (a := 2) (b := 2 + 1) (by decide) (by decide)) (nm_r (nI_1 x) (next () (lt_s I I')))
    · intro n' v _ hv I' next'
      have cr : (nI ((i * 4 + x) * 8 + (2 * j + v))).toNatClampNeg = (i * 4 + x) * 8 + (2 * j + v) := nI_clamp (by omega)
      have vx : vp_in (nI ((i * 4 + x) * 8 + (2 * j + v))) 128 := vp_in_nI (by omega) (by omega)
      have w1 : (S j = 1 ∧ V (j * 4 + x) = nI (v + 1)) → wX_readsCleanly_53 post (wX_readsCleanly_2 post (nI i) (nI j) (nI P) (nI K) S V It L gr vr pl n) (wX_readsCleanly_25 post (wX_readsCleanly_2 post (nI i) (nI j) (nI P) (nI K) S V It L gr vr pl n) (nI i) (nI j) (nI x) (V (j * 4 + x)) (nI P) (nI K) S V It L gr vr pl n') (nI i) (nI j) (nI x) (V (j * 4 + x)) (nI (v + 1)) 1 (nI P) (nI K) S V It L gr vr pl := by
        intro g
        unfold wX_readsCleanly_53 wpX_readOf
        dsimp only
        rw [hj_ro, cr]
        exact ⟨vx, br_c (fun z => nm_r (nI_1 (v + 1)) (next' () (lt_s I' (Or.inl z)))) (fun z => br_f (by decide) (nm_r (nI_1 (v + 1)) (next' () (lt_s I' (Or.inr g)))))⟩
      have w0 : ¬ (S j = 1 ∧ V (j * 4 + x) = nI (v + 1)) → wX_readsCleanly_53 post (wX_readsCleanly_2 post (nI i) (nI j) (nI P) (nI K) S V It L gr vr pl n) (wX_readsCleanly_25 post (wX_readsCleanly_2 post (nI i) (nI j) (nI P) (nI K) S V It L gr vr pl n) (nI i) (nI j) (nI x) (V (j * 4 + x)) (nI P) (nI K) S V It L gr vr pl n') (nI i) (nI j) (nI x) (V (j * 4 + x)) (nI (v + 1)) 0 (nI P) (nI K) S V It L gr vr pl := by
        intro g
        unfold wX_readsCleanly_53 wpX_readOf
        dsimp only
        rw [hj_ro, cr]
        refine ⟨vx, br_c (fun z => nm_r (nI_1 (v + 1)) (next' () (lt_s I' (Or.inl z)))) (fun z => br_t rfl (hj_p0 h (fun w => ?_)))⟩
        rcases w x hx v hv with w | w
        · exact z w
        · exact g w
      show wX_readsCleanly_25 post _ (nI i) (nI j) (nI x) (V (j * 4 + x)) (nI P) (nI K) S V It L gr vr pl (n' + 1) (nI (v + 1))
      rw [wX_readsCleanly_25]
      dsimp only
      rw [cj]
      exact br_f (nI_nlt (a := 2) (by omega) (by decide)) ⟨vj, br_c (fun z => br_c (fun z2 => w1 ⟨z, z2.symm⟩) (fun z2 => w0 (fun w => z2 w.2.symm))) (fun z => w0 (fun w => z w.1))⟩
theorem hx_isClean {post : Int32 → Prop} (R : hj_R P K S V It gr vr sw od L q l) (h : post (hj_b (hj_CX P K S V vr))) : wpX_isClean post (nI P, nI K, S, V, It, L, gr, vr, pl) := by
  have hP := R.1.2
  refine loop_0 (fun n i (_ : Unit) => wX_isClean_2 post (nI P) (nI K) S V It L gr vr pl n (nI i)) (fun i _ => ∀ a, a < i → ∀ j, j < P → S a = 1 → ∀ x, x < K → ∀ v, v < 2 → vr ((a * 4 + x) * 8 + (2 * j + v)) = 0 ∨ (S j = 1 ∧ V (j * 4 + x) = nI (v + 1))) P () lt_0 ?_ ?_
  · intro n _ I
    exact br_t (nI_le (Nat.le_refl _) (by omega)) (hj_p1 h I)
  · intro n i _ hi I next
    refine br_f (nI_ge hi (by omega)) ?_
    refine loop_0 (fun n' j (_ : Unit) => wX_isClean_12 post (wX_isClean_2 post (nI P) (nI K) S V It L gr vr pl n) (nI i) (nI P) (nI K) S V It L gr vr pl n' (nI j)) (fun j _ => ∀ b, b < j → S i = 1 → ∀ x, x < K → ∀ v, v < 2 → vr ((i * 4 + x) * 8 + (2 * b + v)) = 0 ∨ (S b = 1 ∧ V (b * 4 + x) = nI (v + 1))) P () lt_0 ?_ ?_
    · intro n' _ I'
      exact br_t (nI_le (Nat.le_refl _) (by omega)) (nm_r (nI_1 i) (next () (lt_s I I')))
    · intro n' j _ hj I' next'
      have ci : (nI i).toNatClampNeg = i := nI_clamp (by omega)
      have vi : vp_in (nI i) 4 := vp_in_nI (by omega) (by omega)
      show wX_isClean_12 post _ (nI i) (nI P) (nI K) S V It L gr vr pl (n' + 1) (nI j)
      rw [wX_isClean_12]
      dsimp only
      rw [ci]
      exact br_f (nI_ge hj (by omega)) ⟨vi, br_c (fun z => hx_readsCleanly R (by omega) (by omega) (hj_br (fun hq => hj_p0 h (fun w => hq (w i hi j hj z))) (fun hq => nm_r (nI_1 j) (next' () (lt_s I' (fun _ => hq)))))) (fun z => nm_r (nI_1 j) (next' () (lt_s I' (fun w => absurd w z))))⟩
theorem hx_committedCount {post : Int32 → Prop} (R : hj_R P K S V It gr vr sw od L q l) (h : post (nI (hj_cn S P))) : wpX_committedCount post (nI P, nI K, S, V, It, L, gr, vr, pl) := by
  have hP := R.1.2
  refine loop_0 (fun n i (s : Int32) => wX_committedCount_4 post (nI P) (nI K) S V It L gr vr pl n s (nI i)) (fun i s => s = nI (hj_cn S i)) P 0 rfl ?_ ?_
  · intro n s I
    subst I
    exact br_t (nI_le (Nat.le_refl _) (by omega)) h
  · intro n i s hi I next
    subst I
    have ci : (nI i).toNatClampNeg = i := nI_clamp (by omega)
    have vi : vp_in (nI i) 4 := vp_in_nI (by omega) (by omega)
    show wX_committedCount_4 post (nI P) (nI K) S V It L gr vr pl (n + 1) (nI (hj_cn S i)) (nI i)
    rw [wX_committedCount_4]
    dsimp only
    rw [ci]
    refine br_f (nI_ge hi (by omega)) ⟨vi, br_c (fun z => nm_r (nI_1 _) (nm_r (nI_1 i) (next _ ?_))) (fun z => nm_r (nI_1 i) (next _ ?_))⟩
    · show nI (hj_cn S i + 1) = nI (hj_cn S i + (if S i = 1 then 1 else 0))
      rw [if_pos z]
    · show nI (hj_cn S i) = nI (hj_cn S i + (if S i = 1 then 1 else 0))
      rw [if_neg z]
      rfl
theorem hx_takesPlaces {post : Int32 → SX → Prop} {c : Nat} (hc : c < 256) (hn : n ≤ 4) (h0 : ∀ pl', ¬ hj_Val S (hj_m c n) n → post 0 (nI P, nI K, S, V, It, L, gr, vr, pl')) (h1 : ∀ pl', hj_Val S (hj_m c n) n → hj_PL pl' (hj_m c n) n → post 1 (nI P, nI K, S, V, It, L, gr, vr, pl')) : wpX_takesPlaces post (nI P, nI K, S, V, It, L, gr, vr, pl) (nI c) (nI n) := by
  refine loop_0 (fun n' i (s : Nat → Int32) => wX_takesPlaces_2 post (nI c) (nI n) (nI P) (nI K) n' (nI i) S V It L gr vr s) (fun i s => ∀ j, j < i → s j = -1) 4 pl lt_0 ?_ ?_
  · intro n' s I
    refine br_t (nI_le (a := 4) (b := 4) (Nat.le_refl 4) (by decide)) ?_
    refine loop_0 (fun n2 a (s : Nat → Int32) => wX_takesPlaces_22 post (nI c) (nI n) (nI P) (nI K) n2 (nI a) S V It L gr vr s) (fun a s => hj_PL s (hj_m c n) a ∧ hj_Val S (hj_m c n) a) n s ⟨fun i hi => Or.inr ⟨I i hi, fun a ha => absurd ha (Nat.not_lt_zero a)⟩, fun a ha => absurd ha (Nat.not_lt_zero a)⟩ ?_ ?_
    · intro n2 s2 I2
      exact br_t (nI_le (Nat.le_refl _) (by omega)) (h1 s2 I2.2 I2.1)
    · intro n2 a s2 ha I2 next
      have hm4 := hj_m4 c n a
      have ca : (nI (hj_m c n a)).toNatClampNeg = hj_m c n a := nI_clamp (by omega)
      have va : vp_in (nI (hj_m c n a)) 4 := vp_in_nI (by omega) (by omega)
      show wX_takesPlaces_22 post (nI c) (nI n) (nI P) (nI K) (n2 + 1) (nI a) S V It L gr vr s2
      rw [wX_takesPlaces_22]
      unfold wpX_memberAt
      dsimp only
      rw [hj_mem hc hn ha, ca]
      refine br_f (nI_ge ha (by omega)) ⟨va, br_c (fun z => ⟨va, br_c (fun z2 => ⟨va, nm_e (nm_r (nI_1 a) (next _ ⟨hj_plS I2.1, hj_valS I2.2 z (fun b hb e => ?_)⟩))⟩) (fun z2 => h0 s2 (hj_valN I2.1 (hj_m4 c n) ha (fun _ w => z2 w)))⟩) (fun z => h0 s2 (hj_valN I2.1 (hj_m4 c n) ha (fun w _ => z w)))⟩
      rcases I2.1 (hj_m c n a) hm4 with ⟨b', hb', e', h'⟩ | ⟨_, h'⟩
      · rw [z2] at h'
        exact hj_nm1 (by omega) h'.symm
      · exact h' b hb e
  · intro n' i s hi I next
    have ci : (nI i).toNatClampNeg = i := nI_clamp (by omega)
    have vi : vp_in (nI i) 4 := vp_in_nI (by omega) (by omega)
    show wX_takesPlaces_2 post (nI c) (nI n) (nI P) (nI K) (n' + 1) (nI i) S V It L gr vr s
    rw [wX_takesPlaces_2]
    dsimp only
    rw [ci]
    refine br_f (nI_ge (b := 4) hi (by decide)) ⟨vi, nm_e (nm_r (nI_1 i) (next _ (fun j hj => ?_)))⟩
    by_cases e : j = i
    · rw [e]
      exact pk_us
    · rw [pk_un e]
      exact I j (by omega)
end
end
section
section
variable {P K : Nat} {S V It gr vr sw od L pl : Nat → Int32} {q l : Nat → Nat} {m : Nat → Nat} {n : Nat}
theorem hj_SnQ {P K : Nat} {S V gr vr pl : Nat → Int32} {m : Nat → Nat} {n : Nat} (hn : n ≤ 4) (hP : P ≤ 4) (hv : hj_Val S m n) (hp : hj_PL pl m n) (hm : ∀ a, m a < 4) (hS : ∀ i, i < 4 → P ≤ i → S i = 0) : (∀ b, b < n → hj_Q P K V gr vr pl m (m b) b) ↔ hj_Sn P K V gr vr m n := by
  constructor
  · intro h b hb
    obtain ⟨g, hg, h1, h2⟩ := h b hb
    exact ⟨g, by omega, h2, (hj_SRY hn hP hv hp hm hS hb (by omega)).mp h1⟩
  · intro h b hb
    obtain ⟨g, hg, h2, h1⟩ := h b hb
    exact ⟨g, by omega, (hj_SRY hn hP hv hp hm hS hb (by omega)).mpr h1, h2⟩
theorem hx_112 {post : Int32 → SX → Prop} {J : Int32 → Int32 → Int32 → (Nat → Int32) → (Nat → Int32) → (Nat → Int32) → (Nat → Int32) → (Nat → Int32) → (Nat → Int32) → (Nat → Int32) → Prop} (R : hj_R P K S V It gr vr sw od L q l) (hn : n ≤ 4) (hv : hj_Val S m n) (hp : hj_PL pl m n) (hm : ∀ a, m a < 4) {kind c : Nat} {x2 x3 : Int32} (hk : kind ≤ 4) (h0 : ¬ (kind ≠ 4 ∨ hj_Rd P K V gr vr m n) → J (nI (c + 1)) (nI P) (nI K) S V It L gr vr pl) (h1 : (kind ≠ 4 ∨ hj_Rd P K V gr vr m n) → post (nI c) (nI P, nI K, S, V, It, L, gr, vr, pl)) : wX_firstList_112 post J (nI kind) x2 x3 (nI c) 1 (nI P) (nI K) S V It L gr vr pl := by
  have hE := hj_each (hj_RF P K V gr vr m) hn R.1.2 hv hp hm R.2.2.1
  refine br_f (by decide) (pk_eq kind 4 (fun e => hx_keepsReads R hn hv hp hm (hj_br (fun hq => br_t rfl (nm_r (nI_1 c) (h0 (fun w => ?_)))) (fun hq => br_f (by decide) (h1 (Or.inr (hE.mp hq)))))) (fun e => br_f (by decide) (h1 (Or.inl e))))
  rcases w with w | w
  · exact w e
  · exact hq (hE.mpr w)
theorem hx_88 {post : Int32 → SX → Prop} {J : Int32 → Int32 → Int32 → (Nat → Int32) → (Nat → Int32) → (Nat → Int32) → (Nat → Int32) → (Nat → Int32) → (Nat → Int32) → (Nat → Int32) → Prop} (R : hj_R P K S V It gr vr sw od L q l) (hn : n ≤ 4) (hv : hj_Val S m n) (hp : hj_PL pl m n) (hm : ∀ a, m a < 4) {kind c : Nat} {x2 x3 : Int32} (hk : kind ≤ 4) (h0 : ¬ ((kind ≠ 3 ∨ hj_Sn P K V gr vr m n) ∧ (kind ≠ 4 ∨ hj_Rd P K V gr vr m n)) → J (nI (c + 1)) (nI P) (nI K) S V It L gr vr pl) (h1 : (kind ≠ 3 ∨ hj_Sn P K V gr vr m n) → (kind ≠ 4 ∨ hj_Rd P K V gr vr m n) → post (nI c) (nI P, nI K, S, V, It, L, gr, vr, pl)) : wX_firstList_88 post J (nI kind) x2 x3 (nI c) 1 (nI P) (nI K) S V It L gr vr pl := by
  have hE := (hj_each (hj_Q P K V gr vr pl m) hn R.1.2 hv hp hm R.2.2.1).trans (hj_SnQ hn R.1.2 hv hp hm R.2.2.1)
  have go : (kind ≠ 3 ∨ hj_Sn P K V gr vr m n) → wX_firstList_112 post J (nI kind) x2 x3 (nI c) 1 (nI P) (nI K) S V It L gr vr pl := fun g => hx_112 R hn hv hp hm hk (fun w => h0 (fun y => w y.2)) (h1 g)
  refine br_f (by decide) (pk_eq kind 3 (fun e => hx_keepsSnapshots R hn hv hp hm (hj_br (fun hq => br_t rfl (br_t rfl (nm_r (nI_1 c) (h0 (fun w => ?_))))) (fun hq => go (Or.inr (hE.mp hq))))) (fun e => go (Or.inl e)))
  rcases w.1 with w | w
  · exact w e
  · exact hq (hE.mpr w)
theorem hx_64 {post : Int32 → SX → Prop} {J : Int32 → Int32 → Int32 → (Nat → Int32) → (Nat → Int32) → (Nat → Int32) → (Nat → Int32) → (Nat → Int32) → (Nat → Int32) → (Nat → Int32) → Prop} (R : hj_R P K S V It gr vr sw od L q l) (hn : n ≤ 4) (hv : hj_Val S m n) (hp : hj_PL pl m n) (hm : ∀ a, m a < 4) {kind c : Nat} {x2 x3 : Int32} (hk : kind ≤ 4) (h0 : ¬ ((kind ≠ 2 ∨ hj_Src K vr m n) ∧ (kind ≠ 3 ∨ hj_Sn P K V gr vr m n) ∧ (kind ≠ 4 ∨ hj_Rd P K V gr vr m n)) → J (nI (c + 1)) (nI P) (nI K) S V It L gr vr pl) (h1 : (kind ≠ 2 ∨ hj_Src K vr m n) ∧ (kind ≠ 3 ∨ hj_Sn P K V gr vr m n) ∧ (kind ≠ 4 ∨ hj_Rd P K V gr vr m n) → post (nI c) (nI P, nI K, S, V, It, L, gr, vr, pl)) : wX_firstList_64 post J (nI kind) x2 x3 (nI c) 1 (nI P) (nI K) S V It L gr vr pl := by
  have hE := hj_pairs (fun i j => ¬ ∃ x, x < K ∧ hj_rk vr i x j) hn R.1.2 hv hp hm R.2.2.1
  have go : (kind ≠ 2 ∨ hj_Src K vr m n) → wX_firstList_88 post J (nI kind) x2 x3 (nI c) 1 (nI P) (nI K) S V It L gr vr pl := fun g => hx_88 R hn hv hp hm hk (fun w => h0 (fun y => w y.2)) (fun a b => h1 ⟨g, a, b⟩)
  refine br_f (by decide) (pk_eq kind 2 (fun e => hx_keepsSources R (hj_br (fun hq => br_t rfl (br_t rfl (br_t rfl (nm_r (nI_1 c) (h0 (fun w => ?_)))))) (fun hq => go (Or.inr (hE.mp hq))))) (fun e => go (Or.inl e)))
  rcases w.1 with w | w
  · exact w e
  · exact hq (hE.mpr w)
theorem hx_fl28 {post : Int32 → SX → Prop} (R : hj_R P K S V It gr vr sw od L q l) (hn : n ≤ 4) {kind : Nat} (hk : kind ≤ 4) (h0 : ∀ pl', (∀ c, c < 2 ^ (2 * n) → ¬ hj_Kp P K S V gr vr q n kind (hj_m c n)) → post (-1) (nI P, nI K, S, V, It, L, gr, vr, pl')) (h1 : ∀ pl' c, c < 2 ^ (2 * n) → hj_Kp P K S V gr vr q n kind (hj_m c n) → (∀ c', c' < c → ¬ hj_Kp P K S V gr vr q n kind (hj_m c' n)) → post (nI c) (nI P, nI K, S, V, It, L, gr, vr, pl')) : ∃ n28, wX_firstList_28 post (nI kind) (nI n) (nI (2 ^ (2 * n))) n28 0 (nI P) (nI K) S V It L gr vr pl := by
  have h8 := hj_p8 hn
  refine loop_0 (fun n' c (s : Nat → Int32) => wX_firstList_28 post (nI kind) (nI n) (nI (2 ^ (2 * n))) n' (nI c) (nI P) (nI K) S V It L gr vr s) (fun c _ => ∀ c', c' < c → ¬ hj_Kp P K S V gr vr q n kind (hj_m c' n)) (2 ^ (2 * n)) pl lt_0 ?_ ?_
  · intro n' s I
    exact br_t (nI_le (Nat.le_refl _) (by omega)) (h0 s I)
  · intro n' c s hc I next
    refine br_f (nI_ge hc (by omega)) (hx_takesPlaces (by omega) hn (fun pl' hv => ?_) (fun pl' hv hp => ?_))
    · exact br_t rfl (br_t rfl (br_t rfl (br_t rfl (br_t rfl (nm_r (nI_1 c) (next pl' (lt_s I (fun w => hv w.1))))))))
    · have hE := (hj_pairs (hj_RkX K V q) hn R.1.2 hv hp (hj_m4 c n) R.2.2.1).trans (hj_RkXY R hv (hj_m4 c n))
      have go : (kind = 0 ∨ hj_Rk K V q (hj_m c n) n) → wX_firstList_64 post (wX_firstList_28 post (nI kind) (nI n) (nI (2 ^ (2 * n))) n') (nI kind) (nI n) (nI (2 ^ (2 * n))) (nI c) 1 (nI P) (nI K) S V It L gr vr pl' := fun g => hx_64 R hn hv hp (hj_m4 c n) hk (fun w => next pl' (lt_s I (fun y => w y.2.2))) (fun w => h1 pl' c hc ⟨hv, g, w⟩ I)
      refine br_f (by decide) (pk_eq kind 0 (fun e => go (Or.inl e)) (fun e => hx_keepsRankings R (hj_br (fun hq => br_t rfl (br_t rfl (br_t rfl (br_t rfl (nm_r (nI_1 c) (next pl' (lt_s I (fun w => ?_)))))))) (fun hq => go (Or.inr (hE.mp hq))))))
      rcases w.2.1 with w | w
      · exact e w
      · exact hq (hE.mpr w)
theorem hx_firstList {post : Int32 → SX → Prop} (R : hj_R P K S V It gr vr sw od L q l) (hnS : n = hj_cn S P) {kind : Nat} (hk : kind ≤ 4) (h0 : ∀ pl', ((kind ≠ 1 ∧ ¬ hj_CX P K S V vr) ∨ ∀ c, c < 2 ^ (2 * n) → ¬ hj_Kp P K S V gr vr q n kind (hj_m c n)) → post (-1) (nI P, nI K, S, V, It, L, gr, vr, pl')) (h1 : ∀ pl' c, c < 2 ^ (2 * n) → (kind = 1 ∨ hj_CX P K S V vr) → hj_Kp P K S V gr vr q n kind (hj_m c n) → (∀ c', c' < c → ¬ hj_Kp P K S V gr vr q n kind (hj_m c' n)) → post (nI c) (nI P, nI K, S, V, It, L, gr, vr, pl')) : wpX_firstList post (nI P, nI K, S, V, It, L, gr, vr, pl) (nI kind) := by
  have hn : n ≤ 4 := by
    have := hj_cn_le S P
    have := R.1.2
    omega
  have go : (kind = 1 ∨ hj_CX P K S V vr) → wX_firstList_14 post (nI kind) (nI P) (nI K) S V It L gr vr pl := by
    intro g
    refine hx_committedCount R ?_
    rw [← hnS]
    exact nm_r (hj_shc hn) (hx_fl28 R hn hk (fun pl' w => h0 pl' (Or.inr w)) (fun pl' c hc w1 w2 => h1 pl' c hc g w1 w2))
  exact pk_eq kind 1 (fun e => go (Or.inl e)) (fun e => hx_isClean R (hj_br (fun hq => h0 pl (Or.inl ⟨e, hq⟩)) (fun hq => go (Or.inr hq))))
end
end
section
section
variable {P K : Nat} {S V It gr vr sw od L ls : Nat → Int32} {q l : Nat → Nat} {m : Nat → Nat} {n : Nat}
theorem hj_c0 {A : Prop} {i : Nat} {g : Nat → Prop} (h : ¬ (A ∧ ∀ a, a < i → g a)) : (0 : Int32) = hj_b (A ∧ ∀ a, a < i + 1 → g a) := (hj_b0 (fun z => h ⟨z.1, fun a ha => z.2 a (by omega)⟩)).symm
theorem hj_cF {A : Prop} {i : Nat} {g : Nat → Prop} (h : ¬ g i) : (0 : Int32) = hj_b (A ∧ ∀ a, a < i + 1 → g a) := (hj_b0 (fun z => h (z.2 i (by omega)))).symm
theorem hj_cT {A : Prop} {i : Nat} {g : Nat → Prop} (h : A ∧ ∀ a, a < i → g a) (hi : g i) : (1 : Int32) = hj_b (A ∧ ∀ a, a < i + 1 → g a) := (hj_b1 ⟨h.1, lt_s h.2 hi⟩).symm
theorem hj_cz {A : Prop} {g : Nat → Prop} : hj_b A = hj_b (A ∧ ∀ a, a < 0 → g a) := hj_bi ⟨fun h => ⟨h, lt_0⟩, fun h => h.1⟩
theorem hj_ce {i : Nat} {f : Nat → Prop} : hj_b ((∀ a, a < i → f a) ∧ f i) = hj_b (∀ a, a < i + 1 → f a) := hj_bi ⟨fun h => lt_s h.1 h.2, fun h => ⟨fun a ha => h a (by omega), h i (by omega)⟩⟩
theorem hy_who {post : Int32 → Prop} (R : hj_R P K S V It gr vr sw od L q l) (i : Int32) (h : post (hj_b (∃ j, j < P ∧ i = nI j))) : wpY_who post (nI P, nI K, S, V, sw, od, L, ls) i := by
  have hP := R.1.2
  refine br_c (fun z => hj_p0 h ?_) (fun z => br_c (fun z2 => hj_p0 h ?_) (fun z2 => hj_p1 h (hj_isN hP z z2)))
  · intro ⟨j, hj, e⟩
    exact hj_nf hP (Or.inl z) e hj
  · intro ⟨j, hj, e⟩
    exact hj_nf hP (Or.inr z2) e hj
theorem hy_what {post : Int32 → Prop} (R : hj_R P K S V It gr vr sw od L q l) (i : Int32) (h : post (hj_b (∃ j, j < K ∧ i = nI j))) : wpY_what post (nI P, nI K, S, V, sw, od, L, ls) i := by
  have hP := R.2.1.2
  refine br_c (fun z => hj_p0 h ?_) (fun z => br_c (fun z2 => hj_p0 h ?_) (fun z2 => hj_p1 h (hj_isN hP z z2)))
  · intro ⟨j, hj, e⟩
    exact hj_nf hP (Or.inl z) e hj
  · intro ⟨j, hj, e⟩
    exact hj_nf hP (Or.inr z2) e hj
theorem hy_in {post : Int32 → Prop} {i : Nat} (hi : i < 4) (h : post (hj_b (S i = 1))) : wpY_in post (nI P, nI K, S, V, sw, od, L, ls) (nI i) := by
  have ci : (nI i).toNatClampNeg = i := nI_clamp (by omega)
  unfold wpY_in
  dsimp only
  rw [ci]
  exact ⟨vp_in_nI (by omega) (by omega), br_c (fun z => hj_p1 h z) (fun z => hj_p0 h z)⟩
theorem hy_rank {post : Int32 → Prop} (R : hj_R P K S V It gr vr sw od L q l) {x i : Nat} (hx : x < 4) (hi : i < 4) (h : post (nI (hj_rn q x i))) : wpY_rank post (nI P, nI K, S, V, sw, od, L, ls) (nI x) (nI i) := by
  have h4 := hj_l4 R hx
  have hL := R.2.2.2.2.2.1 x hx
  have hq := R.2.2.2.2.2.2.2.1 x hx i hi
  have ho := R.2.2.2.2.2.2.2.2.1 x hx
  have cx : (nI x).toNatClampNeg = x := nI_clamp (by omega)
  have vx : vp_in (nI x) 4 := vp_in_nI (by omega) (by omega)
  unfold hj_rn at h
  refine loop_0 (fun n k (_ : Unit) => wY_rank_2 post (nI x) (nI i) (nI P) (nI K) S V sw od L ls n (nI k)) (fun k _ => ∀ y, y < k → q (i * 4 + x) ≠ y + 1) (l x) () lt_0 ?_ ?_
  · intro n _ I
    have z : q (i * 4 + x) = 0 := by
      rcases Nat.eq_zero_or_pos (q (i * 4 + x)) with y | y
      · exact y
      · exact absurd (by omega) (I (q (i * 4 + x) - 1) (by omega))
    rw [if_pos z] at h
    show wY_rank_2 post (nI x) (nI i) (nI P) (nI K) S V sw od L ls (n + 1) (nI (l x))
    rw [wY_rank_2]
    dsimp only
    rw [cx, hL]
    refine ⟨vx, br_t (nI_le (Nat.le_refl _) (by omega)) ?_⟩
    rw [show (4 : Int32) = nI 4 from rfl, nI_add]
    exact h
  · intro n k _ hk I next
    have ck : (nI (x * 4 + k)).toNatClampNeg = x * 4 + k := nI_clamp (by omega)
    have hok := ho k hk i hi
    show wY_rank_2 post (nI x) (nI i) (nI P) (nI K) S V sw od L ls (n + 1) (nI k)
    rw [wY_rank_2]
    dsimp only
    rw [hj_c4, cx, hL, ck]
    refine ⟨vx, br_f (nI_ge hk (by omega)) (br_f (nI_ge (b := 4) (by omega) (by decide)) ⟨vp_in_nI (by omega) (by omega), hj_if hok (fun z => ?_) (fun z => nm_r (nI_1 k) (next () (lt_s I z)))⟩)⟩
    rw [if_neg (by omega), z] at h
    exact h
theorem hj_s1 (i x j : Nat) : (nI i * 4 + nI x) * 9 + 2 * nI j + 1 = nI ((i * 4 + x) * 9 + 2 * j + 1) := by
  rw [hj_c9, show (2 : Int32) = nI 2 from rfl, pk_mul, nI_add, nI_1]
theorem hj_s2 (i x j : Nat) : (nI i * 4 + nI x) * 9 + 2 * nI j + 2 = nI ((i * 4 + x) * 9 + 2 * j + 2) := by
  rw [hj_c9, show (2 : Int32) = nI 2 from rfl, pk_mul, nI_add, nI_add]
theorem hy_sawAny {post : Int32 → Prop} {i j : Nat} (hi : i < 4) (hj : j < 4) (h : post (hj_b (hj_sawA sw i j))) : wpY_sawAny post (nI P, nI K, S, V, sw, od, L, ls) (nI i) (nI j) := by
  refine loop_0 (fun n x (s : Int32) => wY_sawAny_5 post (nI i) (nI j) (nI P) (nI K) S V sw od L ls n s (nI x)) (fun x s => s = hj_b (∃ y, y < x ∧ (¬ sw ((i * 4 + y) * 9 + 2 * j + 1) = 0 ∨ ¬ sw ((i * 4 + y) * 9 + 2 * j + 2) = 0))) 4 0 hj_e00 ?_ ?_
  · intro n s I
    subst I
    exact br_t (nI_le (a := 4) (b := 4) (Nat.le_refl 4) (by decide)) ⟨hj_nb _, h⟩
  · intro n x s hx I next
    subst I
    have c1 : (nI ((i * 4 + x) * 9 + 2 * j + 1)).toNatClampNeg = (i * 4 + x) * 9 + 2 * j + 1 := nI_clamp (by omega)
    have c2 : (nI ((i * 4 + x) * 9 + 2 * j + 2)).toNatClampNeg = (i * 4 + x) * 9 + 2 * j + 2 := nI_clamp (by omega)
    have v1 : vp_in (nI ((i * 4 + x) * 9 + 2 * j + 1)) 144 := vp_in_nI (by omega) (by omega)
    have v2 : vp_in (nI ((i * 4 + x) * 9 + 2 * j + 2)) 144 := vp_in_nI (by omega) (by omega)
    show wY_sawAny_5 post (nI i) (nI j) (nI P) (nI K) S V sw od L ls (n + 1) _ (nI x)
    rw [wY_sawAny_5]
    dsimp only
    rw [hj_s1, hj_s2, c1, c2]
    refine br_f (nI_ge (b := 4) hx (by decide)) (hj_br (fun hn => ⟨v1, br_c (fun z => ⟨v2, br_c (fun z2 => nm_r (nI_1 x) (next 0 (hj_eF hn (fun w => ?_)))) (fun z2 => nm_r (nI_1 x) (next 1 (hj_eT (Or.inr z2))))⟩) (fun z => nm_r (nI_1 x) (next 1 (hj_eT (Or.inl z))))⟩) (fun hn => nm_r (nI_1 x) (next 1 (hj_e1 hn))))
    rcases w with w | w
    · exact w z
    · exact w z2
theorem hy_share {post : Int32 → Prop} (R : hj_R P K S V It gr vr sw od L q l) {i j : Nat} (hi : i < 4) (hj : j < 4) (h : post (hj_b (hj_sh K V i j))) : wpY_share post (nI P, nI K, S, V, sw, od, L, ls) (nI i) (nI j) := by
  have hK := R.2.1.2
  refine loop_0 (fun n x (s : Int32) => wY_share_5 post (nI i) (nI j) (nI P) (nI K) S V sw od L ls n s (nI x)) (fun x s => s = hj_b (∃ y, y < x ∧ (hj_W V i y ∧ hj_W V j y))) K 0 hj_e00 ?_ ?_
  · intro n s I
    subst I
    exact br_t (nI_le (Nat.le_refl _) (by omega)) ⟨hj_nb _, h⟩
  · intro n x s hx I next
    subst I
    have c1 : (nI (i * 4 + x)).toNatClampNeg = i * 4 + x := nI_clamp (by omega)
    have c2 : (nI (j * 4 + x)).toNatClampNeg = j * 4 + x := nI_clamp (by omega)
    have v1 : vp_in (nI (i * 4 + x)) 16 := vp_in_nI (by omega) (by omega)
    have v2 : vp_in (nI (j * 4 + x)) 16 := vp_in_nI (by omega) (by omega)
    show wY_share_5 post (nI i) (nI j) (nI P) (nI K) S V sw od L ls (n + 1) _ (nI x)
    rw [wY_share_5]
    dsimp only
    rw [hj_c4 i x, hj_c4 j x, c1, c2]
    exact br_f (nI_ge hx (by omega)) (hj_br (fun hn => ⟨v1, br_c (fun z => nm_r (nI_1 x) (next 0 (hj_eF hn (fun w => w.1 z)))) (fun z => ⟨v2, br_c (fun z2 => nm_r (nI_1 x) (next 0 (hj_eF hn (fun w => w.2 z2)))) (fun z2 => nm_r (nI_1 x) (next 1 (hj_eT ⟨z, z2⟩)))⟩)⟩) (fun hn => nm_r (nI_1 x) (next 1 (hj_e1 hn))))
theorem hy_readsOnly {post : Int32 → Prop} {i x : Nat} {w : Int32} (hi : i < 4) (hx : x < 4) (h : post (hj_b (hj_RY sw i x w))) : wpY_readsOnly post (nI P, nI K, S, V, sw, od, L, ls) (nI i) (nI x) w := by
  refine nm_r (hj_c9 i x) ?_
  refine loop_0 (fun n k (s : Int32) => wY_readsOnly_16 post w (nI ((i * 4 + x) * 9)) (nI P) (nI K) S V sw od L ls n s (nI k)) (fun k s => s = hj_b (∀ y, y < k → sw ((i * 4 + x) * 9 + y) = 0 ∨ (w < 0 ∧ y = 0) ∨ (¬ w < 0 ∧ (nI y = 2 * w + 1 ∨ nI y = 2 * w + 2)))) 9 1 hj_a00 ?_ ?_
  · intro n s I
    subst I
    exact br_t (nI_le (a := 9) (b := 9) (Nat.le_refl 9) (by decide)) ⟨hj_nb _, h⟩
  · intro n k s hk I next
    have ck : (nI ((i * 4 + x) * 9 + k)).toNatClampNeg = (i * 4 + x) * 9 + k := nI_clamp (by omega)
    have vk : vp_in (nI ((i * 4 + x) * 9 + k)) 144 := vp_in_nI (by omega) (by omega)
    have w1 : ((w < 0 ∧ k = 0) ∨ (¬ w < 0 ∧ (nI k = 2 * w + 1 ∨ nI k = 2 * w + 2))) → wY_readsOnly_65 post (wY_readsOnly_16 post w (nI ((i * 4 + x) * 9)) (nI P) (nI K) S V sw od L ls n) w s (nI ((i * 4 + x) * 9)) (nI k) 1 (nI P) (nI K) S V sw od L ls := by
      intro g
      subst I
      unfold wY_readsOnly_65
      rw [nI_add, ck]
      exact hj_br (fun hn => nm_r (nI_1 k) (next 0 (hj_a0 hn))) (fun hn => ⟨vk, br_c (fun z => nm_r (nI_1 k) (next 1 (hj_aT hn (Or.inl z)))) (fun z => br_f (by decide) (nm_r (nI_1 k) (next 1 (hj_aT hn (Or.inr g)))))⟩)
    have w0 : ¬ ((w < 0 ∧ k = 0) ∨ (¬ w < 0 ∧ (nI k = 2 * w + 1 ∨ nI k = 2 * w + 2))) → wY_readsOnly_65 post (wY_readsOnly_16 post w (nI ((i * 4 + x) * 9)) (nI P) (nI K) S V sw od L ls n) w s (nI ((i * 4 + x) * 9)) (nI k) 0 (nI P) (nI K) S V sw od L ls := by
      intro g
      subst I
      unfold wY_readsOnly_65
      rw [nI_add, ck]
      refine hj_br (fun hn => nm_r (nI_1 k) (next 0 (hj_a0 hn))) (fun hn => ⟨vk, br_c (fun z => nm_r (nI_1 k) (next 1 (hj_aT hn (Or.inl z)))) (fun z => br_t rfl (nm_r (nI_1 k) (next 0 (hj_aF (fun y => ?_)))))⟩)
      rcases y with y | y
      · exact z y
      · exact g y
    refine br_f (nI_ge (b := 9) hk (by decide)) (br_c (fun z => br_c (fun z2 => w1 (Or.inr ⟨Int32.not_lt.mpr z, Or.inl z2⟩)) (fun z2 => br_c (fun z3 => w1 (Or.inr ⟨Int32.not_lt.mpr z, Or.inr z3⟩)) (fun z3 => w0 (fun y => ?_)))) (fun z => pk_eq k 0 (fun z2 => w1 (Or.inl ⟨Int32.not_le.mp z, z2⟩)) (fun z2 => w0 (fun y => ?_))))
    · rcases y with y | y
      · exact Int32.not_lt.mpr z y.1
      · rcases y.2 with y | y
        · exact z2 y
        · exact z3 y
    · rcases y with y | y
      · exact z2 y.2
      · exact y.1 (Int32.not_le.mp z)
end
end
section
section
variable {P K : Nat} {S V It gr vr sw od L ls : Nat → Int32} {q l : Nat → Nat} {m : Nat → Nat} {n : Nat}
def hj_LS (ls : Nat → Int32) (m : Nat → Nat) (n : Nat) : Prop := ∀ a, a < n → ls a = nI (m a)
theorem hy_lastOk {post : Int32 → Prop} (R : hj_R P K S V It gr vr sw od L q l) (hn : n ≤ 4) (hl : hj_LS ls m n) (hm : ∀ a, m a < 4) {x b : Nat} (hx : x < 4) (hb : b < n) (h : post (hj_b (∀ a, a < b → hj_W V (m b) x → hj_W V (m a) x → hj_rn q x (m a) < hj_rn q x (m b)))) : wpY_lastOk post (nI P, nI K, S, V, sw, od, L, ls) (nI x) (nI b) := by
  have cb : (nI b).toNatClampNeg = b := nI_clamp (by omega)
  have vb : vp_in (nI b) 4 := vp_in_nI (by omega) (by omega)
  have mb := hm b
  have c1 : (nI (m b * 4 + x)).toNatClampNeg = m b * 4 + x := nI_clamp (by omega)
  have v1 : vp_in (nI (m b * 4 + x)) 16 := vp_in_nI (by omega) (by omega)
  have rb := hj_rnl R hx mb
  unfold wpY_lastOk
  dsimp only
  rw [cb, hl b hb]
  refine ⟨vb, hy_rank R hx mb ?_⟩
  refine loop_0 (fun n' a (s : Int32) => wY_lastOk_18 post (nI x) (nI b) (nI (hj_rn q x (m b))) (nI P) (nI K) S V sw od L ls n' s (nI a)) (fun a s => s = hj_b (∀ y, y < a → hj_W V (m b) x → hj_W V (m y) x → hj_rn q x (m y) < hj_rn q x (m b))) b 1 hj_a00 ?_ ?_
  · intro n' s I
    subst I
    exact br_t (nI_le (Nat.le_refl _) (by omega)) ⟨hj_nb _, h⟩
  · intro n' a s ha I next
    have ca : (nI a).toNatClampNeg = a := nI_clamp (by omega)
    have va : vp_in (nI a) 4 := vp_in_nI (by omega) (by omega)
    have ma := hm a
    have c2 : (nI (m a * 4 + x)).toNatClampNeg = m a * 4 + x := nI_clamp (by omega)
    have v2 : vp_in (nI (m a * 4 + x)) 16 := vp_in_nI (by omega) (by omega)
    have ra := hj_rnl R hx ma
    show wY_lastOk_18 post (nI x) (nI b) (nI (hj_rn q x (m b))) (nI P) (nI K) S V sw od L ls (n' + 1) s (nI a)
    rw [wY_lastOk_18]
    dsimp only
    rw [cb, ca, hl b hb, hl a (by omega), hj_c4 (m b) x, hj_c4 (m a) x, c1, c2]
    refine br_f (nI_ge ha (by omega)) ⟨vb, v1, br_c (fun z => ?_) (fun z => ⟨va, v2, br_c (fun z2 => nm_r (nI_1 a) (next s ?_)) (fun z2 => ⟨va, hy_rank R hx ma ?_⟩)⟩)⟩
    · subst I
      have e : hj_b (∀ y, y < a → hj_W V (m b) x → hj_W V (m y) x → hj_rn q x (m y) < hj_rn q x (m b)) = hj_b (∀ y, y < b → hj_W V (m b) x → hj_W V (m y) x → hj_rn q x (m y) < hj_rn q x (m b)) := hj_bi ⟨fun _ y hy w => absurd z w, fun _ y hy w => absurd z w⟩
      refine ⟨hj_nb _, ?_⟩
      rw [e]
      exact h
    · rw [I]
      exact hj_bi ⟨fun w => lt_s w (fun _ y => absurd z2 y), fun w y hy => w y (by omega)⟩
    · subst I
      exact hj_br (fun hq => nm_r (nI_1 a) (next 0 (hj_a0 hq))) (fun hq => pk_le (hj_rn q x (m b)) (hj_rn q x (m a)) (fun y => nm_r (nI_1 a) (next 0 (hj_aF (fun w => absurd (w z z2) (by omega))))) (fun y => nm_r (nI_1 a) (next 1 (hj_aT hq (fun _ _ => y)))))
theorem hy_keepsRankings {post : Int32 → Prop} (R : hj_R P K S V It gr vr sw od L q l) (hn : n ≤ 4) (hl : hj_LS ls m n) (hm : ∀ a, m a < 4) (h : post (hj_b (hj_Rk K V q m n))) : wpY_keepsRankings post (nI P, nI K, S, V, sw, od, L, ls) (nI n) := by
  have hK := R.2.1.2
  refine loop_0 (fun n' x (s : Int32) => wY_keepsRankings_4 post (nI n) (nI P) (nI K) S V sw od L ls n' s (nI x)) (fun x s => s = hj_b (∀ y, y < x → ∀ b, b < n → ∀ a, a < b → hj_W V (m b) y → hj_W V (m a) y → hj_rn q y (m a) < hj_rn q y (m b))) K 1 hj_a00 ?_ ?_
  · intro n' s I
    subst I
    exact br_t (nI_le (Nat.le_refl _) (by omega)) ⟨hj_nb _, h⟩
  · intro n' x s hx I next
    subst I
    refine br_f (nI_ge hx (by omega)) ?_
    refine loop_0 (fun n2 b (s : Int32) => wY_keepsRankings_15 post (wY_keepsRankings_4 post (nI n) (nI P) (nI K) S V sw od L ls n') (nI n) (nI x) (nI P) (nI K) S V sw od L ls n2 s (nI b)) (fun b s => s = hj_b ((∀ y, y < x → ∀ b, b < n → ∀ a, a < b → hj_W V (m b) y → hj_W V (m a) y → hj_rn q y (m a) < hj_rn q y (m b)) ∧ ∀ b', b' < b → ∀ a, a < b' → hj_W V (m b') x → hj_W V (m a) x → hj_rn q x (m a) < hj_rn q x (m b'))) n _ hj_cz ?_ ?_
    · intro n2 s I'
      subst I'
      exact br_t (nI_le (Nat.le_refl _) (by omega)) (nm_r (nI_1 x) (next _ hj_ce))
    · intro n2 b s hb I' next'
      subst I'
      exact br_f (nI_ge hb (by omega)) (hj_br (fun hq => nm_r (nI_1 b) (next' 0 (hj_c0 hq))) (fun hq => hy_lastOk R hn hl hm (by omega) hb (hj_br (fun hz => nm_r (nI_1 b) (next' 0 (hj_cF hz))) (fun hz => nm_r (nI_1 b) (next' 1 (hj_cT hq hz))))))
theorem hy_keepsSources {post : Int32 → Prop} (R : hj_R P K S V It gr vr sw od L q l) (hn : n ≤ 4) (hl : hj_LS ls m n) (hm : ∀ a, m a < 4) (h : post (hj_b (hj_Src K vr m n))) : wpY_keepsSources post (nI P, nI K, S, V, sw, od, L, ls) (nI n) := by
  have hE : (∀ b, b < n → ∀ a, a < b → ¬ hj_sawA sw (m a) (m b)) ↔ hj_Src K vr m n := ⟨fun w b hb a ha y => w b hb a ha ((hj_SrcY R (hm a) (hm b)).mpr y), fun w b hb a ha y => w b hb a ha ((hj_SrcY R (hm a) (hm b)).mp y)⟩
  rw [← hj_bi hE] at h
  refine loop_0 (fun n' b (s : Int32) => wY_keepsSources_4 post (nI n) (nI P) (nI K) S V sw od L ls n' s (nI b)) (fun b s => s = hj_b (∀ y, y < b → ∀ a, a < y → ¬ hj_sawA sw (m a) (m y))) n 1 hj_a00 ?_ ?_
  · intro n' s I
    subst I
    exact br_t (nI_le (Nat.le_refl _) (by omega)) ⟨hj_nb _, h⟩
  · intro n' b s hb I next
    subst I
    have cb : (nI b).toNatClampNeg = b := nI_clamp (by omega)
    have vb : vp_in (nI b) 4 := vp_in_nI (by omega) (by omega)
    refine br_f (nI_ge hb (by omega)) ?_
    refine loop_0 (fun n2 a (s : Int32) => wY_keepsSources_12 post (wY_keepsSources_4 post (nI n) (nI P) (nI K) S V sw od L ls n') (nI n) (nI b) (nI P) (nI K) S V sw od L ls n2 s (nI a)) (fun a s => s = hj_b ((∀ y, y < b → ∀ a, a < y → ¬ hj_sawA sw (m a) (m y)) ∧ ∀ a', a' < a → ¬ hj_sawA sw (m a') (m b))) b _ hj_cz ?_ ?_
    · intro n2 s I'
      subst I'
      exact br_t (nI_le (Nat.le_refl _) (by omega)) (nm_r (nI_1 b) (next _ (hj_ce (f := fun y => ∀ a, a < y → ¬ hj_sawA sw (m a) (m y)))))
    · intro n2 a s ha I' next'
      subst I'
      have ca : (nI a).toNatClampNeg = a := nI_clamp (by omega)
      have va : vp_in (nI a) 4 := vp_in_nI (by omega) (by omega)
      show wY_keepsSources_12 post _ (nI n) (nI b) (nI P) (nI K) S V sw od L ls (n2 + 1) _ (nI a)
      rw [wY_keepsSources_12]
      dsimp only
      rw [ca, cb, hl a (by omega), hl b hb]
      exact br_f (nI_ge ha (by omega)) (hj_br (fun hq => nm_r (nI_1 a) (next' 0 (hj_c0 hq))) (fun hq => ⟨va, vb, hy_sawAny (hm a) (hm b) (hj_br (fun hz => nm_r (nI_1 a) (next' 1 (hj_cT hq hz))) (fun hz => nm_r (nI_1 a) (next' 0 (hj_cF (fun w => w hz)))))⟩))
theorem hy_readsAt {post : Int32 → Prop} (R : hj_R P K S V It gr vr sw od L q l) (hn : n ≤ 4) (hv : hj_Val S m n) (hl : hj_LS ls m n) (hm : ∀ a, m a < 4) {i g : Nat} (hi : i < 4) (hg : g ≤ n) (hne : ∀ a, a < g → m a ≠ i) (h : post (hj_b (hj_RF P K V gr vr m i g))) : wpY_readsAt post (nI P, nI K, S, V, sw, od, L, ls) (nI i) (nI g) := by
  have hK := R.2.1.2
  rw [← hj_bi (hj_RFY R hv hm hi hg)] at h
  refine loop_0 (fun n' x (s : Int32) => wY_readsAt_5 post (nI i) (nI g) (nI P) (nI K) S V sw od L ls n' s (nI x)) (fun x s => s = hj_b (∀ y, y < x → hj_RY sw i y (hj_lw V m y g))) K 1 hj_a00 ?_ ?_
  · intro n' s I
    subst I
    exact br_t (nI_le (Nat.le_refl _) (by omega)) ⟨hj_nb _, h⟩
  · intro n' x s hx I next
    subst I
    refine br_f (nI_ge hx (by omega)) ?_
    refine loop_0 (fun n2 a (s : Int32) => wY_readsAt_20 post (wY_readsAt_5 post (nI i) (nI g) (nI P) (nI K) S V sw od L ls n') (nI i) (nI g) (hj_b (∀ y, y < x → hj_RY sw i y (hj_lw V m y g))) (nI x) (nI P) (nI K) S V sw od L ls n2 s (nI a)) (fun a s => s = hj_lw V m x a) g (-1) rfl ?_ ?_
    · intro n2 s I'
      subst I'
      exact br_t (nI_le (Nat.le_refl _) (by omega)) (hj_br (fun hq => nm_r (nI_1 x) (next 0 (hj_a0 hq))) (fun hq => hy_readsOnly hi (by omega) (hj_br (fun hz => nm_r (nI_1 x) (next 0 (hj_aF hz))) (fun hz => nm_r (nI_1 x) (next 1 (hj_aT hq hz))))))
    · intro n2 a s ha I' next'
      subst I'
      have ca : (nI a).toNatClampNeg = a := nI_clamp (by omega)
      have va : vp_in (nI a) 4 := vp_in_nI (by omega) (by omega)
      have ma := hm a
      have c2 : (nI (m a * 4 + x)).toNatClampNeg = m a * 4 + x := nI_clamp (by omega)
      have v2 : vp_in (nI (m a * 4 + x)) 16 := vp_in_nI (by omega) (by omega)
      show wY_readsAt_20 post _ (nI i) (nI g) _ (nI x) (nI P) (nI K) S V sw od L ls (n2 + 1) _ (nI a)
      rw [wY_readsAt_20]
      dsimp only
      rw [ca, hl a (by omega), hj_c4 (m a) x, c2]
      exact br_f (nI_ge ha (by omega)) ⟨va, v2, br_c (fun z => nm_r (nI_1 a) (next' _ (hj_lwF (fun w => w z)).symm)) (fun z => ⟨va, pk_eq (m a) i (fun e => absurd e (hne a ha)) (fun _ => ⟨va, nm_e (nm_r (nI_1 a) (next' _ (hj_lwT z).symm))⟩)⟩)⟩
theorem hy_keepsReads {post : Int32 → Prop} (R : hj_R P K S V It gr vr sw od L q l) (hn : n ≤ 4) (hv : hj_Val S m n) (hl : hj_LS ls m n) (hm : ∀ a, m a < 4) (h : post (hj_b (hj_Rd P K V gr vr m n))) : wpY_keepsReads post (nI P, nI K, S, V, sw, od, L, ls) (nI n) := by
  refine loop_0 (fun n' b (s : Int32) => wY_keepsReads_4 post (nI n) (nI P) (nI K) S V sw od L ls n' s (nI b)) (fun b s => s = hj_b (∀ y, y < b → hj_RF P K V gr vr m (m y) y)) n 1 hj_a00 ?_ ?_
  · intro n' s I
    subst I
    exact br_t (nI_le (Nat.le_refl _) (by omega)) ⟨hj_nb _, h⟩
  · intro n' b s hb I next
    subst I
    have cb : (nI b).toNatClampNeg = b := nI_clamp (by omega)
    have vb : vp_in (nI b) 4 := vp_in_nI (by omega) (by omega)
    show wY_keepsReads_4 post (nI n) (nI P) (nI K) S V sw od L ls (n' + 1) _ (nI b)
    rw [wY_keepsReads_4]
    dsimp only
    rw [cb, hl b hb]
    exact br_f (nI_ge hb (by omega)) (hj_br (fun hq => nm_r (nI_1 b) (next 0 (hj_a0 hq))) (fun hq => ⟨vb, hy_readsAt R hn hv hl hm (hm b) (by omega) (hv b hb).2 (hj_br (fun hz => nm_r (nI_1 b) (next 0 (hj_aF hz))) (fun hz => nm_r (nI_1 b) (next 1 (hj_aT hq hz))))⟩))
theorem hy_startsAt {post : Int32 → Prop} (R : hj_R P K S V It gr vr sw od L q l) (hn : n ≤ 4) (hv : hj_Val S m n) (hl : hj_LS ls m n) (hm : ∀ a, m a < 4) {b g : Nat} (hb : b < n) (hg : g ≤ b) (h : post (hj_b (hj_St P K V gr vr m b g))) : wpY_startsAt post (nI P, nI K, S, V, sw, od, L, ls) (nI b) (nI g) := by
  have cb : (nI b).toNatClampNeg = b := nI_clamp (by omega)
  have vb : vp_in (nI b) 4 := vp_in_nI (by omega) (by omega)
  unfold wpY_startsAt
  dsimp only
  rw [cb, hl b hb]
  refine ⟨vb, nm_e (hy_readsAt R hn hv hl hm (hm b) (by omega) (fun a ha => (hv b hb).2 a (by omega)) ?_)⟩
  refine pk_loop (fun n2 a (s : Int32) => wY_startsAt_18 post (nI b) (nI (m b)) (nI P) (nI K) S V sw od L ls n2 s (nI a)) (fun a s => g ≤ a ∧ s = hj_b (hj_RF P K V gr vr m (m b) g ∧ ∀ y, y < a → g ≤ y → ¬ hj_sh K V (m y) (m b))) b g _ hg ?_ ?_ ?_
  · exact ⟨Nat.le_refl g, hj_bi ⟨fun w => ⟨w, fun y hy hgy => absurd hy (by omega)⟩, fun w => w.1⟩⟩
  · intro n2 s I'
    obtain ⟨_, rfl⟩ := I'
    refine br_t (nI_le (Nat.le_refl _) (by omega)) ⟨hj_nb _, ?_⟩
    rw [hj_bi (q := hj_St P K V gr vr m b g) ⟨fun w => ⟨w.1, fun a h1 h2 => w.2 a h2 h1⟩, fun w => ⟨w.1, fun a h1 h2 => w.2 a h2 h1⟩⟩]
    exact h
  · intro n2 a s ha I' next'
    obtain ⟨hga, rfl⟩ := I'
    have ca : (nI a).toNatClampNeg = a := nI_clamp (by omega)
    have va : vp_in (nI a) 4 := vp_in_nI (by omega) (by omega)
    have hga' : g ≤ a + 1 := by omega
    show wY_startsAt_18 post (nI b) (nI (m b)) (nI P) (nI K) S V sw od L ls (n2 + 1) _ (nI a)
    rw [wY_startsAt_18]
    dsimp only
    rw [ca, hl a (by omega)]
    exact br_f (nI_ge ha (by omega)) (hj_br (fun hq => nm_r (nI_1 a) (next' 0 ⟨hga', hj_c0 hq⟩)) (fun hq => ⟨va, hy_share R (hm a) (hm b) (hj_br (fun hz => nm_r (nI_1 a) (next' 1 ⟨hga', hj_cT hq (fun _ => hz)⟩)) (fun hz => nm_r (nI_1 a) (next' 0 ⟨hga', hj_cF (fun w => w hga hz)⟩)))⟩))
theorem hy_canStart {post : Int32 → Prop} (R : hj_R P K S V It gr vr sw od L q l) (hn : n ≤ 4) (hv : hj_Val S m n) (hl : hj_LS ls m n) (hm : ∀ a, m a < 4) (h : post (hj_b (hj_Sn P K V gr vr m n))) : wpY_canStart post (nI P, nI K, S, V, sw, od, L, ls) (nI n) := by
  have hE : (∀ b, b < n → ∃ g, g < b + 1 ∧ hj_St P K V gr vr m b g) ↔ hj_Sn P K V gr vr m n := by
    constructor
    · intro w b hb
      obtain ⟨g, hg, y⟩ := w b hb
      exact ⟨g, by omega, y⟩
    · intro w b hb
      obtain ⟨g, hg, y⟩ := w b hb
      exact ⟨g, by omega, y⟩
  rw [← hj_bi hE] at h
  refine loop_0 (fun n' b (s : Int32) => wY_canStart_4 post (nI n) (nI P) (nI K) S V sw od L ls n' s (nI b)) (fun b s => s = hj_b (∀ y, y < b → ∃ g, g < y + 1 ∧ hj_St P K V gr vr m y g)) n 1 hj_a00 ?_ ?_
  · intro n' s I
    subst I
    exact br_t (nI_le (Nat.le_refl _) (by omega)) ⟨hj_nb _, h⟩
  · intro n' b s hb I next
    subst I
    refine br_f (nI_ge hb (by omega)) ?_
    refine loop_0 (fun n2 g (s : Int32) => wY_canStart_15 post (wY_canStart_4 post (nI n) (nI P) (nI K) S V sw od L ls n') (nI n) (hj_b (∀ y, y < b → ∃ g, g < y + 1 ∧ hj_St P K V gr vr m y g)) (nI b) (nI P) (nI K) S V sw od L ls n2 s (nI g)) (fun g s => s = hj_b (∃ y, y < g ∧ hj_St P K V gr vr m b y)) (b + 1) 0 hj_e00 ?_ ?_
    · intro n2 s I'
      subst I'
      exact br_t (nI_lt (by omega) (by omega)) (hj_br (fun hq => nm_r (nI_1 b) (next 0 (hj_a0 hq))) (fun hq => hj_br (fun hz => nm_r (nI_1 b) (next 0 (hj_aF hz))) (fun hz => nm_r (nI_1 b) (next 1 (hj_aT hq hz)))))
    · intro n2 g s hg I' next'
      subst I'
      exact br_f (nI_nlt (by omega) (by omega)) (hj_br (fun hq => hy_startsAt R hn hv hl hm hb (by omega) (hj_br (fun hz => nm_r (nI_1 g) (next' 0 (hj_eF hq hz))) (fun hz => nm_r (nI_1 g) (next' 1 (hj_eT hz))))) (fun hq => nm_r (nI_1 g) (next' 1 (hj_e1 hq))))
end
end
section
section
variable {P K : Nat} {S V It gr vr sw od L ls : Nat → Int32} {q l : Nat → Nat} {m : Nat → Nat} {n : Nat}
theorem hj_c16 {c : Nat} (hc : c < 16) : nI c / 4 = nI (c / 4) := pk_div (d := 4) (by omega) (by decide) (by decide)
theorem hj_r16 {c : Nat} (hc : c < 16) : nI c - nI c / 4 * 4 = nI (c % 4) := pk_rem (d := 4) (by omega) (by decide) (by decide)
theorem hj_s9 (c j : Nat) : nI c * 9 + 2 * nI j + 1 = nI (c * 9 + 2 * j + 1) := by
  rw [show (9 : Int32) = nI 9 from rfl, show (2 : Int32) = nI 2 from rfl, pk_mul, pk_mul, nI_add, nI_1]
theorem hj_t9 (c j : Nat) : nI c * 9 + 2 * nI j + 2 = nI (c * 9 + 2 * j + 2) := by
  rw [show (9 : Int32) = nI 9 from rfl, show (2 : Int32) = nI 2 from rfl, pk_mul, pk_mul, nI_add, nI_add]
def hj_cy (S V sw : Nat → Int32) (c j : Nat) : Prop := S (c / 4) = 1 → (sw (c * 9 + 2 * j + 1) = 0 ∧ sw (c * 9 + 2 * j + 2) = 0) ∨ (S j = 1 ∧ (sw (c * 9 + 2 * j + 1) = 0 ∨ V (j * 4 + c % 4) = 1) ∧ (sw (c * 9 + 2 * j + 2) = 0 ∨ V (j * 4 + c % 4) = 2))
theorem hy_clean {post : Int32 → Prop} (R : hj_R P K S V It gr vr sw od L q l) (h : post (hj_b (hj_CX P K S V vr))) : wpY_clean post (nI P, nI K, S, V, sw, od, L, ls) := by
  have hE : (∀ c, c < 16 → ∀ j, j < 4 → hj_cy S V sw c j) ↔ hj_CX P K S V vr := hj_CXY R.1.2 R.2.1.2 R.2.2.1 R.2.2.2.2.2.2.2.2.2.2.1 R.2.2.2.2.2.2.2.2.2.2.2
  rw [← hj_bi hE] at h
  refine loop_0 (fun n c (s : Int32) => wY_clean_4 post (nI P) (nI K) S V sw od L ls n s (nI c)) (fun c s => s = hj_b (∀ y, y < c → ∀ j, j < 4 → hj_cy S V sw y j)) 16 1 hj_a00 ?_ ?_
  · intro n s I
    subst I
    exact br_t (nI_le (a := 16) (b := 16) (Nat.le_refl 16) (by decide)) ⟨hj_nb _, h⟩
  · intro n c s hc I next
    subst I
    refine br_f (nI_ge (b := 16) hc (by decide)) ?_
    refine loop_0 (fun n2 j (s : Int32) => wY_clean_12 post (wY_clean_4 post (nI P) (nI K) S V sw od L ls n) (nI c) (nI P) (nI K) S V sw od L ls n2 s (nI j)) (fun j s => s = hj_b ((∀ y, y < c → ∀ j, j < 4 → hj_cy S V sw y j) ∧ ∀ j', j' < j → hj_cy S V sw c j')) 4 _ hj_cz ?_ ?_
    · intro n2 s I'
      subst I'
      exact br_t (nI_le (a := 4) (b := 4) (Nat.le_refl 4) (by decide)) (nm_r (nI_1 c) (next _ (hj_ce (f := fun y => ∀ j, j < 4 → hj_cy S V sw y j))))
    · intro n2 j s hj I' next'
      have c1 : (nI (c * 9 + 2 * j + 1)).toNatClampNeg = c * 9 + 2 * j + 1 := nI_clamp (by omega)
      have c2 : (nI (c * 9 + 2 * j + 2)).toNatClampNeg = c * 9 + 2 * j + 2 := nI_clamp (by omega)
      have v1 : vp_in (nI (c * 9 + 2 * j + 1)) 144 := vp_in_nI (by omega) (by omega)
      have v2 : vp_in (nI (c * 9 + 2 * j + 2)) 144 := vp_in_nI (by omega) (by omega)
      have c3 : (nI (j * 4 + c % 4)).toNatClampNeg = j * 4 + c % 4 := nI_clamp (by omega)
      have v3 : vp_in (nI (j * 4 + c % 4)) 16 := vp_in_nI (by omega) (by omega)
      have hd : ¬ (4 : Int32) = 0 := by decide
      have keep : hj_cy S V sw c j → wY_clean_12 post (wY_clean_4 post (nI P) (nI K) S V sw od L ls n) (nI c) (nI P) (nI K) S V sw od L ls n2 s (nI (j + 1)) := by
        intro g
        refine next' s ?_
        rw [I']
        exact hj_bi ⟨fun w => ⟨w.1, lt_s w.2 g⟩, fun w => ⟨w.1, fun y hy => w.2 y (by omega)⟩⟩
      have go : S (c / 4) = 1 → ¬ (sw (c * 9 + 2 * j + 1) = 0 ∧ sw (c * 9 + 2 * j + 2) = 0) → wY_clean_71 post (wY_clean_4 post (nI P) (nI K) S V sw od L ls n) (wY_clean_12 post (wY_clean_4 post (nI P) (nI K) S V sw od L ls n) (nI c) (nI P) (nI K) S V sw od L ls n2) s (nI c) (nI j) (sw (c * 9 + 2 * j + 1)) (sw (c * 9 + 2 * j + 2)) (nI P) (nI K) S V sw od L ls := by
        intro hS hno
        subst I'
        have bad : ¬ (S j = 1 ∧ (sw (c * 9 + 2 * j + 1) = 0 ∨ V (j * 4 + c % 4) = 1) ∧ (sw (c * 9 + 2 * j + 2) = 0 ∨ V (j * 4 + c % 4) = 2)) → ¬ hj_cy S V sw c j := by
          intro g w
          rcases w hS with w | w
          · exact hno w
          · exact g w
        unfold wY_clean_71
        rw [hj_r16 hc, hj_c4, c3]
        refine ⟨hd, v3, nm_e (hj_br (fun hq => nm_r (nI_1 j) (next' 0 (hj_c0 hq))) (fun hq => hy_in hj (hj_br (fun hz => nm_r (nI_1 j) (next' 0 (hj_cF (bad (fun w => hz w.1))))) (fun hz => ?_))))⟩
        have tail : (sw (c * 9 + 2 * j + 1) = 0 ∨ V (j * 4 + c % 4) = 1) → wY_clean_108 post (wY_clean_4 post (nI P) (nI K) S V sw od L ls n) (wY_clean_12 post (wY_clean_4 post (nI P) (nI K) S V sw od L ls n) (nI c) (nI P) (nI K) S V sw od L ls n2) (nI c) (nI j) (sw (c * 9 + 2 * j + 2)) (V (j * 4 + c % 4)) (nI P) (nI K) S V sw od L ls := by
          intro g1
          refine br_c (fun z => nm_r (nI_1 j) (next' 1 (hj_cT hq (fun _ => Or.inr ⟨hz, g1, Or.inl z⟩)))) (fun z => br_c (fun z2 => nm_r (nI_1 j) (next' 1 (hj_cT hq (fun _ => Or.inr ⟨hz, g1, Or.inr z2⟩)))) (fun z2 => nm_r (nI_1 j) (next' 0 (hj_cF (bad (fun w => ?_))))))
          rcases w.2.2 with w | w
          · exact z w
          · exact z2 w
        refine br_c (fun z => tail (Or.inl z)) (fun z => br_c (fun z2 => tail (Or.inr z2)) (fun z2 => nm_r (nI_1 j) (next' 0 (hj_cF (bad (fun w => ?_))))))
        rcases w.2.1 with w | w
        · exact z w
        · exact z2 w
      show wY_clean_12 post _ (nI c) (nI P) (nI K) S V sw od L ls (n2 + 1) s (nI j)
      rw [wY_clean_12]
      dsimp only
      rw [hj_s9, hj_t9, c1, c2, hj_c16 hc]
      exact br_f (nI_ge (b := 4) hj (by decide)) ⟨v1, nm_e ⟨v2, nm_e ⟨hd, hy_in (by omega) (hj_br (fun hz => nm_r (nI_1 j) (keep (fun w => absurd w hz))) (fun hz => br_c (fun z => br_c (fun z2 => nm_r (nI_1 j) (keep (fun _ => Or.inl ⟨z, z2⟩))) (fun z2 => go hz (fun w => z2 w.2))) (fun z => go hz (fun w => z w.1))))⟩⟩⟩
theorem hy_committed {post : Int32 → Prop} (R : hj_R P K S V It gr vr sw od L q l) (h : post (nI (hj_cn S P))) : wpY_committed post (nI P, nI K, S, V, sw, od, L, ls) := by
  rw [← hj_cn4 R.1.2 R.2.2.1] at h
  refine loop_0 (fun n i (s : Int32) => wY_committed_4 post (nI P) (nI K) S V sw od L ls n s (nI i)) (fun i s => s = nI (hj_cn S i)) 4 0 rfl ?_ ?_
  · intro n s I
    subst I
    exact br_t (nI_le (a := 4) (b := 4) (Nat.le_refl 4) (by decide)) h
  · intro n i s hi I next
    subst I
    refine br_f (nI_ge (b := 4) hi (by decide)) (hy_in hi (hj_br (fun z => nm_r (nI_add _ 0) (nm_r (nI_1 i) (next _ ?_))) (fun z => nm_r (nI_1 _) (nm_r (nI_1 i) (next _ ?_)))))
    · show nI (hj_cn S i + 0) = nI (hj_cn S i + (if S i = 1 then 1 else 0))
      rw [if_neg z]
    · show nI (hj_cn S i + 1) = nI (hj_cn S i + (if S i = 1 then 1 else 0))
      rw [if_pos z]
/-! ===== spelling a list ===== -/
theorem hj_sb1 : ∀ s, s < 16 → ∀ i, i < 4 → nI s ||| ((1 : Int32) <<< (nI i &&& 31)) = nI (s ||| 2 ^ i) := by decide +kernel
theorem hj_sb2 : ∀ s, s < 16 → ∀ i, i < 4 → (nI s >>> (nI i &&& 31)) &&& 1 = nI (s / 2 ^ i % 2) := by decide +kernel
theorem hj_sb3 : ∀ s, s < 16 → ∀ i, i < 4 → s ||| 2 ^ i < 16 ∧ ∀ j, j < 4 → ((s ||| 2 ^ i) / 2 ^ j % 2 = 1 ↔ (s / 2 ^ j % 2 = 1 ∨ j = i)) := by decide +kernel
/-- the members from place t on are spelled -/
def hj_sp (c n t : Nat) (rest seen : Int32) (ls : Nat → Int32) : Prop := rest = nI (c / 2 ^ (2 * (n - t))) ∧ (∃ s, s < 16 ∧ seen = nI s ∧ ∀ i, i < 4 → (s / 2 ^ i % 2 = 1 ↔ ∃ b, t ≤ b ∧ b < n ∧ hj_m c n b = i)) ∧ ∀ b, t ≤ b → b < n → ls b = nI (hj_m c n b)
def hj_vt (S : Nat → Int32) (m : Nat → Nat) (n t : Nat) : Prop := ∀ a, t ≤ a → a < n → S (m a) = 1 ∧ ∀ b, a < b → b < n → m b ≠ m a
theorem hy_spell {post : Int32 → SY → Prop} {c : Nat} (hc : c < 256) (hn : n ≤ 4) (h : ∀ ls', hj_LS ls' (hj_m c n) n → post (hj_b (hj_Val S (hj_m c n) n)) (nI P, nI K, S, V, sw, od, L, ls')) : wpY_spell post (nI P, nI K, S, V, sw, od, L, ls) (nI c) (nI n) := by
  have key : ∀ t, t ≤ n → ∀ rest seen ok ls, hj_sp c n t rest seen ls → ok = hj_b (hj_vt S (hj_m c n) n t) → wY_spell_13 post (nI P) (nI K) (t + 1) rest seen ok (nI t - 1) S V sw od L ls := by
    intro t
    induction t with
    | zero =>
      intro _ rest seen ok ls hsp hok
      subst hok
      refine br_t (by decide) ⟨hj_nb _, ?_⟩
      have e : hj_b (hj_vt S (hj_m c n) n 0) = hj_b (hj_Val S (hj_m c n) n) := hj_bi hj_valM
      rw [e]
      exact h ls (fun a ha => hsp.2.2 a (by omega) ha)
    | succ t ih =>
      intro ht rest seen ok ls hsp hok
      obtain ⟨hr, ⟨s, hs, hseen, hbits⟩, hls⟩ := hsp
      subst hr hseen
      have hm4 := hj_m4 c n t
      have hcl : c / 2 ^ (2 * (n - (t + 1))) ≤ c := Nat.div_le_self _ _
      have e0 : nI (t + 1) - 1 = nI t := nI_pred t
      have e1 : nI (c / 2 ^ (2 * (n - (t + 1)))) &&& 3 = nI (hj_m c n t) := by
        rw [pk_andN (by omega) 2 (by decide), show n - (t + 1) = n - 1 - t by omega]
        rfl
      have e2 : nI (c / 2 ^ (2 * (n - (t + 1)))) >>> ((2 : Int32) &&& 31) = nI (c / 2 ^ (2 * (n - t))) := by
        rw [pk_shrN (by omega) _ 2 (by decide), Nat.div_div_eq_div_mul, ← Nat.pow_add, show 2 * (n - (t + 1)) + 2 = 2 * (n - t) by omega]
      have e3 : nI t &&& 3 = nI t := by
        rw [pk_andN (by omega) 2 (by decide), Nat.mod_eq_of_lt (by omega)]
      have e4 : nI t + (-1) = nI t - 1 := (Int32.sub_eq_add_neg _ _).symm
      have ct : (nI t).toNatClampNeg = t := nI_clamp (by omega)
      have vt : vp_in (nI t) 4 := vp_in_nI (by omega) (by omega)
      have step : ∀ z0, z0 = hj_b (hj_vt S (hj_m c n) n t) → wY_spell_56 post (wY_spell_13 post (nI P) (nI K) (t + 1)) (nI (c / 2 ^ (2 * (n - t)))) (nI s) (nI t) (nI (hj_m c n t)) z0 (nI P) (nI K) S V sw od L ls := by
        intro z0 hz
        unfold wY_spell_56
        rw [e3, ct, hj_sb1 s hs _ hm4]
        refine nm_e ⟨vt, nm_e (nm_r e4 (ih (by omega) _ _ _ _ ⟨rfl, ⟨s ||| 2 ^ hj_m c n t, (hj_sb3 s hs _ hm4).1, rfl, fun i hi => ?_⟩, fun b hb hbn => ?_⟩ hz))⟩
        · rw [(hj_sb3 s hs _ hm4).2 i hi, hbits i hi]
          constructor
          · intro w
            rcases w with ⟨b, h1, h2, h3⟩ | w
            · exact ⟨b, by omega, h2, h3⟩
            · exact ⟨t, Nat.le_refl t, by omega, w.symm⟩
          · intro ⟨b, h1, h2, h3⟩
            by_cases w : b = t
            · rw [w] at h3
              exact Or.inr h3.symm
            · exact Or.inl ⟨b, by omega, h2, h3⟩
        · by_cases w : b = t
          · rw [w]
            exact pk_us
          · rw [pk_un w]
            exact hls b (by omega) hbn
      show wY_spell_13 post (nI P) (nI K) (t + 1 + 1) _ _ ok (nI (t + 1) - 1) S V sw od L ls
      rw [wY_spell_13]
      dsimp only
      rw [e0, e1, e2]
      subst hok
      refine br_f (nI_pos (by omega)) (nm_e (nm_e (hj_br (fun hq => step 0 (hj_b0 (fun w => ?_)).symm) (fun hq => hy_in hm4 (hj_br (fun hz => step 0 (hj_b0 (fun w => ?_)).symm) (fun hz => ?_))))))
      · exact hq (fun a h1 h2 => w a (by omega) h2)
      · exact hz (w t (Nat.le_refl t) (by omega)).1
      · rw [hj_sb2 s hs _ hm4]
        have h2 : s / 2 ^ hj_m c n t % 2 < 2 := Nat.mod_lt _ (by decide)
        refine pk_eq (s / 2 ^ hj_m c n t % 2) 0 (fun e => step 1 (hj_b1 (fun a h1 h2 => ?_)).symm) (fun e => step 0 (hj_b0 (fun w => ?_)).symm)
        · by_cases w : a = t
          · rw [w]
            refine ⟨hz, fun b h3 h4 h5 => ?_⟩
            have := (hbits _ hm4).mpr ⟨b, by omega, h4, h5⟩
            omega
          · exact hq a (by omega) h2
        · obtain ⟨b, h3, h4, h5⟩ := (hbits _ hm4).mp (by omega)
          exact (w t (Nat.le_refl t) (by omega)).2 b (by omega) h4 h5
  refine nm_e ⟨n + 1, key n (Nat.le_refl n) _ _ _ _ ⟨?_, ⟨0, by decide, rfl, fun i hi => ?_⟩, fun b h1 h2 => absurd h2 (by omega)⟩ ?_⟩
  · rw [Nat.sub_self]
    exact congrArg nI (Nat.div_one c).symm
  · constructor
    · intro w
      rw [Nat.zero_div] at w
      exact absurd w (by decide)
    · intro ⟨b, h1, h2, _⟩
      omega
  · exact (hj_b1 (fun a h1 h2 => absurd h2 (by omega))).symm
end
end
section
section
variable {P K : Nat} {S V It gr vr sw od L ls : Nat → Int32} {q l : Nat → Nat} {m : Nat → Nat} {n : Nat}
variable {pl : Nat → Int32}
def hj_Kc (P K : Nat) (S V gr vr : Nat → Int32) (q : Nat → Nat) (n kind c : Nat) : Prop := hj_Kp P K S V gr vr q n kind (hj_m c n)
/-- the history is of the kind -/
def hj_J (P K : Nat) (S V gr vr : Nat → Int32) (q : Nat → Nat) (n kind : Nat) : Prop := (kind = 1 ∨ hj_CX P K S V vr) ∧ ∃ c, c < 2 ^ (2 * n) ∧ hj_Kc P K S V gr vr q n kind c
/-- the first list of the kind -/
def hj_F (P K : Nat) (S V gr vr : Nat → Int32) (q : Nat → Nat) (n kind c : Nat) : Prop := c < 2 ^ (2 * n) ∧ hj_Kc P K S V gr vr q n kind c ∧ ∀ c', c' < c → ¬ hj_Kc P K S V gr vr q n kind c'
theorem hx_first {post : Int32 → SX → Prop} (R : hj_R P K S V It gr vr sw od L q l) (hnS : n = hj_cn S P) {kind : Nat} (hk : kind ≤ 4) (h0 : ∀ pl', ¬ hj_J P K S V gr vr q n kind → post (-1) (nI P, nI K, S, V, It, L, gr, vr, pl')) (h1 : ∀ pl' c, hj_J P K S V gr vr q n kind → hj_F P K S V gr vr q n kind c → post (nI c) (nI P, nI K, S, V, It, L, gr, vr, pl')) : wpX_firstList post (nI P, nI K, S, V, It, L, gr, vr, pl) (nI kind) := by
  refine hx_firstList R hnS hk (fun pl' w => h0 pl' (fun y => ?_)) (fun pl' c hc g w w2 => h1 pl' c ⟨g, c, hc, w⟩ ⟨hc, w, w2⟩)
  rcases w with w | w
  · rcases y.1 with z | z
    · exact w.1 z
    · exact w.2 z
  · obtain ⟨c, hc, z⟩ := y.2
    exact w c hc z
theorem hy_find {post : Int32 → SY → Prop} (R : hj_R P K S V It gr vr sw od L q l) (hnS : n = hj_cn S P) {kind : Nat} (hk1 : 1 ≤ kind) (hk : kind ≤ 4) (h0 : ∀ ls', (∀ c, c < 2 ^ (2 * n) → ¬ hj_Kc P K S V gr vr q n kind c) → post 0 (nI P, nI K, S, V, sw, od, L, ls')) (h1 : ∀ ls' c, hj_F P K S V gr vr q n kind c → hj_LS ls' (hj_m c n) n → post 1 (nI P, nI K, S, V, sw, od, L, ls')) : wpY_find post (nI P, nI K, S, V, sw, od, L, ls) (nI kind) := by
  have hn : n ≤ 4 := by
    have := hj_cn_le S P
    have := R.1.2
    omega
  have h8 := hj_p8 hn
  refine hy_committed R ?_
  rw [← hnS]
  refine loop_0 (fun n' c (s : Nat → Int32) => wY_find_7 post (nI kind) (nI n) n' (nI c) (nI P) (nI K) S V sw od L s) (fun c _ => ∀ c', c' < c → ¬ hj_Kc P K S V gr vr q n kind c') (2 ^ (2 * n)) ls lt_0 ?_ ?_
  · intro n' s I
    show wY_find_7 post (nI kind) (nI n) (n' + 1) (nI (2 ^ (2 * n))) (nI P) (nI K) S V sw od L s
    rw [wY_find_7]
    dsimp only
    rw [hj_shc hn]
    exact br_t (nI_le (Nat.le_refl _) (by omega)) (h0 s I)
  · intro n' c s hc I next
    have nx : ∀ ls', ¬ hj_Kc P K S V gr vr q n kind c → wY_find_7 post (nI kind) (nI n) n' (nI (c + 1)) (nI P) (nI K) S V sw od L ls' := fun ls' w => next ls' (lt_s I w)
    show wY_find_7 post (nI kind) (nI n) (n' + 1) (nI c) (nI P) (nI K) S V sw od L s
    rw [wY_find_7]
    dsimp only
    rw [hj_shc hn]
    refine br_f (nI_ge hc (by omega)) (hy_spell (by omega) hn (fun ls' hl => hj_br (fun hv => nm_r (nI_1 c) (nx ls' (fun w => hv w.1))) (fun hv => hy_keepsRankings R hn hl (hj_m4 c n) (hj_br (fun hr => nm_r (nI_1 c) (nx ls' (fun w => ?_))) (fun hr => ?_)))))
    · rcases w.2.1 with w | w
      · omega
      · exact hr w
    · have f64 : kind ≠ 1 → (kind = 2 → ¬ hj_Src K vr (hj_m c n) n) → (kind = 3 → ¬ hj_Sn P K V gr vr (hj_m c n) n) → wY_find_64 post (wY_find_7 post (nI kind) (nI n) n') (nI kind) (nI n) (nI c) (nI P) (nI K) S V sw od L ls' := by
        intro g1 g2 g3
        refine pk_eq kind 4 (fun e => hy_keepsReads R hn hv hl (hj_m4 c n) (hj_br (fun hz => nm_r (nI_1 c) (nx ls' (fun w => ?_))) (fun hz => h1 ls' c ⟨hc, ⟨hv, Or.inr hr, Or.inl (by omega), Or.inl (by omega), Or.inr hz⟩, I⟩ hl))) (fun e => nm_r (nI_1 c) (nx ls' (fun w => ?_)))
        · rcases w.2.2.2.2 with w | w
          · exact w e
          · exact hz w
        · rcases (by omega : kind = 2 ∨ kind = 3) with e2 | e3
          · rcases w.2.2.1 with w | w
            · exact w e2
            · exact g2 e2 w
          · rcases w.2.2.2.1 with w | w
            · exact w e3
            · exact g3 e3 w
      have f51 : kind ≠ 1 → (kind = 2 → ¬ hj_Src K vr (hj_m c n) n) → wY_find_51 post (wY_find_7 post (nI kind) (nI n) n') (nI kind) (nI n) (nI c) (nI P) (nI K) S V sw od L ls' := by
        intro g1 g2
        exact pk_eq kind 3 (fun e => hy_canStart R hn hv hl (hj_m4 c n) (hj_br (fun hz => f64 g1 g2 (fun _ => hz)) (fun hz => h1 ls' c ⟨hc, ⟨hv, Or.inr hr, Or.inl (by omega), Or.inr hz, Or.inl (by omega)⟩, I⟩ hl))) (fun e => f64 g1 g2 (fun w => absurd w e))
      exact pk_eq kind 1 (fun e => h1 ls' c ⟨hc, ⟨hv, Or.inr hr, Or.inl (by omega), Or.inl (by omega), Or.inl (by omega)⟩, I⟩ hl) (fun e => pk_eq kind 2 (fun e2 => hy_keepsSources R hn hl (hj_m4 c n) (hj_br (fun hz => f51 e (fun _ => hz)) (fun hz => h1 ls' c ⟨hc, ⟨hv, Or.inr hr, Or.inr hz, Or.inl (by omega), Or.inl (by omega)⟩, I⟩ hl))) (fun e2 => f51 e (fun w => absurd w e2)))
theorem hj_Fu {kind c c' : Nat} (h : hj_F P K S V gr vr q n kind c) (h' : hj_F P K S V gr vr q n kind c') : c = c' := by
  rcases Nat.lt_trichotomy c c' with z | z | z
  · exact absurd h.2.1 (h'.2.2 c z)
  · exact z
  · exact absurd h'.2.1 (h.2.2 c' z)
/-- find, once the cleanness is known -/
theorem hy_fJ {post : Int32 → SY → Prop} (R : hj_R P K S V It gr vr sw od L q l) (hnS : n = hj_cn S P) {kind : Nat} (hk1 : 1 ≤ kind) (hk : kind ≤ 4) (hC : kind = 1 ∨ hj_CX P K S V vr) (h0 : ∀ ls', ¬ hj_J P K S V gr vr q n kind → post 0 (nI P, nI K, S, V, sw, od, L, ls')) (h1 : ∀ ls', hj_J P K S V gr vr q n kind → (∀ c, hj_F P K S V gr vr q n kind c → hj_LS ls' (hj_m c n) n) → post 1 (nI P, nI K, S, V, sw, od, L, ls')) : wpY_find post (nI P, nI K, S, V, sw, od, L, ls) (nI kind) := by
  refine hy_find R hnS hk1 hk (fun ls' w => h0 ls' (fun y => ?_)) (fun ls' c hF hl => h1 ls' ⟨hC, c, hF.1, hF.2.1⟩ (fun c' hF' => ?_))
  · obtain ⟨c, hc, z⟩ := y.2
    exact w c hc z
  · rw [← hj_Fu hF hF']
    exact hl
theorem hy_ordered {post : Int32 → SY → Prop} (R : hj_R P K S V It gr vr sw od L q l) (hnS : n = hj_cn S P) (h0 : ∀ ls', ¬ hj_J P K S V gr vr q n 1 → post 0 (nI P, nI K, S, V, sw, od, L, ls')) (h1 : ∀ ls', hj_J P K S V gr vr q n 1 → post 1 (nI P, nI K, S, V, sw, od, L, ls')) : wpY_ordered post (nI P, nI K, S, V, sw, od, L, ls) := by
  exact hy_fJ R hnS (kind := 1) (by decide) (by decide) (Or.inl rfl) (fun ls' w => ⟨rfl, h0 ls' w⟩) (fun ls' w _ => ⟨rfl, h1 ls' w⟩)
theorem hy_sourced {post : Int32 → SY → Prop} (R : hj_R P K S V It gr vr sw od L q l) (hnS : n = hj_cn S P) (h0 : ∀ ls', ¬ hj_J P K S V gr vr q n 2 → post 0 (nI P, nI K, S, V, sw, od, L, ls')) (h1 : ∀ ls', hj_J P K S V gr vr q n 2 → post 1 (nI P, nI K, S, V, sw, od, L, ls')) : wpY_sourced post (nI P, nI K, S, V, sw, od, L, ls) := by
  refine hy_clean R (hj_br (fun hq => h0 ls (fun w => ?_)) (fun hq => hy_fJ R hnS (kind := 2) (by decide) (by decide) (Or.inr hq) (fun ls' w => br_t rfl (h0 ls' w)) (fun ls' w _ => br_f (by decide) (h1 ls' w))))
  rcases w.1 with w | w
  · exact absurd w (by decide)
  · exact hq w
theorem hy_snapshot {post : Int32 → SY → Prop} (R : hj_R P K S V It gr vr sw od L q l) (hnS : n = hj_cn S P) (h0 : ∀ ls', ¬ hj_J P K S V gr vr q n 3 → post 0 (nI P, nI K, S, V, sw, od, L, ls')) (h1 : ∀ ls', hj_J P K S V gr vr q n 3 → post 1 (nI P, nI K, S, V, sw, od, L, ls')) : wpY_snapshot post (nI P, nI K, S, V, sw, od, L, ls) := by
  refine hy_clean R (hj_br (fun hq => h0 ls (fun w => ?_)) (fun hq => hy_fJ R hnS (kind := 3) (by decide) (by decide) (Or.inr hq) (fun ls' w => br_t rfl (h0 ls' w)) (fun ls' w _ => br_f (by decide) (h1 ls' w))))
  rcases w.1 with w | w
  · exact absurd w (by decide)
  · exact hq w
theorem hy_serial {post : Int32 → SY → Prop} (R : hj_R P K S V It gr vr sw od L q l) (hnS : n = hj_cn S P) (h0 : ∀ ls', ¬ hj_J P K S V gr vr q n 4 → post 0 (nI P, nI K, S, V, sw, od, L, ls')) (h1 : ∀ ls', hj_J P K S V gr vr q n 4 → (∀ c, hj_F P K S V gr vr q n 4 c → hj_LS ls' (hj_m c n) n) → post 1 (nI P, nI K, S, V, sw, od, L, ls')) : wpY_serial post (nI P, nI K, S, V, sw, od, L, ls) := by
  refine hy_clean R (hj_br (fun hq => h0 ls (fun w => ?_)) (fun hq => hy_fJ R hnS (kind := 4) (by decide) (by decide) (Or.inr hq) (fun ls' w => br_t rfl (h0 ls' w)) (fun ls' w w2 => br_f (by decide) (h1 ls' w w2))))
  rcases w.1 with w | w
  · exact absurd w (by decide)
  · exact hq w
theorem hj_J0 (R : hj_R P K S V It gr vr sw od L q l) (hnS : n = hj_cn S P) : hj_J P K S V gr vr q n 0 ↔ hj_CX P K S V vr := by
  constructor
  · intro w
    rcases w.1 with w | w
    · exact absurd w (by decide)
    · exact w
  · intro w
    obtain ⟨c, hc, hv⟩ := hj_ex S
    rw [hj_cn4 R.1.2 R.2.2.1, ← hnS] at hc hv
    exact ⟨Or.inr w, c, hc, hv, Or.inl rfl, Or.inl (by decide), Or.inl (by decide), Or.inl (by decide)⟩
end
end
section
/-- the relation at the head of a turn -/
def i_Rel (_ : Nat) (u : SX) (v : SY) : Prop := ∃ (P K : Nat) (S V It gr vr sw od L pl ls : Nat → Int32) (q l : Nat → Nat), u = (nI P, nI K, S, V, It, L, gr, vr, pl) ∧ v = (nI P, nI K, S, V, sw, od, L, ls) ∧ hj_R P K S V It gr vr sw od L q l
theorem i_up {k : Nat} {u : SX} {v : SY} (h : i_Rel k u v) : i_Rel (k + 5) u v := h
section
variable {P K : Nat} {S V It gr vr sw od L pl : Nat → Int32} {q l : Nat → Nat} {m : Nat → Nat} {n : Nat}
variable {ls : Nat → Int32}
theorem hj_rel (R : hj_R P K S V It gr vr sw od L q l) {k : Nat} : i_Rel k (nI P, nI K, S, V, It, L, gr, vr, pl) (nI P, nI K, S, V, sw, od, L, ls) := ⟨P, K, S, V, It, gr, vr, sw, od, L, pl, ls, q, l, rfl, rfl, R⟩
theorem hx_isT0 {post : Int32 → Prop} (R : hj_R P K S V It gr vr sw od L q l) {i : Int32} (hi : ¬ ∃ j, j < P ∧ i = nI j) (h : post 0) : wpX_isTransaction post (nI P, nI K, S, V, It, L, gr, vr, pl) i := hx_isT R i (by rw [hj_b0 hi]; exact h)
theorem hx_isT1 {post : Int32 → Prop} (R : hj_R P K S V It gr vr sw od L q l) {i : Nat} (hi : i < P) (h : post 1) : wpX_isTransaction post (nI P, nI K, S, V, It, L, gr, vr, pl) (nI i) := hx_isT R (nI i) (by rw [hj_b1 ⟨i, hi, rfl⟩]; exact h)
theorem hx_isK0 {post : Int32 → Prop} (R : hj_R P K S V It gr vr sw od L q l) {i : Int32} (hi : ¬ ∃ j, j < K ∧ i = nI j) (h : post 0) : wpX_isKey post (nI P, nI K, S, V, It, L, gr, vr, pl) i := hx_isK R i (by rw [hj_b0 hi]; exact h)
theorem hx_isK1 {post : Int32 → Prop} (R : hj_R P K S V It gr vr sw od L q l) {i : Nat} (hi : i < K) (h : post 1) : wpX_isKey post (nI P, nI K, S, V, It, L, gr, vr, pl) (nI i) := hx_isK R (nI i) (by rw [hj_b1 ⟨i, hi, rfl⟩]; exact h)
theorem hy_who0 {post : Int32 → Prop} (R : hj_R P K S V It gr vr sw od L q l) {i : Int32} (hi : ¬ ∃ j, j < P ∧ i = nI j) (h : post 0) : wpY_who post (nI P, nI K, S, V, sw, od, L, ls) i := hy_who R i (by rw [hj_b0 hi]; exact h)
theorem hy_who1 {post : Int32 → Prop} (R : hj_R P K S V It gr vr sw od L q l) {i : Nat} (hi : i < P) (h : post 1) : wpY_who post (nI P, nI K, S, V, sw, od, L, ls) (nI i) := hy_who R (nI i) (by rw [hj_b1 ⟨i, hi, rfl⟩]; exact h)
theorem hy_what0 {post : Int32 → Prop} (R : hj_R P K S V It gr vr sw od L q l) {i : Int32} (hi : ¬ ∃ j, j < K ∧ i = nI j) (h : post 0) : wpY_what post (nI P, nI K, S, V, sw, od, L, ls) i := hy_what R i (by rw [hj_b0 hi]; exact h)
theorem hy_what1 {post : Int32 → Prop} (R : hj_R P K S V It gr vr sw od L q l) {i : Nat} (hi : i < K) (h : post 1) : wpY_what post (nI P, nI K, S, V, sw, od, L, ls) (nI i) := hy_what R (nI i) (by rw [hj_b1 ⟨i, hi, rfl⟩]; exact h)
end
theorem hj_clX (k : Int32) : ∃ P : Nat, 1 ≤ P ∧ P ≤ 4 ∧ ∀ post : Int32 → Prop, post (nI P) → ((1 ≤ k → ((k ≤ 4 → post k) ∧ (¬ k ≤ 4 → post 4))) ∧ (¬ 1 ≤ k → post 1)) := by
  by_cases h1 : 1 ≤ k
  · by_cases h2 : k ≤ 4
    · have h0 : ¬ k < 0 := Int32.not_lt.mpr (Int32.le_trans (by decide) h1)
      obtain ⟨j, hj, rfl⟩ := nI_of h0
      have a : 1 ≤ j := (nI_leI (a := 1) (by decide) hj).mp h1
      have b : j ≤ 4 := (nI_leI (b := 4) hj (by decide)).mp h2
      exact ⟨j, a, b, fun post h => br_t h1 (br_t h2 h)⟩
    · exact ⟨4, by decide, by decide, fun post h => br_t h1 (br_f h2 h)⟩
  · exact ⟨1, by decide, by decide, fun post h => br_f h1 h⟩
theorem i_vc0 (k0 : Int32) (k1 : Int32) : wpX_init (fun u => wpY_init (fun v => i_Rel 2 u v) k0 k1) k0 k1 := by
  obtain ⟨P, a, b, hP⟩ := hj_clX k0
  obtain ⟨K, c, d, hK⟩ := hj_clX k1
  have R := hj_R0 a b c d
  refine hP (fun r_1 => wpX_clamp (fun r_2 => wpY_init (fun v => i_Rel 2 (r_1, r_2, (fun _ => 0), (fun _ => 0), (fun _ => 0), (fun _ => 0), (fun _ => 0), (fun _ => 0), (fun _ => 0)) v) k0 k1) k1 4) ?_
  refine hK (fun r_2 => wpY_init (fun v => i_Rel 2 (nI P, r_2, (fun _ => 0), (fun _ => 0), (fun _ => 0), (fun _ => 0), (fun _ => 0), (fun _ => 0), (fun _ => 0)) v) k0 k1) ?_
  exact hP (fun z => wY_init_70 (fun v => i_Rel 2 (nI P, nI K, (fun _ => 0), (fun _ => 0), (fun _ => 0), (fun _ => 0), (fun _ => 0), (fun _ => 0), (fun _ => 0)) v) k1 z 0 0 (fun _ => 0) (fun _ => 0) (fun _ => 0) (fun _ => 0) (fun _ => 0) (fun _ => 0)) (hK (fun y => i_Rel 2 (nI P, nI K, (fun _ => 0), (fun _ => 0), (fun _ => 0), (fun _ => 0), (fun _ => 0), (fun _ => 0), (fun _ => 0)) (nI P, y, (fun _ => 0), (fun _ => 0), (fun _ => 0), (fun _ => 0), (fun _ => 0), (fun _ => 0))) (hj_rel R))
theorem i_vc_write {k : Nat} {u : SX} {v : SY} (I : i_Rel k u v) (hk : k + 5 ≤ 2562) (v1 : Int32) (v2 : Int32) : wpX_write (fun r u' => wpY_write (fun r' v' => r' = r ∧ i_Rel (k + 5) u' v') v v1 v2) u v1 v2 := by
  obtain ⟨P, K, S, V, It, gr, vr, sw, od, L, pl, ls, q, l, rfl, rfl, R⟩ := I
  have hP := R.1.2
  have hK := R.2.1.2
  unfold wpX_write wpY_write
  dsimp only
  by_cases h1 : ∃ j, j < P ∧ v1 = nI j
  · obtain ⟨i, hi, rfl⟩ := h1
    by_cases h2 : ∃ j, j < K ∧ v2 = nI j
    · obtain ⟨x, hx, rfl⟩ := h2
      have ci : (nI i).toNatClampNeg = i := nI_clamp (by omega)
      have vi : vp_in (nI i) 4 := vp_in_nI (by omega) (by omega)
      have cc : (nI (i * 4 + x)).toNatClampNeg = i * 4 + x := nI_clamp (by omega)
      have vc : vp_in (nI (i * 4 + x)) 16 := vp_in_nI (by omega) (by omega)
      obtain ⟨k0, hk0, e0⟩ := R.2.2.2.1 (i * 4 + x) (by omega)
      unfold wpX_cellOf
      dsimp only
      rw [hj_c4, ci, cc, e0, nI_1]
      refine hx_isT1 R hi (br_f (by decide) (hx_isK1 R hx (br_f (by decide) ⟨vi, br_c (fun hs => ⟨vc, pk_lt k0 2 (fun hlt => ⟨vc, vc, nm_e ⟨vc, ?_⟩⟩) (fun hlt => ?_)⟩) (fun hs => ?_)⟩)))
      · exact hy_who1 R hi (br_f (by decide) (hy_what1 R hx (br_f (by decide) ⟨vi, br_t hs ⟨vc, br_t (nI_lt (b := 2) hlt (by decide)) ⟨vc, vc, nm_e ⟨vc, rfl, hj_rel (hj_RV R (by omega))⟩⟩⟩⟩)))
      · exact hy_who1 R hi (br_f (by decide) (hy_what1 R hx (br_f (by decide) ⟨vi, br_t hs ⟨vc, br_f (nI_nlt (b := 2) hlt (by omega)) ⟨rfl, hj_rel R⟩⟩⟩)))
      · exact hy_who1 R hi (br_f (by decide) (hy_what1 R hx (br_f (by decide) ⟨vi, br_f hs ⟨rfl, hj_rel R⟩⟩)))
    · exact hx_isT1 R hi (br_f (by decide) (hx_isK0 R h2 (br_t rfl (hy_who1 R hi (br_f (by decide) (hy_what0 R h2 (br_t rfl ⟨rfl, hj_rel R⟩)))))))
  · exact hx_isT0 R h1 (br_t rfl (hy_who0 R h1 (br_t rfl ⟨rfl, hj_rel R⟩)))
theorem i_vc_readGround {k : Nat} {u : SX} {v : SY} (I : i_Rel k u v) (hk : k + 5 ≤ 2562) (v1 : Int32) (v2 : Int32) : wpX_readGround (fun r u' => wpY_readGround (fun r' v' => r' = r ∧ i_Rel (k + 5) u' v') v v1 v2) u v1 v2 := by
  obtain ⟨P, K, S, V, It, gr, vr, sw, od, L, pl, ls, q, l, rfl, rfl, R⟩ := I
  have hP := R.1.2
  have hK := R.2.1.2
  unfold wpX_readGround wpY_readGround
  dsimp only
  by_cases h1 : ∃ j, j < P ∧ v1 = nI j
  · obtain ⟨i, hi, rfl⟩ := h1
    by_cases h2 : ∃ j, j < K ∧ v2 = nI j
    · obtain ⟨x, hx, rfl⟩ := h2
      have ci : (nI i).toNatClampNeg = i := nI_clamp (by omega)
      have vi : vp_in (nI i) 4 := vp_in_nI (by omega) (by omega)
      have cc : (nI (i * 4 + x)).toNatClampNeg = i * 4 + x := nI_clamp (by omega)
      have vc : vp_in (nI (i * 4 + x)) 16 := vp_in_nI (by omega) (by omega)
      have c9 : (nI ((i * 4 + x) * 9)).toNatClampNeg = (i * 4 + x) * 9 := nI_clamp (by omega)
      have v9 : vp_in (nI ((i * 4 + x) * 9)) 144 := vp_in_nI (by omega) (by omega)
      unfold wpX_cellOf
      dsimp only
      rw [hj_c9, hj_c4, ci, cc, c9]
      refine hx_isT1 R hi (br_f (by decide) (hx_isK1 R hx (br_f (by decide) ⟨vi, br_c (fun hs => ⟨vc, nm_e ?_⟩) (fun hs => ?_)⟩)))
      · exact hy_who1 R hi (br_f (by decide) (hy_what1 R hx (br_f (by decide) ⟨vi, br_t hs ⟨v9, nm_e ⟨rfl, hj_rel (hj_Rg R _)⟩⟩⟩)))
      · exact hy_who1 R hi (br_f (by decide) (hy_what1 R hx (br_f (by decide) ⟨vi, br_f hs ⟨rfl, hj_rel R⟩⟩)))
    · exact hx_isT1 R hi (br_f (by decide) (hx_isK0 R h2 (br_t rfl (hy_who1 R hi (br_f (by decide) (hy_what0 R h2 (br_t rfl ⟨rfl, hj_rel R⟩)))))))
  · exact hx_isT0 R h1 (br_t rfl (hy_who0 R h1 (br_t rfl ⟨rfl, hj_rel R⟩)))
theorem hj_s0 (i x j v : Nat) : (nI i * 4 + nI x) * 9 + 2 * nI j + nI (v + 1) = nI ((i * 4 + x) * 9 + (2 * j + v + 1)) := by
  rw [hj_c9, show (2 : Int32) = nI 2 from rfl, pk_mul, nI_add, nI_add]
  exact congrArg nI (by omega)
theorem i_vc_read {k : Nat} {u : SX} {v : SY} (I : i_Rel k u v) (hk : k + 5 ≤ 2562) (v1 : Int32) (v2 : Int32) (v3 : Int32) (v4 : Int32) : wpX_read (fun r u' => wpY_read (fun r' v' => r' = r ∧ i_Rel (k + 5) u' v') v v1 v2 v3 v4) u v1 v2 v3 v4 := by
  obtain ⟨P, K, S, V, It, gr, vr, sw, od, L, pl, ls, q, l, rfl, rfl, R⟩ := I
  have hP := R.1.2
  have hK := R.2.1.2
  unfold wpX_read wpY_read
  dsimp only
  by_cases h1 : ∃ j, j < P ∧ v1 = nI j
  · obtain ⟨i, hi, rfl⟩ := h1
    by_cases h3 : ∃ j, j < P ∧ v3 = nI j
    · obtain ⟨j, hj, rfl⟩ := h3
      by_cases h2 : ∃ j, j < K ∧ v2 = nI j
      · obtain ⟨x, hx, rfl⟩ := h2
        have ci : (nI i).toNatClampNeg = i := nI_clamp (by omega)
        have vi : vp_in (nI i) 4 := vp_in_nI (by omega) (by omega)
        have cc : (nI (j * 4 + x)).toNatClampNeg = j * 4 + x := nI_clamp (by omega)
        have vc : vp_in (nI (j * 4 + x)) 16 := vp_in_nI (by omega) (by omega)
        obtain ⟨k0, hk0, e0⟩ := R.2.2.2.1 (j * 4 + x) (by omega)
        unfold wpX_cellOf wpX_readOf
        dsimp only
        rw [hj_c4 j x, ci, cc, e0]
        refine hx_isT1 R hi (br_f (by decide) (hx_isT1 R hj (br_f (by decide) (hx_isK1 R hx (br_f (by decide) (br_c (fun he => ?_) (fun he => ⟨vi, br_c (fun hs => br_c (fun h4 => ?_) (fun h4 => ⟨vc, br_c (fun h5 => ?_) (fun h5 => ?_)⟩)) (fun hs => ?_)⟩)))))))
        · exact hy_who1 R hi (br_f (by decide) (hy_who1 R hj (br_f (by decide) (hy_what1 R hx (br_f (by decide) (br_t he ⟨rfl, hj_rel R⟩))))))
        · exact hy_who1 R hi (br_f (by decide) (hy_who1 R hj (br_f (by decide) (hy_what1 R hx (br_f (by decide) (br_f he ⟨vi, br_t hs (br_t h4 ⟨rfl, hj_rel R⟩)⟩))))))
        · obtain ⟨w, hw, rfl⟩ := nI_of (x := v4) (Int32.not_lt.mpr (Int32.le_trans (by decide) (Int32.not_lt.mp h4)))
          have w1 : 1 ≤ w := (nI_leI (a := 1) (by decide) hw).mp (Int32.not_lt.mp h4)
          have w2 : w ≤ k0 := (nI_leI hw (by omega)).mp h5
          obtain ⟨w', rfl⟩ : ∃ w', w = w' + 1 := ⟨w - 1, by omega⟩
          have cr : (nI ((i * 4 + x) * 8 + (2 * j + w'))).toNatClampNeg = (i * 4 + x) * 8 + (2 * j + w') := nI_clamp (by omega)
          have vr1 : vp_in (nI ((i * 4 + x) * 8 + (2 * j + w'))) 128 := vp_in_nI (by omega) (by omega)
          have cs : (nI ((i * 4 + x) * 9 + (2 * j + w' + 1))).toNatClampNeg = (i * 4 + x) * 9 + (2 * j + w' + 1) := nI_clamp (by omega)
          have vs1 : vp_in (nI ((i * 4 + x) * 9 + (2 * j + w' + 1))) 144 := vp_in_nI (by omega) (by omega)
          rw [hj_ro, hj_s0, cr, cs]
          exact ⟨vr1, nm_e (hy_who1 R hi (br_f (by decide) (hy_who1 R hj (br_f (by decide) (hy_what1 R hx (br_f (by decide) (br_f he ⟨vi, br_t hs (br_f h4 (br_f (nI_nlt (a := 2) (by omega) (by decide)) ⟨vc, br_t h5 ⟨vs1, nm_e ⟨rfl, hj_rel (hj_Rv R (by omega) hx (by omega) (by omega) _)⟩⟩⟩))⟩)))))))⟩
        · exact hy_who1 R hi (br_f (by decide) (hy_who1 R hj (br_f (by decide) (hy_what1 R hx (br_f (by decide) (br_f he ⟨vi, br_t hs (br_f h4 (br_c (fun _ => ⟨rfl, hj_rel R⟩) (fun _ => ⟨vc, br_f h5 ⟨rfl, hj_rel R⟩⟩)))⟩))))))
        · exact hy_who1 R hi (br_f (by decide) (hy_who1 R hj (br_f (by decide) (hy_what1 R hx (br_f (by decide) (br_f he ⟨vi, br_f hs ⟨rfl, hj_rel R⟩⟩))))))
      · exact hx_isT1 R hi (br_f (by decide) (hx_isT1 R hj (br_f (by decide) (hx_isK0 R h2 (br_t rfl (hy_who1 R hi (br_f (by decide) (hy_who1 R hj (br_f (by decide) (hy_what0 R h2 (br_t rfl ⟨rfl, hj_rel R⟩)))))))))))
    · exact hx_isT1 R hi (br_f (by decide) (hx_isT0 R h3 (br_t rfl (hy_who1 R hi (br_f (by decide) (hy_who0 R h3 (br_t rfl ⟨rfl, hj_rel R⟩)))))))
  · exact hx_isT0 R h1 (br_t rfl (hy_who0 R h1 (br_t rfl ⟨rfl, hj_rel R⟩)))
theorem i_vc_install {k : Nat} {u : SX} {v : SY} (I : i_Rel k u v) (hk : k + 5 ≤ 2562) (v1 : Int32) (v2 : Int32) : wpX_install (fun r u' => wpY_install (fun r' v' => r' = r ∧ i_Rel (k + 5) u' v') v v1 v2) u v1 v2 := by
  obtain ⟨P, K, S, V, It, gr, vr, sw, od, L, pl, ls, q, l, rfl, rfl, R⟩ := I
  have hP := R.1.2
  have hK := R.2.1.2
  unfold wpX_install wpY_install
  dsimp only
  by_cases h1 : ∃ j, j < P ∧ v2 = nI j
  · obtain ⟨i, hi, rfl⟩ := h1
    by_cases h2 : ∃ j, j < K ∧ v1 = nI j
    · obtain ⟨x, hx, rfl⟩ := h2
      have hi4 : i < 4 := by omega
      have hx4 : x < 4 := by omega
      have cx : (nI x).toNatClampNeg = x := nI_clamp (by omega)
      have vx : vp_in (nI x) 4 := vp_in_nI (by omega) (by omega)
      have cc : (nI (i * 4 + x)).toNatClampNeg = i * 4 + x := nI_clamp (by omega)
      have vc : vp_in (nI (i * 4 + x)) 16 := vp_in_nI (by omega) (by omega)
      have hl4 := hj_l4 R hx4
      have eq := R.2.2.2.2.1 (i * 4 + x) (by omega)
      have eL := R.2.2.2.2.2.1 x hx4
      have hql := R.2.2.2.2.2.2.2.1 x hx4 i hi4
      obtain ⟨k0, hk0, e0⟩ := R.2.2.2.1 (i * 4 + x) (by omega)
      unfold wpX_cellOf
      dsimp only
      rw [hj_c4 i x, cx, cc, e0, eq, eL, nI_1, hj_c4 x (l x)]
      refine hx_isT1 R hi (br_f (by decide) (hx_isK1 R hx (br_f (by decide) (hx_wrote hi4 hx4 (hj_br (fun hw => ?_) (fun hw => ⟨vc, pk_eq (q (i * 4 + x)) 0 (fun hq => ⟨vx, vx, nm_e ⟨vx, vc, nm_e ?_⟩⟩) (fun hq => ?_)⟩))))))
      · have z : k0 = 0 := by
          have a : V (i * 4 + x) ≤ 0 := Classical.not_not.mp hw
          rw [e0] at a
          exact Nat.le_zero.mp ((nI_leI (b := 0) (by omega) (by decide)).mp a)
        subst z
        exact hy_who1 R hi (br_f (by decide) (hy_what1 R hx (br_f (by decide) ⟨vc, br_t rfl ⟨rfl, hj_rel R⟩⟩)))
      · have hl3 := hj_l3 R hx4 hi4 hq
        have k1 : 0 < k0 := by
          rcases Nat.eq_zero_or_pos k0 with z | z
          · refine absurd ?_ hw
            rw [e0, z]
            decide
          · exact z
        have co : (nI (x * 4 + l x)).toNatClampNeg = x * 4 + l x := nI_clamp (by omega)
        have vo : vp_in (nI (x * 4 + l x)) 16 := vp_in_nI (by omega) (by omega)
        have rn : hj_rn q x i = 4 + i := if_pos hq
        rw [co, pk_us]
        exact hy_who1 R hi (br_f (by decide) (hy_what1 R hx (br_f (by decide) ⟨vc, br_f (nI_ne0 k1 (by omega)) (hy_rank R hx4 hi4 (by
          rw [rn]
          exact br_f (nI_nlt (b := 4) (by omega) (by omega)) ⟨vx, br_t (nI_lt (b := 4) hl3 (by decide)) ⟨vx, vo, nm_e ⟨vx, vx, nm_e ⟨rfl, hj_rel (hj_Ri R hi4 hx4 hq)⟩⟩⟩⟩))⟩)))
      · have k1 : 0 < k0 := by
          rcases Nat.eq_zero_or_pos k0 with z | z
          · refine absurd ?_ hw
            rw [e0, z]
            decide
          · exact z
        have rn : hj_rn q x i = q (i * 4 + x) - 1 := if_neg hq
        exact hy_who1 R hi (br_f (by decide) (hy_what1 R hx (br_f (by decide) ⟨vc, br_f (nI_ne0 k1 (by omega)) (hy_rank R hx4 hi4 (by
          rw [rn]
          exact br_t (nI_lt (b := 4) (by omega) (by decide)) ⟨rfl, hj_rel R⟩))⟩)))
    · exact hx_isT1 R hi (br_f (by decide) (hx_isK0 R h2 (br_t rfl (hy_who1 R hi (br_f (by decide) (hy_what0 R h2 (br_t rfl ⟨rfl, hj_rel R⟩)))))))
  · exact hx_isT0 R h1 (br_t rfl (hy_who0 R h1 (br_t rfl ⟨rfl, hj_rel R⟩)))
theorem i_vc_commit {k : Nat} {u : SX} {v : SY} (I : i_Rel k u v) (hk : k + 5 ≤ 2562) (v1 : Int32) : wpX_commit (fun r u' => wpY_commit (fun r' v' => r' = r ∧ i_Rel (k + 5) u' v') v v1) u v1 := by
  obtain ⟨P, K, S, V, It, gr, vr, sw, od, L, pl, ls, q, l, rfl, rfl, R⟩ := I
  have hP := R.1.2
  unfold wpX_commit wpY_commit wpX_close wpY_close
  dsimp only
  by_cases h1 : ∃ j, j < P ∧ v1 = nI j
  · obtain ⟨i, hi, rfl⟩ := h1
    have ci : (nI i).toNatClampNeg = i := nI_clamp (by omega)
    have vi : vp_in (nI i) 4 := vp_in_nI (by omega) (by omega)
    rw [ci]
    exact hx_isT1 R hi (br_f (by decide) ⟨vi, br_c (fun hs => ⟨vi, nm_e (hy_who1 R hi (br_f (by decide) ⟨vi, br_t hs ⟨vi, nm_e ⟨rfl, hj_rel (hj_RS R hi 1)⟩⟩⟩))⟩) (fun hs => hy_who1 R hi (br_f (by decide) ⟨vi, br_f hs ⟨rfl, hj_rel R⟩⟩))⟩)
  · exact hx_isT0 R h1 (br_t rfl (hy_who0 R h1 (br_t rfl ⟨rfl, hj_rel R⟩)))
theorem i_vc_abort {k : Nat} {u : SX} {v : SY} (I : i_Rel k u v) (hk : k + 5 ≤ 2562) (v1 : Int32) : wpX_abort (fun r u' => wpY_abort (fun r' v' => r' = r ∧ i_Rel (k + 5) u' v') v v1) u v1 := by
  obtain ⟨P, K, S, V, It, gr, vr, sw, od, L, pl, ls, q, l, rfl, rfl, R⟩ := I
  have hP := R.1.2
  unfold wpX_abort wpY_abort wpX_close wpY_close
  dsimp only
  by_cases h1 : ∃ j, j < P ∧ v1 = nI j
  · obtain ⟨i, hi, rfl⟩ := h1
    have ci : (nI i).toNatClampNeg = i := nI_clamp (by omega)
    have vi : vp_in (nI i) 4 := vp_in_nI (by omega) (by omega)
    rw [ci]
    exact hx_isT1 R hi (br_f (by decide) ⟨vi, br_c (fun hs => ⟨vi, nm_e (hy_who1 R hi (br_f (by decide) ⟨vi, br_t hs ⟨vi, nm_e ⟨rfl, hj_rel (hj_RS R hi 2)⟩⟩⟩))⟩) (fun hs => hy_who1 R hi (br_f (by decide) ⟨vi, br_f hs ⟨rfl, hj_rel R⟩⟩))⟩)
  · exact hx_isT0 R h1 (br_t rfl (hy_who0 R h1 (br_t rfl ⟨rfl, hj_rel R⟩)))
theorem i_vc_state {k : Nat} {u : SX} {v : SY} (I : i_Rel k u v) (hk : k + 5 ≤ 2562) (v1 : Int32) : wpX_state (fun r => wpY_state (fun r' => r' = r ∧ i_Rel (k + 5) u v) v v1) u v1 := by
  obtain ⟨P, K, S, V, It, gr, vr, sw, od, L, pl, ls, q, l, rfl, rfl, R⟩ := I
  have hP := R.1.2
  unfold wpX_state wpY_state
  dsimp only
  by_cases h1 : ∃ j, j < P ∧ v1 = nI j
  · obtain ⟨i, hi, rfl⟩ := h1
    have vi : vp_in (nI i) 4 := vp_in_nI (by omega) (by omega)
    exact hx_isT1 R hi (br_f (by decide) ⟨vi, hy_who1 R hi (br_f (by decide) ⟨vi, rfl, hj_rel R⟩)⟩)
  · exact hx_isT0 R h1 (br_t rfl (hy_who0 R h1 (br_t rfl ⟨rfl, hj_rel R⟩)))
end
section
section
variable {P K : Nat} {S V It gr vr sw od L pl : Nat → Int32} {q l : Nat → Nat} {m : Nat → Nat} {n : Nat}
variable {ls : Nat → Int32}
theorem hj_n4 (R : hj_R P K S V It gr vr sw od L q l) (hnS : n = hj_cn S P) : n ≤ 4 := by
  have := hj_cn_le S P
  have := R.1.2
  omega
theorem hj_c31 {c n : Nat} (hn : n ≤ 4) (hc : c < 2 ^ (2 * n)) : c < 2 ^ 31 := by
  have := hj_p8 hn
  omega
/-- the end of Y's commitIf: the state is closed, the judgement is asked -/
theorem hy_cif {post : Int32 → SY → Prop} (R : hj_R P K S V It gr vr sw od L q l) (hnS : n = hj_cn S P) {kind : Nat} {x1 : Int32} (hk : kind ≤ 4) (h0 : ∀ ls', ¬ hj_J P K S V gr vr q n kind → wY_commitIf_101 post x1 (nI P) (nI K) S V sw od L ls') (h1 : ∀ ls', hj_J P K S V gr vr q n kind → wY_commitIf_97 post x1 (nI P) (nI K) S V sw od L ls') : (nI kind = 0 → wpY_clean (fun r_65 => (r_65 = 0 → wY_commitIf_49 post x1 (nI kind) (nI P) (nI K) S V sw od L ls) ∧ (¬ r_65 = 0 → wY_commitIf_97 post x1 (nI P) (nI K) S V sw od L ls)) (nI P, nI K, S, V, sw, od, L, ls)) ∧ (¬ nI kind = 0 → wY_commitIf_49 post x1 (nI kind) (nI P) (nI K) S V sw od L ls) := by
  have hJ0 := hj_J0 R hnS
  rcases (by omega : kind = 0 ∨ kind = 1 ∨ kind = 2 ∨ kind = 3 ∨ kind = 4) with e | e | e | e | e <;> subst e
  · exact br_t rfl (hy_clean R (hj_br (fun hq => br_f (by decide) (br_f (by decide) (br_f (by decide) (br_f (by decide) (h0 ls (fun w => hq (hJ0.mp w))))))) (fun hq => h1 ls (hJ0.mpr hq))))
  · exact br_f (by decide) (br_t rfl (hy_ordered R hnS (fun ls' w => br_t rfl (br_f (by decide) (br_f (by decide) (br_f (by decide) (h0 ls' w))))) (fun ls' w => br_f (by decide) (h1 ls' w))))
  · exact br_f (by decide) (br_f (by decide) (br_t rfl (hy_sourced R hnS (fun ls' w => br_t rfl (br_f (by decide) (br_f (by decide) (h0 ls' w)))) (fun ls' w => br_f (by decide) (h1 ls' w)))))
  · exact br_f (by decide) (br_f (by decide) (br_f (by decide) (br_t rfl (hy_snapshot R hnS (fun ls' w => br_t rfl (br_f (by decide) (h0 ls' w))) (fun ls' w => br_f (by decide) (h1 ls' w))))))
  · exact br_f (by decide) (br_f (by decide) (br_f (by decide) (br_f (by decide) (br_t rfl (hy_serial R hnS (fun ls' w => br_t rfl (h0 ls' w)) (fun ls' w _ => br_f (by decide) (h1 ls' w)))))))
end
theorem i_vc_clean {k : Nat} {u : SX} {v : SY} (I : i_Rel k u v) (hk : k + 5 ≤ 2562) : wpX_clean (fun r => wpY_clean (fun r' => r' = r ∧ i_Rel (k + 5) u v) v) u := by
  obtain ⟨P, K, S, V, It, gr, vr, sw, od, L, pl, ls, q, l, rfl, rfl, R⟩ := I
  unfold wpX_clean
  dsimp only
  exact hx_isClean R ⟨hj_nb _, hy_clean R ⟨rfl, hj_rel R⟩⟩
theorem i_vc_ordered {k : Nat} {u : SX} {v : SY} (I : i_Rel k u v) (hk : k + 5 ≤ 2562) : wpX_ordered (fun r u' => wpY_ordered (fun r' v' => r' = r ∧ i_Rel (k + 5) u' v') v) u := by
  obtain ⟨P, K, S, V, It, gr, vr, sw, od, L, pl, ls, q, l, rfl, rfl, R⟩ := I
  unfold wpX_ordered
  dsimp only
  exact hx_first R rfl (kind := 1) (by decide) (fun pl' w => br_t rfl (hy_ordered R rfl (fun _ _ => ⟨rfl, hj_rel R⟩) (fun _ w' => absurd w' w))) (fun pl' c w hF => br_f (hj_nm1 (hj_c31 (hj_n4 R rfl) hF.1)) (hy_ordered R rfl (fun _ w' => absurd w w') (fun _ _ => ⟨rfl, hj_rel R⟩)))
theorem i_vc_sourced {k : Nat} {u : SX} {v : SY} (I : i_Rel k u v) (hk : k + 5 ≤ 2562) : wpX_sourced (fun r u' => wpY_sourced (fun r' v' => r' = r ∧ i_Rel (k + 5) u' v') v) u := by
  obtain ⟨P, K, S, V, It, gr, vr, sw, od, L, pl, ls, q, l, rfl, rfl, R⟩ := I
  unfold wpX_sourced
  dsimp only
  exact hx_first R rfl (kind := 2) (by decide) (fun pl' w => br_t rfl (hy_sourced R rfl (fun _ _ => ⟨rfl, hj_rel R⟩) (fun _ w' => absurd w' w))) (fun pl' c w hF => br_f (hj_nm1 (hj_c31 (hj_n4 R rfl) hF.1)) (hy_sourced R rfl (fun _ w' => absurd w w') (fun _ _ => ⟨rfl, hj_rel R⟩)))
theorem i_vc_snapshot {k : Nat} {u : SX} {v : SY} (I : i_Rel k u v) (hk : k + 5 ≤ 2562) : wpX_snapshot (fun r u' => wpY_snapshot (fun r' v' => r' = r ∧ i_Rel (k + 5) u' v') v) u := by
  obtain ⟨P, K, S, V, It, gr, vr, sw, od, L, pl, ls, q, l, rfl, rfl, R⟩ := I
  unfold wpX_snapshot
  dsimp only
  exact hx_first R rfl (kind := 3) (by decide) (fun pl' w => br_t rfl (hy_snapshot R rfl (fun _ _ => ⟨rfl, hj_rel R⟩) (fun _ w' => absurd w' w))) (fun pl' c w hF => br_f (hj_nm1 (hj_c31 (hj_n4 R rfl) hF.1)) (hy_snapshot R rfl (fun _ w' => absurd w w') (fun _ _ => ⟨rfl, hj_rel R⟩)))
theorem i_vc_serial {k : Nat} {u : SX} {v : SY} (I : i_Rel k u v) (hk : k + 5 ≤ 2562) : wpX_serial (fun r u' => wpY_serial (fun r' v' => r' = r ∧ i_Rel (k + 5) u' v') v) u := by
  obtain ⟨P, K, S, V, It, gr, vr, sw, od, L, pl, ls, q, l, rfl, rfl, R⟩ := I
  unfold wpX_serial
  dsimp only
  exact hx_first R rfl (kind := 4) (by decide) (fun pl' w => br_t rfl (hy_serial R rfl (fun _ _ => ⟨rfl, hj_rel R⟩) (fun _ w' _ => absurd w' w))) (fun pl' c w hF => br_f (hj_nm1 (hj_c31 (hj_n4 R rfl) hF.1)) (hy_serial R rfl (fun _ w' => absurd w w') (fun _ _ _ => ⟨rfl, hj_rel R⟩)))
theorem i_vc_serialAt {k : Nat} {u : SX} {v : SY} (I : i_Rel k u v) (hk : k + 5 ≤ 2562) (v1 : Int32) : wpX_serialAt (fun r u' => wpY_serialAt (fun r' v' => r' = r ∧ i_Rel (k + 5) u' v') v v1) u v1 := by
  obtain ⟨P, K, S, V, It, gr, vr, sw, od, L, pl, ls, q, l, rfl, rfl, R⟩ := I
  have hn := hj_n4 R rfl
  unfold wpX_serialAt wpY_serialAt
  dsimp only
  refine hx_committedCount R (br_c (fun h1 => ?_) (fun h1 => br_c (fun h2 => ?_) (fun h2 => ?_)))
  · exact hy_serial R rfl (fun ls' w => hy_committed R (br_t rfl ⟨rfl, hj_rel R⟩)) (fun ls' w _ => hy_committed R (br_f (by decide) (br_t h1 ⟨rfl, hj_rel R⟩)))
  · obtain ⟨j, hj, rfl⟩ := nI_of h1
    have hjn : j < hj_cn S P := (nI_ltI hj (by omega)).mp h2
    refine hx_first R rfl (kind := 4) (by decide) (fun pl' w => br_t rfl ?_) (fun pl' c w hF => br_f (hj_nm1 (hj_c31 hn hF.1)) ?_)
    · exact hy_serial R rfl (fun ls' w' => hy_committed R (br_t rfl ⟨rfl, hj_rel R⟩)) (fun ls' w' _ => absurd w' w)
    · have hc8 := hj_p8 hn
      have hc := hF.1
      have e3 : nI j &&& 3 = nI j := by
        rw [pk_andN (by omega) 2 (by decide), Nat.mod_eq_of_lt (by omega)]
      have cj : (nI j).toNatClampNeg = j := nI_clamp (by omega)
      have vj : vp_in (nI j) 4 := vp_in_nI (by omega) (by omega)
      have hge : ¬ nI (hj_cn S P) ≤ nI j := nI_ge hjn (by omega)
      unfold wpX_memberAt
      rw [hj_mem (by omega) hn hjn, e3, cj]
      exact hy_serial R rfl (fun ls' w' => absurd w w') (fun ls' w' hl => hy_committed R (br_f (by decide) (br_f h1 (br_f hge ⟨vj, hl c hF j hjn, hj_rel R⟩))))
  · have h3 : nI (hj_cn S P) ≤ v1 := Int32.not_lt.mp h2
    exact hy_serial R rfl (fun ls' w => hy_committed R (br_t rfl ⟨rfl, hj_rel R⟩)) (fun ls' w _ => hy_committed R (br_f (by decide) (br_f h1 (br_t h3 ⟨rfl, hj_rel R⟩))))
theorem i_vc_commitIf {k : Nat} {u : SX} {v : SY} (I : i_Rel k u v) (hk : k + 5 ≤ 2562) (v1 : Int32) (v2 : Int32) : wpX_commitIf (fun r u' => wpY_commitIf (fun r' v' => r' = r ∧ i_Rel (k + 5) u' v') v v1 v2) u v1 v2 := by
  obtain ⟨P, K, S, V, It, gr, vr, sw, od, L, pl, ls, q, l, rfl, rfl, R⟩ := I
  have hP := R.1.2
  unfold wpX_commitIf wpY_commitIf
  dsimp only
  by_cases h1 : ∃ j, j < P ∧ v1 = nI j
  · obtain ⟨i, hi, rfl⟩ := h1
    have ci : (nI i).toNatClampNeg = i := nI_clamp (by omega)
    have vi : vp_in (nI i) 4 := vp_in_nI (by omega) (by omega)
    have R1 := hj_RS R hi 1
    have R2 := hj_RS R1 hi 2
    rw [ci]
    refine hx_isT1 R hi (br_f (by decide) (br_c (fun h2 => ?_) (fun h2 => br_c (fun h3 => ⟨vi, br_c (fun hs => ⟨vi, nm_e ?_⟩) (fun hs => ?_)⟩) (fun h3 => ?_))))
    · exact hy_who1 R hi (br_f (by decide) (br_t h2 ⟨rfl, hj_rel R⟩))
    · obtain ⟨kind, hkd, rfl⟩ := nI_of h2
      have hk4 : kind ≤ 4 := (nI_leI (b := 4) hkd (by decide)).mp h3
      refine hx_first R1 rfl hk4 (fun pl' w => br_t rfl ⟨vi, nm_e ?_⟩) (fun pl' c w hF => br_f (hj_nm1 (hj_c31 (hj_n4 R1 rfl) hF.1)) ?_)
      · exact hy_who1 R hi (br_f (by decide) (br_f h2 (br_t h3 ⟨vi, br_t hs ⟨vi, nm_e (hy_cif R1 rfl hk4 (fun ls' _ => br_t rfl ⟨vi, nm_r (by rw [ci]) ⟨rfl, hj_rel R2⟩⟩) (fun ls' w' => absurd w' w))⟩⟩)))
      · exact hy_who1 R hi (br_f (by decide) (br_f h2 (br_t h3 ⟨vi, br_t hs ⟨vi, nm_e (hy_cif R1 rfl hk4 (fun ls' w' => absurd w w') (fun ls' _ => br_f (by decide) ⟨rfl, hj_rel R1⟩))⟩⟩)))
    · exact hy_who1 R hi (br_f (by decide) (br_f h2 (br_t h3 ⟨vi, br_f hs ⟨rfl, hj_rel R⟩⟩)))
    · exact hy_who1 R hi (br_f (by decide) (br_f h2 (br_f h3 ⟨rfl, hj_rel R⟩)))
  · exact hx_isT0 R h1 (br_t rfl (hy_who0 R h1 (br_t rfl ⟨rfl, hj_rel R⟩)))
end

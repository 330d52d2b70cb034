/-! rows pasted from the kit's rows: pk_*, s_l; the rest is ours -/
theorem pk_us {f : Nat → Int32} {k : Nat} {x : Int32} : upd f k x k = x := if_pos rfl
theorem pk_un {f : Nat → Int32} {k j : Nat} {x : Int32} (h : j ≠ k) : upd f k x j = f j := if_neg h
theorem pk_sub {a b : Nat} (h : b ≤ a) : nI a - nI b = nI (a - b) := by
  obtain ⟨c, rfl⟩ : ∃ c, a = c + b := ⟨a - b, by omega⟩
  rw [← nI_add, Int32.add_sub_cancel, Nat.add_sub_cancel]
theorem pk_m1 (n : Nat) : nI (n + 1) + (-1) = nI n := by
  rw [← nI_1, Int32.add_assoc, show (1 : Int32) + (-1) = 0 from rfl, Int32.add_zero]
theorem pk_mul (a b : Nat) : nI a * nI b = nI (a * b) := (Int32.ofNat_mul a b).symm
theorem pk_div {a d : Nat} (ha : a < 2 ^ 31) (h0 : 0 < d) (hd : d < 2 ^ 31) : nI a / nI d = nI (a / d) := by
  apply Int32.toInt_inj.mp
  rw [lg_idiv_nonneg (by rw [nI_toInt ha]; omega) (by rw [nI_toInt hd]; omega), nI_toInt ha, nI_toInt hd, nI_toInt (Nat.lt_of_le_of_lt (Nat.div_le_self a d) ha)]
  first | rfl | exact (Int.natCast_ediv _ _).symm
theorem pk_rem {a d : Nat} (ha : a < 2 ^ 31) (h0 : 0 < d) (hd : d < 2 ^ 31) : nI a - nI a / nI d * nI d = nI (a % d) := by
  rw [pk_div ha h0 hd, pk_mul, pk_sub (Nat.div_mul_le_self a d)]
  exact congrArg nI (by have := Nat.div_add_mod' a d; omega)
theorem pk_ix (x : Int32) {n : Nat} (hn : n < 2 ^ 31) : x < 0 ∨ nI n ≤ x ∨ ∃ j : Nat, j < n ∧ x = nI j := by
  by_cases h : x < 0
  · exact Or.inl h
  · obtain ⟨j, hj, rfl⟩ := nI_of h
    by_cases h2 : j < n
    · exact Or.inr (Or.inr ⟨j, h2, rfl⟩)
    · exact Or.inr (Or.inl (nI_le (by omega) hj))
theorem pk_le {x y : Int32} {A B : Prop} (a b : Nat) (f : a ≤ b → A) (g : b < a → B) (hx : x = nI a := by rfl) (hy : y = nI b := by rfl) (ha : a < 2 ^ 31 := by omega) (hb : b < 2 ^ 31 := by omega) : (x ≤ y → A) ∧ (¬ x ≤ y → B) := by
  subst hx hy
  rw [nI_leI ha hb]
  exact ⟨f, fun z => g (by omega)⟩
theorem pk_lt {x y : Int32} {A B : Prop} (a b : Nat) (f : a < b → A) (g : b ≤ a → B) (hx : x = nI a := by rfl) (hy : y = nI b := by rfl) (ha : a < 2 ^ 31 := by omega) (hb : b < 2 ^ 31 := by omega) : (x < y → A) ∧ (¬ x < y → B) := by
  subst hx hy
  rw [nI_ltI ha hb]
  exact ⟨f, fun z => g (by omega)⟩
theorem pk_eq {x y : Int32} {A B : Prop} (a b : Nat) (f : a = b → A) (g : a ≠ b → B) (hx : x = nI a := by rfl) (hy : y = nI b := by rfl) (ha : a < 2 ^ 31 := by omega) (hb : b < 2 ^ 31 := by omega) : (x = y → A) ∧ (¬ x = y → B) := by
  subst hx hy
  rw [nI_eq ha hb]
  exact ⟨f, g⟩
theorem pk_in {x : Int32} (n N : Nat) (h : n < N) (hx : x = nI n := by rfl) (hN : N < 2 ^ 31 := by omega) : vp_in x N := by
  subst hx
  exact vp_in_nI h hN
theorem pk_cl {x : Int32} (n : Nat) (hx : x = nI n := by rfl) (h : n < 2 ^ 31 := by omega) : x.toNatClampNeg = n := by
  subst hx
  exact nI_clamp h
theorem pk_tn {n : Nat} (h : n < 2 ^ 32) : (nI n).toBitVec.toNat = n := Nat.mod_eq_of_lt h
theorem pk_and (x : Int32) {m : Int32} (k : Nat) (hm : m.toBitVec.toNat = 2 ^ k - 1) : x &&& m = nI (x.toBitVec.toNat % 2 ^ k) := by
  apply Int32.toBitVec_inj.mp
  apply BitVec.eq_of_toNat_eq
  rw [Int32.toBitVec_and, BitVec.toNat_and, hm, Nat.and_two_pow_sub_one_eq_mod]
  show _ = (BitVec.ofNat 32 _).toNat
  rw [BitVec.toNat_ofNat]
  exact (Nat.mod_eq_of_lt (Nat.lt_of_le_of_lt (Nat.mod_le _ _) x.toBitVec.isLt)).symm
theorem pk_andN {n : Nat} (h : n < 2 ^ 32) {m : Int32} (k : Nat) (hm : m.toBitVec.toNat = 2 ^ k - 1) : nI n &&& m = nI (n % 2 ^ k) := by
  rw [pk_and _ k hm, pk_tn h]
theorem pk_shl (a s : Int32) (k : Nat) (hs : (s.toBitVec.smod 32).toNat = k) : (a <<< s).toBitVec.toNat = a.toBitVec.toNat * 2 ^ k % 2 ^ 32 := by
  show (a.toBitVec <<< (s.toBitVec.smod 32).toNat).toNat = _
  rw [hs, BitVec.toNat_shiftLeft, Nat.shiftLeft_eq]
theorem pk_shlN {n : Nat} (s : Int32) (k : Nat) (hs : (s.toBitVec.smod 32).toNat = k) (h : n * 2 ^ k < 2 ^ 32) : nI n <<< s = nI (n * 2 ^ k) := by
  apply Int32.toBitVec_inj.mp
  apply BitVec.eq_of_toNat_eq
  have hn : n < 2 ^ 32 := Nat.lt_of_le_of_lt (Nat.le_mul_of_pos_right n (Nat.two_pow_pos k)) h
  rw [pk_shl _ _ k hs, pk_tn hn, pk_tn h, Nat.mod_eq_of_lt h]
theorem pk_shr (a s : Int32) (k : Nat) (hs : (s.toBitVec.smod 32).toNat = k) : (a >>> s).toInt = a.toInt >>> k := by
  show (a.toBitVec.sshiftRight (s.toBitVec.smod 32).toNat).toInt = _
  rw [hs, BitVec.toInt_sshiftRight]
  rfl
theorem pk_shrN {n : Nat} (h : n < 2 ^ 31) (s : Int32) (k : Nat) (hs : (s.toBitVec.smod 32).toNat = k) : nI n >>> s = nI (n / 2 ^ k) := by
  apply Int32.toInt_inj.mp
  have h2 : n / 2 ^ k ≤ n := Nat.div_le_self _ _
  rw [pk_shr _ _ k hs, nI_toInt h, nI_toInt (by omega), Int.shiftRight_eq_div_pow]
  rfl
theorem pk_loop {σ : Type} (W : Nat → Nat → σ → Prop) (I : Nat → σ → Prop) (e i0 : Nat) (s : σ) (hi : i0 ≤ e) (h0 : I i0 s) (hx : ∀ n s, I e s → W (n + 1) e s)
    (hs : ∀ n i s, i < e → I i s → (∀ s', I (i + 1) s' → W n (i + 1) s') → W (n + 1) i s) : ∃ n, W n i0 s :=
  ⟨e + 1, loop_i W I e hx hs (e + 1) i0 s hi (by omega) h0⟩
theorem pk_loopD {σ : Type} (W : Nat → Nat → σ → Prop) (I : Nat → σ → Prop) (hx : ∀ n s, I 0 s → W (n + 1) 0 s)
    (hs : ∀ n i s, I (i + 1) s → (∀ s', I i s' → W n i s') → W (n + 1) (i + 1) s) : ∀ (e : Nat) (s : σ), I e s → W (e + 1) e s := by
  intro e
  induction e with
  | zero => exact fun s h => hx 0 s h
  | succ e ih => exact fun s h => hs (e + 1) e s h (fun s' h' => ih s' h')
theorem pk_least (P : Nat → Prop) (h : ∃ k, P k) : ∃ k, P k ∧ ∀ j, j < k → ¬ P j := by
  obtain ⟨k, hk⟩ := h
  induction k using Nat.strongRecOn with
  | ind k ih =>
    by_cases e : ∃ j, j < k ∧ P j
    · obtain ⟨j, hj, pj⟩ := e
      exact ih j hj pj
    · exact ⟨k, hk, fun j hj pj => e ⟨j, hj, pj⟩⟩
theorem s_l : ∀ n, n < 32 → ((nI n &&& 31).toBitVec.smod 32).toNat = n := by decide +kernel

/-! ===== truth as an int ===== -/
noncomputable def hj_b (p : Prop) : Int32 := @ite Int32 p (Classical.propDecidable p) 1 0
theorem hj_b1 {p : Prop} (h : p) : hj_b p = 1 := @if_pos p (Classical.propDecidable p) h Int32 1 0
theorem hj_b0 {p : Prop} (h : ¬ p) : hj_b p = 0 := @if_neg p (Classical.propDecidable p) h Int32 1 0
theorem hj_bi {p q : Prop} (h : p ↔ q) : hj_b p = hj_b q := by rw [propext h]
theorem hj_b01 (p : Prop) : hj_b p = 0 ∨ hj_b p = 1 := by
  by_cases h : p
  · exact Or.inr (hj_b1 h)
  · exact Or.inl (hj_b0 h)
theorem hj_bz {p : Prop} : hj_b p = 0 ↔ ¬ p := by
  by_cases h : p
  · rw [hj_b1 h]
    exact ⟨fun e => absurd e (by decide), fun e => absurd h e⟩
  · rw [hj_b0 h]
    exact ⟨fun _ => h, fun _ => rfl⟩
theorem hj_br {p A B : Prop} (f : ¬ p → A) (g : p → B) : (hj_b p = 0 → A) ∧ (¬ hj_b p = 0 → B) := by
  rw [hj_bz]
  exact ⟨f, fun h => g (Classical.not_not.mp h)⟩
theorem hj_nb (p : Prop) : narrow .boolean (.int (hj_b p)) = .int (hj_b p) := by
  rcases hj_b01 p with h | h <;> rw [h] <;> rfl
/-- a branch on an array's or a local's value by a proposition that stands for it -/
theorem hj_if {c d A B : Prop} (e : c ↔ d) (f : d → A) (g : ¬ d → B) : (c → A) ∧ (¬ c → B) := ⟨fun h => f (e.mp h), fun h => g (fun z => h (e.mpr z))⟩

/-! ===== the number that stands for none ===== -/
theorem hj_m1i : (-1 : Int32).toInt = -1 := by decide
theorem hj_nm1 {a : Nat} (h : a < 2 ^ 31) : ¬ nI a = -1 := fun e => by
  have := congrArg Int32.toInt e
  rw [nI_toInt h, hj_m1i] at this
  omega
theorem hj_m1le {a : Nat} (h : a < 2 ^ 31) : (-1 : Int32) ≤ nI a := by
  rw [Int32.le_iff_toInt_le, nI_toInt h, hj_m1i]
  omega
theorem hj_m1lt {a : Nat} (h : a < 2 ^ 31) : (-1 : Int32) < nI a := by
  rw [Int32.lt_iff_toInt_lt, nI_toInt h, hj_m1i]
  omega
theorem hj_nle1 {a : Nat} (h : a < 2 ^ 31) : ¬ nI a ≤ -1 := by
  rw [Int32.le_iff_toInt_le, nI_toInt h, hj_m1i]
  omega
theorem hj_nlt1 {a : Nat} (h : a < 2 ^ 31) : ¬ nI a < -1 := by
  rw [Int32.lt_iff_toInt_lt, nI_toInt h, hj_m1i]
  omega
theorem hj_m1n0 : (-1 : Int32) < 0 := by decide

/-! ===== a list as a number: the member at a place ===== -/
def hj_m (c n a : Nat) : Nat := c / 2 ^ (2 * (n - 1 - a)) % 2 ^ 2
theorem hj_m4 (c n a : Nat) : hj_m c n a < 4 := Nat.mod_lt _ (by decide)
/-- the list has committed members alone, each once -/
def hj_Val (S : Nat → Int32) (m : Nat → Nat) (n : Nat) : Prop := ∀ a, a < n → S (m a) = 1 ∧ ∀ b, b < a → m b ≠ m a
/-- the places stand for the first n members of the list -/
def hj_PL (pl : Nat → Int32) (m : Nat → Nat) (n : Nat) : Prop := ∀ i, i < 4 → (∃ a, a < n ∧ m a = i ∧ pl i = nI a) ∨ (pl i = -1 ∧ ∀ a, a < n → m a ≠ i)
theorem hj_inj {S : Nat → Int32} {m : Nat → Nat} {n : Nat} (h : hj_Val S m n) {a b : Nat} (ha : a < n) (hb : b < n) (e : m a = m b) : a = b := by
  rcases Nat.lt_trichotomy a b with z | z | z
  · exact absurd e ((h b hb).2 a z)
  · exact z
  · exact absurd e.symm ((h a ha).2 b z)
theorem hj_at {S pl : Nat → Int32} {m : Nat → Nat} {n a : Nat} (hv : hj_Val S m n) (hp : hj_PL pl m n) (hm : ∀ a, m a < 4) (ha : a < n) : pl (m a) = nI a := by
  rcases hp (m a) (hm a) with ⟨b, hb, e, h⟩ | ⟨_, h⟩
  · rw [h, hj_inj hv hb ha e]
  · exact absurd rfl (h a ha)
theorem hj_lo {S : Nat → Int32} {m : Nat → Nat} {n P : Nat} (hv : hj_Val S m n) (hm : ∀ a, m a < 4) (hS : ∀ i, i < 4 → P ≤ i → S i = 0) {a : Nat} (ha : a < n) : m a < P := by
  rcases Nat.lt_or_ge (m a) P with h | h
  · exact h
  · have := hS (m a) (hm a) h
    rw [(hv a ha).1] at this
    exact absurd this (by decide)
/-- over pairs of transactions by their places = over pairs of places -/
theorem hj_pairs {S pl : Nat → Int32} {m : Nat → Nat} {n P : Nat} (R : Nat → Nat → Prop) (hn : n ≤ 4) (hP : P ≤ 4) (hv : hj_Val S m n) (hp : hj_PL pl m n) (hm : ∀ a, m a < 4) (hS : ∀ i, i < 4 → P ≤ i → S i = 0) : (∀ i, i < P → ∀ j, j < P → (pl i = -1 ∨ pl j ≤ pl i ∨ R i j)) ↔ (∀ b, b < n → ∀ a, a < b → R (m a) (m b)) := by
  constructor
  · intro h b hb a ha
    have han : a < n := by omega
    rcases h (m a) (hj_lo hv hm hS han) (m b) (hj_lo hv hm hS hb) with e | e | e
    · rw [hj_at hv hp hm han] at e
      exact absurd e (hj_nm1 (by omega))
    · rw [hj_at hv hp hm han, hj_at hv hp hm hb, nI_leI (by omega) (by omega)] at e
      omega
    · exact e
  · intro h i hi j hj
    rcases hp i (by omega) with ⟨a, ha, e, hpa⟩ | ⟨z, _⟩
    · rcases hp j (by omega) with ⟨b, hb, e', hpb⟩ | ⟨z', _⟩
      · rcases Nat.lt_or_ge a b with z | z
        · exact Or.inr (Or.inr (by rw [← e, ← e']; exact h b hb a z))
        · exact Or.inr (Or.inl (by rw [hpa, hpb]; exact nI_le z (by omega)))
      · exact Or.inr (Or.inl (by rw [hpa, z']; exact hj_m1le (by omega)))
    · exact Or.inl z
/-- over transactions by their place = over places -/
theorem hj_each {S pl : Nat → Int32} {m : Nat → Nat} {n P : Nat} (R : Nat → Nat → Prop) (hn : n ≤ 4) (hP : P ≤ 4) (hv : hj_Val S m n) (hp : hj_PL pl m n) (hm : ∀ a, m a < 4) (hS : ∀ i, i < 4 → P ≤ i → S i = 0) : (∀ i, i < P → (pl i = -1 ∨ ∃ a, a < n ∧ pl i = nI a ∧ R i a)) ↔ (∀ b, b < n → R (m b) b) := by
  constructor
  · intro h b hb
    rcases h (m b) (hj_lo hv hm hS hb) with e | ⟨a, ha, e, r⟩
    · rw [hj_at hv hp hm hb] at e
      exact absurd e (hj_nm1 (by omega))
    · rw [hj_at hv hp hm hb, nI_eq (by omega) (by omega)] at e
      rw [e] at r ⊢
      exact r
  · intro h i hi
    rcases hp i (by omega) with ⟨a, ha, e, hpa⟩ | ⟨z, _⟩
    · exact Or.inr ⟨a, ha, hpa, by rw [← e]; exact h a ha⟩
    · exact Or.inl z
/-- one more place is taken -/
theorem hj_plS {pl : Nat → Int32} {m : Nat → Nat} {a : Nat} (hp : hj_PL pl m a) : hj_PL (upd pl (m a) (nI a)) m (a + 1) := by
  intro i hi
  by_cases e : i = m a
  · exact Or.inl ⟨a, by omega, e.symm, by rw [e]; exact pk_us⟩
  · rcases hp i hi with ⟨b, hb, eb, h⟩ | ⟨z, h⟩
    · exact Or.inl ⟨b, by omega, eb, by rw [pk_un e]; exact h⟩
    · refine Or.inr ⟨by rw [pk_un e]; exact z, fun b hb => ?_⟩
      rcases Nat.lt_or_ge b a with y | y
      · exact h b y
      · rw [show b = a by omega]
        exact fun z => e z.symm
theorem hj_valS {S : Nat → Int32} {m : Nat → Nat} {a : Nat} (h : hj_Val S m a) (h1 : S (m a) = 1) (h2 : ∀ b, b < a → m b ≠ m a) : hj_Val S m (a + 1) := by
  intro b hb
  rcases Nat.lt_or_ge b a with y | y
  · exact h b y
  · rw [show b = a by omega]
    exact ⟨h1, h2⟩
theorem hj_valN {S pl : Nat → Int32} {m : Nat → Nat} {a n : Nat} (hp : hj_PL pl m a) (hm : ∀ a, m a < 4) (han : a < n) (h : S (m a) = 1 → pl (m a) = -1 → False) : ¬ hj_Val S m n := by
  intro hv
  refine h (hv a han).1 ?_
  rcases hp (m a) (hm a) with ⟨b, hb, e, _⟩ | ⟨z, _⟩
  · exact absurd e ((hv a han).2 b hb)
  · exact z
theorem hj_valM {S : Nat → Int32} {m : Nat → Nat} {n : Nat} : (∀ a, 0 ≤ a → a < n → S (m a) = 1 ∧ ∀ b, a < b → b < n → m b ≠ m a) ↔ hj_Val S m n := by
  constructor
  · intro h a ha
    exact ⟨(h a (by omega) ha).1, fun b hb e => (h b (by omega) (by omega)).2 a hb ha e.symm⟩
  · intro h a _ ha
    exact ⟨(h a ha).1, fun b hb hbn e => (h b hbn).2 a hb e.symm⟩

/-! ===== how many are committed ===== -/
def hj_cn (S : Nat → Int32) : Nat → Nat
  | 0 => 0
  | i + 1 => hj_cn S i + (if S i = 1 then 1 else 0)
theorem hj_cn_le (S : Nat → Int32) (i : Nat) : hj_cn S i ≤ i := by
  induction i with
  | zero => exact Nat.le_refl 0
  | succ i ih =>
    show hj_cn S i + (if S i = 1 then 1 else 0) ≤ i + 1
    split <;> omega
theorem hj_cn_P {S : Nat → Int32} {P : Nat} (hS : ∀ i, i < 4 → P ≤ i → S i = 0) : ∀ d, P + d ≤ 4 → hj_cn S (P + d) = hj_cn S P := by
  intro d
  induction d with
  | zero => intro _; rfl
  | succ d ih =>
    intro h
    show hj_cn S (P + d) + (if S (P + d) = 1 then 1 else 0) = hj_cn S P
    rw [hS (P + d) (by omega) (by omega), ih (by omega), if_neg (by decide)]
    rfl
theorem hj_cn4 {S : Nat → Int32} {P : Nat} (hP : P ≤ 4) (hS : ∀ i, i < 4 → P ≤ i → S i = 0) : hj_cn S 4 = hj_cn S P := by
  have := hj_cn_P hS (4 - P) (by omega)
  rw [show P + (4 - P) = 4 by omega] at this
  exact this

/-! ===== some list is there ===== -/
def hj_tc (t : Nat) : Nat := t % 2 + t / 2 % 2 + t / 4 % 2 + t / 8 % 2
theorem hj_ext : ∀ t, t < 16 → ∃ c, c < 2 ^ (2 * hj_tc t) ∧ ∀ a, a < hj_tc t → (t / 2 ^ (hj_m c (hj_tc t) a) % 2 = 1 ∧ ∀ b, b < a → hj_m c (hj_tc t) b ≠ hj_m c (hj_tc t) a) := by decide +kernel
theorem hj_exS (S : Nat → Int32) : ∃ t, t < 16 ∧ hj_tc t = hj_cn S 4 ∧ ∀ i, i < 4 → t / 2 ^ i % 2 = 1 → S i = 1 := by
  refine ⟨(if S 0 = 1 then 1 else 0) + (if S 1 = 1 then 2 else 0) + (if S 2 = 1 then 4 else 0) + (if S 3 = 1 then 8 else 0), ?_, ?_, ?_⟩
  · by_cases h0 : S 0 = 1 <;> by_cases h1 : S 1 = 1 <;> by_cases h2 : S 2 = 1 <;> by_cases h3 : S 3 = 1 <;> simp [h0, h1, h2, h3]
  · by_cases h0 : S 0 = 1 <;> by_cases h1 : S 1 = 1 <;> by_cases h2 : S 2 = 1 <;> by_cases h3 : S 3 = 1 <;> simp [hj_cn, hj_tc, h0, h1, h2, h3]
  · intro i hi
    rcases (by omega : i = 0 ∨ i = 1 ∨ i = 2 ∨ i = 3) with e | e | e | e <;> subst e <;> by_cases h0 : S 0 = 1 <;> by_cases h1 : S 1 = 1 <;> by_cases h2 : S 2 = 1 <;> by_cases h3 : S 3 = 1 <;> simp [h0, h1, h2, h3]
theorem hj_ex (S : Nat → Int32) : ∃ c, c < 2 ^ (2 * hj_cn S 4) ∧ hj_Val S (hj_m c (hj_cn S 4)) (hj_cn S 4) := by
  obtain ⟨t, ht, e, h⟩ := hj_exS S
  obtain ⟨c, hc, hv⟩ := hj_ext t ht
  rw [e] at hc hv
  exact ⟨c, hc, fun a ha => ⟨h _ (hj_m4 _ _ _) (hv a ha).1, (hv a ha).2⟩⟩

/-! ===== folded truths ===== -/
theorem hj_a0 {i : Nat} {g : Nat → Prop} (h : ¬ ∀ a, a < i → g a) : (0 : Int32) = hj_b (∀ a, a < i + 1 → g a) := (hj_b0 (fun z => h (fun a ha => z a (by omega)))).symm
theorem hj_aF {i : Nat} {g : Nat → Prop} (h : ¬ g i) : (0 : Int32) = hj_b (∀ a, a < i + 1 → g a) := (hj_b0 (fun z => h (z i (by omega)))).symm
theorem hj_aT {i : Nat} {g : Nat → Prop} (h : ∀ a, a < i → g a) (hi : g i) : (1 : Int32) = hj_b (∀ a, a < i + 1 → g a) := (hj_b1 (lt_s h hi)).symm
theorem hj_e1 {i : Nat} {g : Nat → Prop} (h : ∃ a, a < i ∧ g a) : (1 : Int32) = hj_b (∃ a, a < i + 1 ∧ g a) := by
  obtain ⟨a, ha, z⟩ := h
  exact (hj_b1 ⟨a, by omega, z⟩).symm
theorem hj_eT {i : Nat} {g : Nat → Prop} (hi : g i) : (1 : Int32) = hj_b (∃ a, a < i + 1 ∧ g a) := (hj_b1 ⟨i, by omega, hi⟩).symm
theorem hj_eF {i : Nat} {g : Nat → Prop} (h : ¬ ∃ a, a < i ∧ g a) (hi : ¬ g i) : (0 : Int32) = hj_b (∃ a, a < i + 1 ∧ g a) := by
  refine (hj_b0 ?_).symm
  intro ⟨a, ha, z⟩
  rcases Nat.lt_or_ge a i with y | y
  · exact h ⟨a, y, z⟩
  · rw [show a = i by omega] at z
    exact hi z
theorem hj_a00 {g : Nat → Prop} : (1 : Int32) = hj_b (∀ a, a < 0 → g a) := (hj_b1 lt_0).symm
theorem hj_e00 {g : Nat → Prop} : (0 : Int32) = hj_b (∃ a, a < 0 ∧ g a) := (hj_b0 (fun ⟨a, h, _⟩ => absurd h (Nat.not_lt_zero a))).symm

/-! ===== indexes ===== -/
theorem hj_c4 (i x : Nat) : nI i * 4 + nI x = nI (i * 4 + x) := by
  rw [show (4 : Int32) = nI 4 from rfl, pk_mul, nI_add]
theorem hj_c9 (i x : Nat) : (nI i * 4 + nI x) * 9 = nI ((i * 4 + x) * 9) := by
  rw [hj_c4, show (9 : Int32) = nI 9 from rfl, pk_mul]
theorem hj_ro (i x j v : Nat) : ((nI i * 4 + nI x) * 4 + nI j) * 2 + nI (v + 1) - 1 = nI ((i * 4 + x) * 8 + (2 * j + v)) := by
  rw [hj_c4, show (4 : Int32) = nI 4 from rfl, show (2 : Int32) = nI 2 from rfl, pk_mul, nI_add, pk_mul, nI_add]
  rw [show (1 : Int32) = nI 1 from rfl, pk_sub (by omega)]
  exact congrArg nI (by omega)
theorem hj_shc {n : Nat} (h : n ≤ 4) : (1 : Int32) <<< ((2 * nI n) &&& 31) = nI (2 ^ (2 * n)) := by
  have : ∀ n, n < 5 → (1 : Int32) <<< ((2 * nI n) &&& 31) = nI (2 ^ (2 * n)) := by decide +kernel
  exact this n (by omega)
theorem hj_p8 {n : Nat} (h : n ≤ 4) : 2 ^ (2 * n) ≤ 256 := by
  have : ∀ n, n < 5 → 2 ^ (2 * n) ≤ 256 := by decide +kernel
  exact this n (by omega)
theorem hj_mem {c n a : Nat} (hc : c < 256) (hn : n ≤ 4) (ha : a < n) : (nI c >>> ((2 * (nI n - 1 - nI a)) &&& 31)) &&& 3 = nI (hj_m c n a) := by
  have e : (2 : Int32) * (nI n - 1 - nI a) = nI (2 * (n - 1 - a)) := by
    rw [show (1 : Int32) = nI 1 from rfl, pk_sub (by omega), pk_sub (by omega), show (2 : Int32) = nI 2 from rfl, pk_mul]
  rw [e, pk_shrN (by omega) _ (2 * (n - 1 - a)) (s_l _ (by omega)), pk_andN (Nat.lt_of_le_of_lt (Nat.div_le_self _ _) (by omega)) 2 (by decide)]
  rfl

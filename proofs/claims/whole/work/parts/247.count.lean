/-! HOW MANY BITS: Integer.bitCount of numbers below 2^24; masks of hits -/
theorem nn_and (a b : Nat) : nI a &&& nI b = nI (a &&& b) := by
  apply Int32.toBitVec_inj.1
  show BitVec.ofNat 32 a &&& BitVec.ofNat 32 b = BitVec.ofNat 32 (a &&& b)
  apply BitVec.eq_of_getLsbD_eq
  intro i hi
  simp [hi]
theorem nn_or (a b : Nat) : nI a ||| nI b = nI (a ||| b) := by
  apply Int32.toBitVec_inj.1
  show BitVec.ofNat 32 a ||| BitVec.ofNat 32 b = BitVec.ofNat 32 (a ||| b)
  apply BitVec.eq_of_getLsbD_eq
  intro i hi
  simp [hi]
theorem nn_sl : ∀ n, n < 32 → ((nI n &&& 31).toBitVec.smod 32).toNat = n := by decide +kernel
theorem nn_one : ∀ n, n < 31 → (1 : Int32) <<< (nI n &&& 31) = nI (2 ^ n) := by decide +kernel
theorem an_split {m b m' b' : Nat} (hb : b < 256) (hb' : b' < 256) : (256 * m + b) &&& (256 * m' + b') = 256 * (m &&& m') + (b &&& b') := by
  have h1 : ((256 * m + b) &&& (256 * m' + b')) / 2 ^ 8 = m &&& m' := by
    rw [Nat.and_div_two_pow]
    congr 1 <;> omega
  have h2 : ((256 * m + b) &&& (256 * m' + b')) % 2 ^ 8 = b &&& b' := by
    rw [Nat.and_mod_two_pow]
    congr 1 <;> omega
  have := Nat.div_add_mod ((256 * m + b) &&& (256 * m' + b')) (2 ^ 8)
  rw [h1, h2] at this
  omega
def A1 (M n : Nat) : Nat := n - ((n / 2) &&& M)
def A2 (M n : Nat) : Nat := (n &&& M) + ((n / 4) &&& M)
def A3 (M n : Nat) : Nat := (n + n / 16) &&& M
theorem d1 : ∀ e, e < 2 → ∀ b, b < 256 → (128 * e + b / 2) &&& 0x55 = (b / 2) &&& 0x55 := by decide +kernel
theorem d2 : ∀ e, e < 4 → ∀ b, b < 256 → (64 * e + b / 4) &&& 0x33 = (b / 4) &&& 0x33 := by decide +kernel
theorem d3 : ∀ e, e < 5 → ∀ b, b < 69 → (16 * e + (b + b / 16)) &&& 0x0f = (b + b / 16) &&& 0x0f := by decide +kernel
def p8 (b : Nat) : Nat := A3 0x0f (A2 0x33 (A1 0x55 b))
theorem d4 : ∀ b, b < 256 → A1 0x55 b < 256 ∧ A2 0x33 (A1 0x55 b) < 69 ∧ A2 0x33 (A1 0x55 b) % 16 < 5 ∧ p8 b < 9 ∧ (b / 2) &&& 0x55 ≤ b := by decide +kernel
theorem a1_split {M m b : Nat} (hb : b < 256) : A1 (256 * M + 0x55) (256 * m + b) = 256 * A1 M m + A1 0x55 b := by
  unfold A1
  have e : (256 * m + b) / 2 = 256 * (m / 2) + (128 * (m % 2) + b / 2) := by omega
  rw [e, an_split (by omega) (by decide), d1 _ (by omega) _ hb]
  have h1 : m / 2 &&& M ≤ m / 2 := Nat.and_le_left
  have h2 := (d4 b hb).2.2.2.2
  omega
theorem a2_split {M m b : Nat} (hb : b < 256) : A2 (256 * M + 0x33) (256 * m + b) = 256 * A2 M m + A2 0x33 b := by
  unfold A2
  have e : (256 * m + b) / 4 = 256 * (m / 4) + (64 * (m % 4) + b / 4) := by omega
  rw [e, an_split hb (by decide), an_split (by omega) (by decide), d2 _ (by omega) _ hb]
  omega
theorem a3_split {M m b : Nat} (hb : b < 69) (hm : m % 16 < 5) : A3 (256 * M + 0x0f) (256 * m + b) = 256 * A3 M m + A3 0x0f b := by
  unfold A3
  have e : 256 * m + b + (256 * m + b) / 16 = 256 * (m + m / 16) + (16 * (m % 16) + (b + b / 16)) := by omega
  rw [e, an_split (by omega) (by decide), d3 _ hm _ hb]
/-- bits of a number of three bytes -/
def P24 (x : Nat) : Nat := p8 (x % 256) + p8 (x / 256 % 256) + p8 (x / 65536)
theorem bc_nat {x : Nat} (hx : x < 2 ^ 24) : A3 0x0f0f0f0f (A2 0x33333333 (A1 0x55555555 x)) = 256 * (256 * p8 (x / 65536) + p8 (x / 256 % 256)) + p8 (x % 256) := by
  obtain ⟨b0, b1, b2, h0, h1, h2, e⟩ : ∃ b0 b1 b2, b0 < 256 ∧ b1 < 256 ∧ b2 < 256 ∧ x = 256 * (256 * b2 + b1) + b0 := ⟨x % 256, x / 256 % 256, x / 65536, by omega, by omega, by omega, by omega⟩
  have e0 : x % 256 = b0 := by omega
  have e1 : x / 256 % 256 = b1 := by omega
  have e2 : x / 65536 = b2 := by omega
  rw [e0, e1, e2, e]
  have f0 := d4 b0 h0; have f1 := d4 b1 h1; have f2 := d4 b2 h2
  have s1 : A1 0x55555555 (256 * (256 * b2 + b1) + b0) = 256 * (256 * A1 0x55 b2 + A1 0x55 b1) + A1 0x55 b0 := by
    rw [show (0x55555555 : Nat) = 256 * 0x555555 + 0x55 from rfl, a1_split h0, show (0x555555 : Nat) = 256 * 0x5555 + 0x55 from rfl, a1_split h1]
    have : A1 0x5555 b2 = A1 0x55 b2 := by
      have := a1_split (M := 0x55) (m := 0) h2
      simpa [A1] using this
    rw [this]
  have s2 : A2 0x33333333 (256 * (256 * A1 0x55 b2 + A1 0x55 b1) + A1 0x55 b0) = 256 * (256 * A2 0x33 (A1 0x55 b2) + A2 0x33 (A1 0x55 b1)) + A2 0x33 (A1 0x55 b0) := by
    rw [show (0x33333333 : Nat) = 256 * 0x333333 + 0x33 from rfl, a2_split f0.1, show (0x333333 : Nat) = 256 * 0x3333 + 0x33 from rfl, a2_split f1.1]
    have : A2 0x3333 (A1 0x55 b2) = A2 0x33 (A1 0x55 b2) := by
      have := a2_split (M := 0x33) (m := 0) f2.1
      simpa [A2] using this
    rw [this]
  rw [s1, s2]
  have e3 : (256 * A2 0x33 (A1 0x55 b2) + A2 0x33 (A1 0x55 b1)) % 16 < 5 := by have := f1.2.2.1; omega
  have e4 : A2 0x33 (A1 0x55 b2) % 16 < 5 := f2.2.2.1
  rw [show (0x0f0f0f0f : Nat) = 256 * 0x0f0f0f + 0x0f from rfl, a3_split f0.2.1 e3, show (0x0f0f0f : Nat) = 256 * 0x0f0f + 0x0f from rfl, a3_split f1.2.1 e4]
  have : A3 0x0f0f (A2 0x33 (A1 0x55 b2)) = A3 0x0f (A2 0x33 (A1 0x55 b2)) := by
    have := a3_split (M := 0x0f) (m := 0) f2.2.1 (by decide)
    simpa [A3] using this
  rw [this]
  rfl
theorem u_sh {n : Nat} (hn : n < 2 ^ 32) (s : Int32) (k : Nat) (hs : ((s.toUInt32 &&& Int32.toUInt32 31).toBitVec % 32).toNat = k) : ((nI n).toUInt32 >>> (s.toUInt32 &&& Int32.toUInt32 31)).toInt32 = nI (n / 2 ^ k) := pk_ushrN hn s k hs
theorem w_bitCount {x : Nat} {I : Mm} {Post : Int32 → Mm → Prop} (hx : x < 2 ^ 24) (h : Post (nI (P24 x)) I) : wp_J6_bitCount_0f7a4 (nI x) I Post := by
  unfold wp_J6_bitCount_0f7a4
  have q1 : ((nI x).toUInt32 >>> ((1 : Int32).toUInt32 &&& Int32.toUInt32 31)).toInt32 = nI (x / 2) := u_sh (by omega) 1 1 (by decide)
  have l1 : x / 2 &&& 0x55555555 ≤ x / 2 := Nat.and_le_left
  have r1 : nI x - (nI (x / 2) &&& (1431655765 : Int32)) = nI (A1 0x55555555 x) := by
    rw [show (1431655765 : Int32) = nI 0x55555555 from rfl, nn_and, pk_sub (by omega)]; rfl
  have b1 : A1 0x55555555 x ≤ x := Nat.sub_le _ _
  rw [q1, r1]
  have q2 : ((nI (A1 0x55555555 x)).toUInt32 >>> ((2 : Int32).toUInt32 &&& Int32.toUInt32 31)).toInt32 = nI (A1 0x55555555 x / 4) := u_sh (by omega) 2 2 (by decide)
  have r2 : (nI (A1 0x55555555 x) &&& (858993459 : Int32)) + (nI (A1 0x55555555 x / 4) &&& (858993459 : Int32)) = nI (A2 0x33333333 (A1 0x55555555 x)) := by
    rw [show (858993459 : Int32) = nI 0x33333333 from rfl, nn_and, nn_and, nI_add]; rfl
  rw [q2, r2]
  have b2 : A2 0x33333333 (A1 0x55555555 x) ≤ 2 * x := by
    have h1 : A1 0x55555555 x &&& 0x33333333 ≤ A1 0x55555555 x := Nat.and_le_left
    have h2 : A1 0x55555555 x / 4 &&& 0x33333333 ≤ A1 0x55555555 x / 4 := Nat.and_le_left
    unfold A2; omega
  have q3 : ((nI (A2 0x33333333 (A1 0x55555555 x))).toUInt32 >>> ((4 : Int32).toUInt32 &&& Int32.toUInt32 31)).toInt32 = nI (A2 0x33333333 (A1 0x55555555 x) / 16) := u_sh (by omega) 4 4 (by decide)
  have r3 : (nI (A2 0x33333333 (A1 0x55555555 x)) + nI (A2 0x33333333 (A1 0x55555555 x) / 16)) &&& (252645135 : Int32) = nI (A3 0x0f0f0f0f (A2 0x33333333 (A1 0x55555555 x))) := by
    rw [nI_add, show (252645135 : Int32) = nI 0x0f0f0f0f from rfl, nn_and]; rfl
  rw [q3, r3, bc_nat hx]
  have c0 := (d4 (x % 256) (by omega)).2.2.2.1
  have c1 := (d4 (x / 256 % 256) (by omega)).2.2.2.1
  have c2 := (d4 (x / 65536) (by omega)).2.2.2.1
  unfold P24 at h
  generalize p8 (x % 256) = p0 at *
  generalize p8 (x / 256 % 256) = p1 at *
  generalize p8 (x / 65536) = p2 at *
  have q4 : ((nI (256 * (256 * p2 + p1) + p0)).toUInt32 >>> ((8 : Int32).toUInt32 &&& Int32.toUInt32 31)).toInt32 = nI (256 * p2 + p1) := by
    rw [u_sh (by omega) 8 8 (by decide)]; congr 1; omega
  rw [q4, nI_add]
  have q5 : ((nI (256 * (256 * p2 + p1) + p0 + (256 * p2 + p1))).toUInt32 >>> ((16 : Int32).toUInt32 &&& Int32.toUInt32 31)).toInt32 = nI p2 := by
    rw [u_sh (by omega) 16 16 (by decide)]; congr 1; omega
  rw [q5, nI_add, show (63 : Int32) = nI 63 from rfl, nn_and, show (63 : Nat) = 2 ^ 6 - 1 from rfl, Nat.and_two_pow_sub_one_eq_mod]
  rw [show (256 * (256 * p2 + p1) + p0 + (256 * p2 + p1) + p2) % 2 ^ 6 = p0 + p1 + p2 by omega]
  exact h
theorem p8_add : ∀ i, i < 8 → ∀ x, x < 2 ^ i → p8 (x + 2 ^ i) = p8 x + 1 := by decide +kernel
theorem P24_add {i x : Nat} (hi : i < 24) (hx : x < 2 ^ i) : P24 (x + 2 ^ i) = P24 x + 1 := by
  unfold P24
  rcases Nat.lt_or_ge i 8 with h | h
  · have hb : 2 ^ i ≤ 2 ^ 7 := Nat.pow_le_pow_right (by decide) (by omega)
    have := p8_add i h x hx
    rw [show (x + 2 ^ i) % 256 = x + 2 ^ i by omega, show (x + 2 ^ i) / 256 % 256 = x / 256 % 256 by omega, show (x + 2 ^ i) / 65536 = x / 65536 by omega, show x % 256 = x by omega, this]
    omega
  · rcases Nat.lt_or_ge i 16 with h2 | h2
    · obtain ⟨j, rfl⟩ : ∃ j, i = j + 8 := ⟨i - 8, by omega⟩
      have hp : 2 ^ (j + 8) = 256 * 2 ^ j := by rw [Nat.pow_add]; omega
      have hb : 2 ^ j ≤ 2 ^ 7 := Nat.pow_le_pow_right (by decide) (by omega)
      have := p8_add j (by omega) (x / 256) (by omega)
      rw [hp]
      rw [show (x + 256 * 2 ^ j) % 256 = x % 256 by omega, show (x + 256 * 2 ^ j) / 256 % 256 = x / 256 + 2 ^ j by omega, show (x + 256 * 2 ^ j) / 65536 = x / 65536 by omega, show x / 256 % 256 = x / 256 by omega, this]
      omega
    · obtain ⟨j, rfl⟩ : ∃ j, i = j + 16 := ⟨i - 16, by omega⟩
      have hp : 2 ^ (j + 16) = 65536 * 2 ^ j := by rw [Nat.pow_add]; omega
      have := p8_add j (by omega) (x / 65536) (by omega)
      rw [hp]
      rw [show (x + 65536 * 2 ^ j) % 256 = x % 256 by omega, show (x + 65536 * 2 ^ j) / 256 % 256 = x / 256 % 256 by omega, show (x + 65536 * 2 ^ j) / 65536 = x / 65536 + 2 ^ j by omega, this]
      omega
theorem or_add {i x : Nat} (h : x < 2 ^ i) : x ||| 2 ^ i = x + 2 ^ i := by
  have := Nat.two_pow_add_eq_or_of_lt h 1
  rw [Nat.mul_one] at this
  rw [Nat.or_comm, ← this, Nat.add_comm]
/-- the mask of hits of the first j asks -/
def hmk (k f : Nat) (l : List Nat) : Nat → Nat
  | 0 => 0
  | j + 1 => hmk k f l j + (if l.getD j 0 ∈ (ply k f (l.take j)).1 then 2 ^ j else 0)
theorem hmk_lt (k f : Nat) (l : List Nat) : ∀ j, hmk k f l j < 2 ^ j := by
  intro j
  induction j with
  | zero => show 0 < 2 ^ 0; decide
  | succ j ih =>
    show hmk k f l j + _ < 2 ^ (j + 1)
    rw [Nat.pow_succ]
    by_cases h : l.getD j 0 ∈ (ply k f (l.take j)).1
    · rw [if_pos h]; omega
    · rw [if_neg h]; omega
theorem ply_succ {k f j : Nat} {l : List Nat} (h : j < l.length) : ply k f (l.take (j + 1)) = stp k f (ply k f (l.take j)) (l.getD j 0) := by
  unfold ply
  rw [take_succ_getD h, List.foldl_append]; rfl
theorem hmk_cnt (k f : Nat) (l : List Nat) : ∀ j, j ≤ l.length → j ≤ 24 → P24 (hmk k f l j) + (ply k f (l.take j)).2.2 = j := by
  intro j
  induction j with
  | zero => intro _ _; show P24 0 + 0 = 0; decide
  | succ j ih =>
    intro h1 h2
    have := ih (by omega) (by omega)
    rw [ply_succ (by omega), stp_m]
    show P24 (hmk k f l j + _) + _ = _
    by_cases h : l.getD j 0 ∈ (ply k f (l.take j)).1
    · rw [if_pos h, if_pos h, P24_add (by omega) (hmk_lt k f l j)]; omega
    · rw [if_neg h, if_neg h, Nat.add_zero]; omega
/-- bit i of it -/
theorem hmk_bit (k f : Nat) (l : List Nat) : ∀ j i, i < j → hmk k f l j / 2 ^ i % 2 = if l.getD i 0 ∈ (ply k f (l.take i)).1 then 1 else 0 := by
  intro j
  induction j with
  | zero => intro i h; exact absurd h (Nat.not_lt_zero _)
  | succ j ih =>
    intro i hi
    show (hmk k f l j + _) / 2 ^ i % 2 = _
    have hlt := hmk_lt k f l j
    by_cases e : i = j
    · subst e
      by_cases h : l.getD i 0 ∈ (ply k f (l.take i)).1
      · rw [if_pos h, if_pos h, Nat.add_div_right _ (Nat.two_pow_pos i), Nat.div_eq_of_lt hlt]
      · rw [if_neg h, if_neg h, Nat.add_zero, Nat.div_eq_of_lt hlt]
    · rw [← ih i (by omega)]
      by_cases h : l.getD j 0 ∈ (ply k f (l.take j)).1
      · rw [if_pos h]
        obtain ⟨t, rfl⟩ : ∃ t, j = i + (t + 1) := ⟨j - i - 1, by omega⟩
        rw [show 2 ^ (i + (t + 1)) = 2 ^ i * (2 * 2 ^ t) by rw [Nat.pow_add, Nat.pow_succ]; congr 1; omega, Nat.add_mul_div_left _ _ (Nat.two_pow_pos i)]
        omega
      · rw [if_neg h, Nat.add_zero]

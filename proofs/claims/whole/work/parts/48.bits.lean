/-! counting bits: Integer.bitCount and the reference's own loop -/
def pu_pc : Nat → Nat → Nat
  | 0, _ => 0
  | k + 1, n => n % 2 + pu_pc k (n / 2)
theorem pu_pc0 : ∀ k, pu_pc k 0 = 0
  | 0 => rfl
  | k + 1 => by rw [pu_pc, Nat.zero_mod, Nat.zero_div, pu_pc0 k]
theorem pu_pc_add (k m : Nat) : ∀ (j a : Nat), a < 2 ^ j → pu_pc (j + k) (2 ^ j * m + a) = pu_pc j a + pu_pc k m
  | 0, a, h => by
    have : a = 0 := by simpa using h
    subst this
    simp [pu_pc]
  | j + 1, a, h => by
    have e1 : (2 ^ (j + 1) * m + a) % 2 = a % 2 := by
      rw [Nat.pow_succ, Nat.mul_assoc, Nat.mul_left_comm]
      omega
    have e2 : (2 ^ (j + 1) * m + a) / 2 = 2 ^ j * m + a / 2 := by
      rw [Nat.pow_succ, Nat.mul_assoc, Nat.mul_left_comm]
      omega
    have h2 : a / 2 < 2 ^ j := by
      rw [Nat.pow_succ] at h
      omega
    rw [show j + 1 + k = (j + k) + 1 by omega, pu_pc, pu_pc, e1, e2, pu_pc_add k m j (a / 2) h2]
    omega
theorem pu_landE (m : Nat) (h : 0 < m) : (2 * m) &&& (2 * m - 1) = 2 * (m &&& (m - 1)) := by
  apply Nat.eq_of_testBit_eq
  intro i
  cases i with
  | zero =>
    rw [Nat.testBit_and, Nat.testBit_zero, Nat.testBit_zero, Nat.testBit_zero]
    have h1 : ¬ (2 * m) % 2 = 1 := by omega
    have h2 : ¬ (2 * (m &&& (m - 1))) % 2 = 1 := by omega
    rw [decide_eq_false h1, decide_eq_false h2]
    rfl
  | succ i =>
    rw [Nat.testBit_and, Nat.testBit_succ, Nat.testBit_succ, Nat.testBit_succ, show 2 * m / 2 = m by omega, show (2 * m - 1) / 2 = m - 1 by omega, show 2 * (m &&& (m - 1)) / 2 = m &&& (m - 1) by omega, Nat.testBit_and]
theorem pu_landO (m : Nat) : (2 * m + 1) &&& (2 * m) = 2 * m := by
  apply Nat.eq_of_testBit_eq
  intro i
  cases i with
  | zero =>
    rw [Nat.testBit_and, Nat.testBit_zero, Nat.testBit_zero]
    have h1 : ¬ (2 * m) % 2 = 1 := by omega
    rw [decide_eq_false h1, Bool.and_false]
  | succ i =>
    rw [Nat.testBit_and, Nat.testBit_succ, Nat.testBit_succ, show (2 * m + 1) / 2 = m by omega, show 2 * m / 2 = m by omega, Bool.and_self]
theorem pu_pc_drop : ∀ (k n : Nat), 0 < n → n < 2 ^ k → pu_pc k (n &&& (n - 1)) + 1 = pu_pc k n
  | 0, n, h, h2 => by simp at h2; omega
  | k + 1, n, h, h2 => by
    rw [Nat.pow_succ] at h2
    rw [pu_pc, pu_pc]
    rcases Nat.mod_two_eq_zero_or_one n with e | e
    · have hm : n = 2 * (n / 2) := by omega
      generalize n / 2 = m at hm
      subst hm
      rw [pu_landE m (by omega), show 2 * (m &&& (m - 1)) % 2 = 0 by omega, show 2 * (m &&& (m - 1)) / 2 = m &&& (m - 1) by omega, show 2 * m % 2 = 0 by omega]
      have := pu_pc_drop k m (by omega) (by omega)
      omega
    · have hm : n = 2 * (n / 2) + 1 := by omega
      generalize n / 2 = m at hm
      subst hm
      rw [show 2 * m + 1 - 1 = 2 * m by omega, pu_landO m]
      rw [show 2 * m % 2 = 0 by omega, show 2 * m / 2 = m by omega, show (2 * m + 1) % 2 = 1 by omega]
      omega
theorem pu_bitsL (c : Nat) : ∀ (n a fuel : Nat), pu_pc 20 n = c → n < 2 ^ 20 → c < fuel → f_X12_bits_b4 fuel (nI a) (nI n) = some (nI (a + c)) := by
  induction c with
  | zero =>
    intro n a fuel hc hn hf
    obtain ⟨fuel, rfl⟩ : ∃ q, fuel = q + 1 := ⟨fuel - 1, by omega⟩
    have e : n = 0 := by
      rcases Nat.eq_zero_or_pos n with h | h
      · exact h
      · have := pu_pc_drop 20 n h hn
        omega
    subst e
    rw [f_X12_bits_b4, if_pos (show nI 0 = 0 from rfl), Nat.add_zero]
  | succ c ih =>
    intro n a fuel hc hn hf
    obtain ⟨fuel, rfl⟩ : ∃ q, fuel = q + 1 := ⟨fuel - 1, by omega⟩
    have h : 0 < n := by
      rcases Nat.eq_zero_or_pos n with h | h
      · rw [h, pu_pc0] at hc; omega
      · exact h
    have hd := pu_pc_drop 20 n h hn
    have hl : n &&& (n - 1) < 2 ^ 20 := Nat.and_lt_two_pow _ (by omega)
    rw [f_X12_bits_b4, if_neg (nI_ne0 h (by omega)), nI_1, show nI n - (1 : Int32) = nI (n - 1) from pk_sub (a := n) (b := 1) (by omega), fa_and, ih (n &&& (n - 1)) (a + 1) fuel (by omega) hl (by omega), show a + 1 + c = a + (c + 1) by omega]
theorem pu_bits {n : Nat} (hn : n < 2 ^ 20) : f_X12_bits (nI n) = some (nI (pu_pc 20 n)) := by
  have hb : ∀ k m, pu_pc k m ≤ k := by
    intro k
    induction k with
    | zero => intro m; exact Nat.le_refl _
    | succ k ih =>
      intro m
      rw [pu_pc]
      have := ih (m / 2)
      omega
  have := hb 20 n
  have h := pu_bitsL (pu_pc 20 n) n 0 4096 rfl hn (by omega)
  rw [Nat.zero_add] at h
  exact h
/-! the class's: by bytes -/
theorem pu_lane (a k m K : Nat) (ha : a < 2 ^ 8) (hk : k < 2 ^ 8) : (2 ^ 8 * m + a) &&& (2 ^ 8 * K + k) = 2 ^ 8 * (m &&& K) + (a &&& k) := by
  have hl : a &&& k < 2 ^ 8 := Nat.and_lt_two_pow _ hk
  apply Nat.eq_of_testBit_eq
  intro i
  rw [Nat.testBit_and, Nat.testBit_two_pow_mul_add _ ha, Nat.testBit_two_pow_mul_add _ hk, Nat.testBit_two_pow_mul_add _ hl]
  by_cases h : i < 8
  · rw [if_pos h, if_pos h, if_pos h, Nat.testBit_and]
  · rw [if_neg h, if_neg h, if_neg h, Nat.testBit_and]
def pu_S1 (M n : Nat) : Nat := n - ((n / 2) &&& M)
def pu_S2 (M n : Nat) : Nat := (n &&& M) + ((n / 4) &&& M)
def pu_S3 (M n : Nat) : Nat := (n + n / 16) &&& M
theorem pu_S1L (M m a : Nat) (ha : a < 256) : pu_S1 (2 ^ 8 * M + 85) (2 ^ 8 * m + a) = 2 ^ 8 * pu_S1 M m + pu_S1 85 a := by
  have t1 : ∀ a, a < 256 → ∀ t, t < 2 → (a / 2 + 128 * t) &&& 85 = (a / 2) &&& 85 := by decide +kernel
  have t2 : ∀ a, a < 256 → (a / 2) &&& 85 ≤ a := by decide +kernel
  have e : (2 ^ 8 * m + a) / 2 = 2 ^ 8 * (m / 2) + (a / 2 + 128 * (m % 2)) := by omega
  have hm : m % 2 < 2 := Nat.mod_lt _ (by omega)
  have l1 : (m / 2) &&& M ≤ m := Nat.le_trans Nat.and_le_left (Nat.div_le_self _ _)
  have l2 := t2 a ha
  unfold pu_S1
  rw [e, pu_lane _ 85 _ M (by omega) (by omega), t1 a ha _ hm]
  omega
theorem pu_S2L (M m p : Nat) (hp : p < 256) : pu_S2 (2 ^ 8 * M + 51) (2 ^ 8 * m + p) = 2 ^ 8 * pu_S2 M m + pu_S2 51 p := by
  have t1 : ∀ a, a < 256 → ∀ t, t < 4 → (a / 4 + 64 * t) &&& 51 = (a / 4) &&& 51 := by decide +kernel
  have e : (2 ^ 8 * m + p) / 4 = 2 ^ 8 * (m / 4) + (p / 4 + 64 * (m % 4)) := by omega
  have hm : m % 4 < 4 := Nat.mod_lt _ (by omega)
  unfold pu_S2
  rw [e, pu_lane _ 51 _ M (by omega) (by omega), pu_lane _ 51 _ M (by omega) (by omega), t1 p hp _ hm]
  omega
theorem pu_S3L (M m p : Nat) (hp : p ≤ 68) (hm : m % 16 ≤ 4) : pu_S3 (2 ^ 8 * M + 15) (2 ^ 8 * m + p) = 2 ^ 8 * pu_S3 M m + pu_S3 15 p := by
  have t1 : ∀ p, p < 69 → ∀ t, t < 5 → (p + p / 16 + 16 * t) &&& 15 = (p + p / 16) &&& 15 := by decide +kernel
  have e : 2 ^ 8 * m + p + (2 ^ 8 * m + p) / 16 = 2 ^ 8 * (m + m / 16) + (p + p / 16 + 16 * (m % 16)) := by omega
  unfold pu_S3
  rw [e, pu_lane _ 15 _ M (by omega) (by omega), t1 p (by omega) _ (by omega)]
theorem pu_byte : ∀ a, a < 256 → pu_S1 85 a < 256 ∧ pu_S2 51 (pu_S1 85 a) ≤ 68 ∧ pu_S2 51 (pu_S1 85 a) % 16 ≤ 4 ∧ pu_S3 15 (pu_S2 51 (pu_S1 85 a)) = pu_pc 8 a ∧ pu_pc 8 a ≤ 8 := by decide +kernel
theorem pu_nib : ∀ c, c < 16 → pu_S2 (2 ^ 8 * 51 + 51) (pu_S1 (2 ^ 8 * 85 + 85) c) % 16 ≤ 4 ∧ pu_S3 (2 ^ 8 * 15 + 15) (pu_S2 (2 ^ 8 * 51 + 51) (pu_S1 (2 ^ 8 * 85 + 85) c)) = pu_pc 4 c ∧ pu_pc 4 c ≤ 4 := by decide +kernel
theorem pu_swar {n : Nat} (hn : n < 2 ^ 20) : pu_S1 1431655765 n < 2 ^ 20 ∧ pu_S2 858993459 (pu_S1 1431655765 n) < 2 ^ 21 ∧ ∃ a b c, pu_S3 252645135 (pu_S2 858993459 (pu_S1 1431655765 n)) = 2 ^ 8 * (2 ^ 8 * c + b) + a ∧ a ≤ 8 ∧ b ≤ 8 ∧ c ≤ 4 ∧ pu_pc 20 n = a + (b + c) := by
  have e0 : n = 2 ^ 8 * (2 ^ 8 * (n / 65536) + n / 256 % 256) + n % 256 := by omega
  have h1 : n % 256 < 256 := Nat.mod_lt _ (by omega)
  have h2 : n / 256 % 256 < 256 := Nat.mod_lt _ (by omega)
  have h3 : n / 65536 < 16 := by omega
  generalize n % 256 = a at e0 h1
  generalize n / 256 % 256 = b at e0 h2
  generalize n / 65536 = c at e0 h3
  have pa := pu_byte a h1
  have pb := pu_byte b h2
  have pn := pu_nib c h3
  have s1 : pu_S1 1431655765 n = 2 ^ 8 * (2 ^ 8 * pu_S1 (2 ^ 8 * 85 + 85) c + pu_S1 85 b) + pu_S1 85 a := by
    rw [e0, show (1431655765 : Nat) = 2 ^ 8 * (2 ^ 8 * (2 ^ 8 * 85 + 85) + 85) + 85 from rfl, pu_S1L _ _ _ h1, pu_S1L _ _ _ h2]
  have c1 : pu_S1 (2 ^ 8 * 85 + 85) c ≤ c := Nat.sub_le _ _
  have s2 : pu_S2 858993459 (pu_S1 1431655765 n) = 2 ^ 8 * (2 ^ 8 * pu_S2 (2 ^ 8 * 51 + 51) (pu_S1 (2 ^ 8 * 85 + 85) c) + pu_S2 51 (pu_S1 85 b)) + pu_S2 51 (pu_S1 85 a) := by
    rw [s1, show (858993459 : Nat) = 2 ^ 8 * (2 ^ 8 * (2 ^ 8 * 51 + 51) + 51) + 51 from rfl, pu_S2L _ _ _ pa.1, pu_S2L _ _ _ pb.1]
  have c2 : pu_S2 (2 ^ 8 * 51 + 51) (pu_S1 (2 ^ 8 * 85 + 85) c) ≤ 2 * c := by
    have x1 : pu_S1 (2 ^ 8 * 85 + 85) c &&& (2 ^ 8 * 51 + 51) ≤ pu_S1 (2 ^ 8 * 85 + 85) c := Nat.and_le_left
    have x2 : pu_S1 (2 ^ 8 * 85 + 85) c / 4 &&& (2 ^ 8 * 51 + 51) ≤ pu_S1 (2 ^ 8 * 85 + 85) c / 4 := Nat.and_le_left
    unfold pu_S2
    omega
  refine ⟨by rw [s1]; omega, by rw [s2]; omega, pu_pc 8 a, pu_pc 8 b, pu_pc 4 c, ?_, pa.2.2.2.2, pb.2.2.2.2, pn.2.2, ?_⟩
  · rw [s2, show (252645135 : Nat) = 2 ^ 8 * (2 ^ 8 * (2 ^ 8 * 15 + 15) + 15) + 15 from rfl, pu_S3L _ _ _ pa.2.1 (by omega), pu_S3L _ _ _ pb.2.1 (by omega), pa.2.2.2.1, pb.2.2.2.1, pn.2.1]
  · rw [e0, show (20 : Nat) = 8 + 12 from rfl, pu_pc_add 12 _ 8 a h1, show (12 : Nat) = 8 + 4 from rfl, pu_pc_add 4 _ 8 b h2]
theorem pu_bitCount {n : Nat} (hn : n < 2 ^ 20) : f_J6_bitCount_0f7a4 (nI n) = some (nI (pu_pc 20 n)) := by
  obtain ⟨h1, h2, a, b, c, h3, ha, hb, hc, hp⟩ := pu_swar hn
  have e1 : nI n - ((((nI n).toUInt32 >>> ((1 : Int32).toUInt32 &&& Int32.toUInt32 31)).toInt32) &&& (1431655765 : Int32)) = nI (pu_S1 1431655765 n) := by
    rw [pk_ushrN (by omega) 1 1 (by decide), show (1431655765 : Int32) = nI 1431655765 from rfl, fa_and]
    exact pk_sub (Nat.le_trans Nat.and_le_left (Nat.div_le_self _ _))
  unfold f_J6_bitCount_0f7a4
  rw [e1]
  generalize pu_S1 1431655765 n = i1 at h1 h2 h3
  have e2 : (nI i1 &&& (858993459 : Int32)) + (((nI i1).toUInt32 >>> ((2 : Int32).toUInt32 &&& Int32.toUInt32 31)).toInt32 &&& (858993459 : Int32)) = nI (pu_S2 858993459 i1) := by
    rw [pk_ushrN (by omega) 2 2 (by decide), show (858993459 : Int32) = nI 858993459 from rfl, fa_and, fa_and, nI_add]
    rfl
  rw [e2]
  generalize pu_S2 858993459 i1 = i2 at h2 h3
  have e3 : (nI i2 + ((nI i2).toUInt32 >>> ((4 : Int32).toUInt32 &&& Int32.toUInt32 31)).toInt32) &&& (252645135 : Int32) = nI (pu_S3 252645135 i2) := by
    rw [pk_ushrN (by omega) 4 4 (by decide), show (252645135 : Int32) = nI 252645135 from rfl, nI_add, fa_and]
    rfl
  rw [e3]
  generalize pu_S3 252645135 i2 = i3 at h3
  subst h3
  rw [pk_ushrN (n := 2 ^ 8 * (2 ^ 8 * c + b) + a) (by omega) 8 8 (by decide), nI_add, pk_ushrN (by omega) 16 16 (by decide), nI_add, show (63 : Int32) = nI 63 from rfl, show (63 : Nat) = 2 ^ 6 - 1 from rfl, fa_mask, hp]
  refine congrArg some (congrArg nI ?_)
  have q1 : (2 ^ 8 * (2 ^ 8 * c + b) + a) / 2 ^ 8 = 2 ^ 8 * c + b := by omega
  have q2 : (2 ^ 8 * (2 ^ 8 * c + b) + a + (2 ^ 8 * c + b)) / 2 ^ 16 = c := by omega
  rw [q1, q2]
  omega
/-- a set of seats as a number -/
theorem pu_seatsN {x : Int32} (h : ∀ i, bt x i = true → i < 20) : ∃ n, n < 2 ^ 20 ∧ x = nI n := by
  have hx : x = nI x.toBitVec.toNat := by
    apply Int32.toBitVec_inj.mp
    show x.toBitVec = BitVec.ofNat 32 x.toBitVec.toNat
    rw [BitVec.ofNat_toNat, BitVec.setWidth_eq]
  refine ⟨x.toBitVec.toNat, ?_, hx⟩
  apply Nat.lt_pow_two_of_testBit
  intro i hi
  rw [BitVec.testBit_toNat]
  cases hb : x.toBitVec.getLsbD i
  · rfl
  · have := h i hb
    omega
theorem pu_count {x : Int32} (h : ∀ i, bt x i = true → i < 20) : ∃ k, k ≤ 20 ∧ f_J6_bitCount_0f7a4 x = some (nI k) ∧ f_X12_bits x = some (nI k) ∧ (k = 0 ↔ x = 0) := by
  obtain ⟨n, hn, rfl⟩ := pu_seatsN h
  have hb : ∀ k m, pu_pc k m ≤ k := by
    intro k
    induction k with
    | zero => intro m; exact Nat.le_refl _
    | succ k ih =>
      intro m
      rw [pu_pc]
      have := ih (m / 2)
      omega
  refine ⟨pu_pc 20 n, hb 20 n, pu_bitCount hn, pu_bits hn, ?_, ?_⟩
  · intro e
    rcases Nat.eq_zero_or_pos n with z | z
    · rw [z]; rfl
    · have := pu_pc_drop 20 n z hn
      omega
  · intro e
    rw [show (0 : Int32) = nI 0 from rfl, nI_eq (by omega) (by omega)] at e
    rw [e, pu_pc0]

/-! the first twelve of a set of seats; counting; taking the lowest away -/
def pu_cn (P : Nat → Bool) : Nat → Nat
  | 0 => 0
  | n + 1 => pu_cn P n + if P n then 1 else 0
theorem pu_cn_ext {P Q : Nat → Bool} : ∀ {n : Nat}, (∀ i, i < n → P i = Q i) → pu_cn P n = pu_cn Q n
  | 0, _ => rfl
  | n + 1, h => by rw [pu_cn, pu_cn, h n (by omega), pu_cn_ext (fun i hi => h i (by omega))]
theorem pu_cn_le (P : Nat → Bool) : ∀ n, pu_cn P n ≤ n
  | 0 => Nat.le_refl _
  | n + 1 => by
    rw [pu_cn]
    have := pu_cn_le P n
    split <;> omega
theorem pu_cn_low (P : Nat → Bool) : ∀ n, pu_cn P (n + 1) = (if P 0 then 1 else 0) + pu_cn (fun i => P (i + 1)) n
  | 0 => by rw [pu_cn, pu_cn, pu_cn]; omega
  | n + 1 => by
    rw [pu_cn, pu_cn_low P n, pu_cn]
    omega
theorem pu_pcn : ∀ k n, pu_pc k n = pu_cn (fun i => n.testBit i) k := by
  intro k
  induction k with
  | zero => intro n; rfl
  | succ k ih =>
    intro n
    rw [pu_pc, pu_cn_low, ih]
    have e1 : (if n.testBit 0 = true then 1 else 0) = n % 2 := by
      rw [Nat.testBit_zero]
      rcases Nat.mod_two_eq_zero_or_one n with h | h <;> rw [h] <;> rfl
    have e2 : (fun i => n.testBit (i + 1)) = fun i => (n / 2).testBit i := by
      funext i
      rw [Nat.testBit_succ]
    rw [e1, e2]
theorem pu_btN {n : Nat} {i : Nat} (hi : i < 32) : bt (nI n) i = n.testBit i := by
  show (BitVec.ofNat 32 n).getLsbD i = _
  rw [BitVec.getLsbD_ofNat, decide_eq_true hi, Bool.true_and]
theorem pu_countN {x : Int32} (h : ∀ i, bt x i = true → i < 20) : f_J6_bitCount_0f7a4 x = some (nI (pu_cn (bt x) 20)) ∧ f_X12_bits x = some (nI (pu_cn (bt x) 20)) ∧ (pu_cn (bt x) 20 = 0 ↔ x = 0) := by
  obtain ⟨n, hn, rfl⟩ := pu_seatsN h
  have e : pu_cn (bt (nI n)) 20 = pu_pc 20 n := by
    rw [pu_pcn]
    exact pu_cn_ext (fun i hi => pu_btN (by omega))
  rw [e]
  refine ⟨pu_bitCount hn, pu_bits hn, ?_, ?_⟩
  · intro e
    rcases Nat.eq_zero_or_pos n with z | z
    · rw [z]; rfl
    · have := pu_pc_drop 20 n z hn
      omega
  · intro e
    rw [show (0 : Int32) = nI 0 from rfl, nI_eq (by omega) (by omega)] at e
    rw [e, pu_pc0]
/-- one of the first twelve of x -/
def pu_ft (x : Int32) (i : Nat) : Bool := bt x i && decide (pu_cn (bt x) i < 12)
theorem pu_ft_cn (x : Int32) : ∀ n, pu_cn (pu_ft x) n = min 12 (pu_cn (bt x) n)
  | 0 => by rw [pu_cn, pu_cn]; omega
  | n + 1 => by
    rw [pu_cn, pu_cn, pu_ft_cn x n]
    unfold pu_ft
    by_cases q : pu_cn (bt x) n < 12
    · rw [decide_eq_true q, Bool.and_true]
      cases bt x n
      · rw [if_neg (show ¬ false = true by decide)]; omega
      · rw [if_pos rfl]; omega
    · rw [decide_eq_false q, Bool.and_false, if_neg (by decide)]
      split <;> omega
abbrev pu_FT (x : Int32) : Int32 := pu_mk (pu_ft x) 20
theorem pu_FT_bt (x : Int32) (i : Nat) : bt (pu_FT x) i = (decide (i < 20) && pu_ft x i) := pu_mk_bt _ 20 (by omega) i
theorem pu_FT_lt {x : Int32} {i : Nat} (h : bt (pu_FT x) i = true) : i < 20 ∧ bt x i = true := by
  rw [pu_FT_bt, Bool.and_eq_true] at h
  refine ⟨of_decide_eq_true h.1, ?_⟩
  have := h.2
  unfold pu_ft at this
  rw [Bool.and_eq_true] at this
  exact this.1
theorem pu_FT_cn (x : Int32) : pu_cn (bt (pu_FT x)) 20 ≤ 12 := by
  rw [pu_cn_ext (Q := pu_ft x) (fun i hi => by rw [pu_FT_bt, decide_eq_true hi, Bool.true_and]), pu_ft_cn]
  omega
theorem pu_FT0 : pu_FT 0 = 0 := by decide +kernel
theorem pu_FT_ne {x : Int32} (h : ∀ i, bt x i = true → i < 20) : pu_FT x = 0 ↔ x = 0 := by
  constructor
  · intro e
    rw [pu_mk0 (by omega)] at e
    have z : ∀ n, n ≤ 20 → pu_cn (bt x) n = 0 := by
      intro n
      induction n with
      | zero => intro _; rfl
      | succ n ih =>
        intro hn
        have e1 := e n (by omega)
        have e2 := ih (by omega)
        unfold pu_ft at e1
        rw [e2, decide_eq_true (by omega), Bool.and_true] at e1
        rw [pu_cn, e2, e1]; rfl
    exact (pu_countN h).2.2.mp (z 20 (by omega))
  · intro e; rw [e]; exact pu_FT0
theorem pu_firstTies (x : Int32) : f_X3_firstTies x = some (pu_FT x) := by
  rw [f_X3_firstTies]
  refine pu_for (fun n i (a : Int32 × Int32) => f_X3_firstTies_b6 n x a.1 a.2 i) 20 (fun i a => a = (pu_mk (pu_ft x) i, nI (min 12 (pu_cn (bt x) i)))) (fun o => o = some (pu_FT x)) ?_ ?_ 20 0 (0, 0) 4096 (by omega) (by omega) rfl
  · intro n i a hi e
    subst e
    have hc := pu_cn_le (bt x) i
    refine Or.inl ⟨(pu_mk (pu_ft x) (i + 1), nI (min 12 (pu_cn (bt x) (i + 1)))), ?_, rfl⟩
    show f_X3_firstTies_b6 (n + 1) x (pu_mk (pu_ft x) i) (nI (min 12 (pu_cn (bt x) i))) (nI i) = f_X3_firstTies_b6 n x (pu_mk (pu_ft x) (i + 1)) (nI (min 12 (pu_cn (bt x) (i + 1)))) (nI (i + 1))
    rw [f_X3_firstTies_b6, if_neg (pu_ge20 hi), pu_hb _ (by omega), pu_sb, pu_ifb, nI_1, pu_mk, pu_cn]
    have e12 : ((12 : Int32) ≤ nI (min 12 (pu_cn (bt x) i))) ↔ 12 ≤ min 12 (pu_cn (bt x) i) := nI_leI (a := 12) (b := min 12 (pu_cn (bt x) i)) (by omega) (by omega)
    unfold pu_ft
    cases bt x i
    · rw [pu_ff, pu_ff, Bool.false_and, pu_ff]; rfl
    · rw [pu_tt, pu_tt, Bool.true_and]
      by_cases q : pu_cn (bt x) i < 12
      · rw [if_neg (by rw [e12]; omega), decide_eq_true q, pu_tt, nI_1, show min 12 (pu_cn (bt x) i) + 1 = min 12 (pu_cn (bt x) i + 1) by omega]
      · rw [if_pos (by rw [e12]; omega), decide_eq_false q, pu_ff, show min 12 (pu_cn (bt x) i + 1) = min 12 (pu_cn (bt x) i) by omega]
  · intro n a e
    subst e
    show f_X3_firstTies_b6 (n + 1) x (pu_mk (pu_ft x) 20) _ (nI 20) = _
    rw [f_X3_firstTies_b6, if_pos pu_le20]
/-- the reference's cut -/
theorem pu_cutM {β : Type} (F : Nat → Int32 → Int32 → Int32 → Option β) (fin : Int32 → Option β)
    (hs : ∀ n v i c, i < 20 → F (n + 1) v (nI i) c = if bt v i = true then (if c + (1 : Int32) ≤ (12 : Int32) then F n v (nI (i + 1)) (c + 1) else F n (v &&& (((1 : Int32) <<< (nI i &&& 31)) ^^^ (-1 : Int32))) (nI (i + 1)) (c + 1)) else F n v (nI (i + 1)) c)
    (he : ∀ n v c, F (n + 1) v (nI 20) c = fin v) {x : Int32} (hx : ∀ i, bt x i = true → i < 20) : F 4096 x (nI 0) 0 = fin (pu_FT x) := by
  have key : ∀ i v, (∀ j, bt v j = if j < i then pu_ft x j else bt x j) → i = 20 → v = pu_FT x := by
    intro i v hv e
    apply b_ext
    intro j hj
    rw [hv j, pu_FT_bt, e]
    by_cases q : j < 20
    · rw [if_pos q, decide_eq_true q, Bool.true_and]
    · rw [if_neg q, decide_eq_false q, Bool.false_and]
      cases hb : bt x j
      · rfl
      · exact absurd (hx j hb) q
  refine pu_for (fun n i (a : Int32 × Int32) => F n a.1 i a.2) 20 (fun i a => (∀ j, bt a.1 j = if j < i then pu_ft x j else bt x j) ∧ a.2 = nI (pu_cn (bt x) i)) (fun o => o = fin (pu_FT x)) ?_ ?_ 20 0 (x, 0) 4096 (by omega) (by omega) ⟨fun j => by rw [if_neg (by omega)], rfl⟩
  · intro n i ⟨v, c⟩ hi ⟨hv, hc⟩
    replace hc : c = nI (pu_cn (bt x) i) := hc
    replace hv : ∀ j, bt v j = if j < i then pu_ft x j else bt x j := hv
    have hcl := pu_cn_le (bt x) i
    have e0 : bt v i = bt x i := by rw [hv i, if_neg (by omega)]
    have ef : ∀ b, bt x i = b → pu_ft x i = (b && decide (pu_cn (bt x) i < 12)) := fun b e => by unfold pu_ft; rw [e]
    show (∃ a' : Int32 × Int32, F (n + 1) v (nI i) c = F n a'.1 (nI (i + 1)) a'.2 ∧ _) ∨ _
    rw [hs n v i c hi, e0]
    have e12 : (c + (1 : Int32) ≤ (12 : Int32)) ↔ pu_cn (bt x) i + 1 ≤ 12 := by
      rw [hc, nI_1]
      exact nI_leI (a := pu_cn (bt x) i + 1) (b := 12) (by omega) (by omega)
    cases hb : bt x i
    · rw [pu_ff]
      refine Or.inl ⟨(v, c), rfl, ?_, ?_⟩
      · intro j
        show bt v j = _
        rw [hv j]
        by_cases q : j = i
        · subst q
          rw [if_neg (by omega), if_pos (by omega), ef false hb, hb, Bool.false_and]
        · by_cases q2 : j < i
          · rw [if_pos q2, if_pos (by omega)]
          · rw [if_neg q2, if_neg (by omega)]
      · show c = _
        rw [hc, pu_cn, hb]; rfl
    · rw [pu_tt]
      by_cases q : pu_cn (bt x) i < 12
      · rw [if_pos (by rw [e12]; omega)]
        refine Or.inl ⟨(v, c + 1), rfl, ?_, ?_⟩
        · intro j
          show bt v j = _
          rw [hv j]
          by_cases q1 : j = i
          · subst q1
            rw [if_neg (by omega), if_pos (by omega), ef true hb, hb, decide_eq_true q]; rfl
          · by_cases q2 : j < i
            · rw [if_pos q2, if_pos (by omega)]
            · rw [if_neg q2, if_neg (by omega)]
        · show c + 1 = _
          rw [hc, pu_cn, hb, nI_1]; rfl
      · rw [if_neg (by rw [e12]; omega)]
        refine Or.inl ⟨(v &&& (((1 : Int32) <<< (nI i &&& 31)) ^^^ (-1 : Int32)), c + 1), rfl, ?_, ?_⟩
        · intro j
          show bt (v &&& (((1 : Int32) <<< (nI i &&& 31)) ^^^ (-1 : Int32))) j = _
          rcases Nat.lt_or_ge j 32 with q32 | q32
          · rw [pu_clr v (by omega) q32, hv j]
            by_cases q1 : j = i
            · subst q1
              rw [decide_eq_true rfl, if_neg (by omega), if_pos (by omega), ef true hb, decide_eq_false q]; simp
            · rw [decide_eq_false q1]
              by_cases q2 : j < i
              · rw [if_pos q2, if_pos (by omega)]; simp
              · rw [if_neg q2, if_neg (by omega)]; simp
          · rw [if_neg (by omega)]
            have o1 : ∀ y : Int32, bt y j = false := fun y => BitVec.getLsbD_of_ge _ _ q32
            rw [o1, o1]
        · show c + 1 = _
          rw [hc, pu_cn, hb, nI_1]; rfl
  · intro n ⟨v, c⟩ ⟨hv, hc⟩
    show F (n + 1) v (nI 20) c = _
    rw [he, key 20 v hv rfl]
/-- taking the lowest away -/
theorem pu_landP : ∀ i m, m % 2 = 1 → (2 ^ i * m) &&& (2 ^ i * m - 1) = 2 ^ (i + 1) * (m / 2) := by
  intro i
  induction i with
  | zero =>
    intro m hm
    obtain ⟨q, rfl⟩ : ∃ q, m = 2 * q + 1 := ⟨m / 2, by omega⟩
    rw [Nat.pow_zero, Nat.one_mul, Nat.add_sub_cancel, pu_landO]
    omega
  | succ i ih =>
    intro m hm
    have hp : 0 < 2 ^ i * m := Nat.mul_pos (Nat.two_pow_pos i) (by omega)
    have e : 2 ^ (i + 1) * m = 2 * (2 ^ i * m) := by rw [Nat.pow_succ, Nat.mul_comm (2 ^ i) 2, Nat.mul_assoc]
    rw [e, pu_landE _ hp, ih m hm, Nat.pow_succ 2 (i + 1), Nat.mul_comm (2 ^ (i + 1)) 2, Nat.mul_assoc]
theorem pu_27720 : ∀ c, c < 13 → 1 ≤ c → ((27720 : Int32) / nI c).toInt64 = lN (27720 / c) ∧ (27720 : Int64) / (nI c).toInt64 = lN (27720 / c) ∧ c * (27720 / c) = 27720 ∧ ¬ (nI c).toInt64 = 0 := by decide +kernel

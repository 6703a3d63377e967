/-! the pure side: bits, masks, loops -/
def pu_bI (b : Bool) : Int32 := if b then 1 else 0
theorem pu_bI0 (b : Bool) : (pu_bI b = 0) = (b = false) := by cases b <;> decide
theorem pu_sb {α β : Type} (a : α) (f : α → Option β) : (some a).bind f = f a := rfl
theorem pu_ifb {α : Type} (b : Bool) (x y : α) : (if pu_bI b = 0 then x else y) = if b = true then y else x := by cases b <;> rfl
theorem pu_ff {α : Type} (x y : α) : (if false = true then x else y) = y := rfl
theorem pu_tt {α : Type} (x y : α) : (if true = true then x else y) = x := rfl
theorem pu_ge20 {i : Nat} (h : i < 20) : ¬ (20 : Int32) ≤ nI i := (nI_ge (a := i) (b := 20) h (by omega) : ¬ nI 20 ≤ nI i)
theorem pu_le20 : (20 : Int32) ≤ nI 20 := (nI_le (a := 20) (b := 20) (Nat.le_refl _) (by omega) : nI 20 ≤ nI 20)
theorem pu_bI01 (b : Bool) : kb_01 (pu_bI b) := by cases b <;> decide
theorem pu_bIt : pu_bI true = 1 := rfl
theorem pu_bIf : pu_bI false = 0 := rfl
theorem pu_1bt (i : Nat) : bt 1 i = decide (i = 0) := by
  rcases Nat.lt_or_ge i 32 with h | h
  · exact (by decide +kernel : ∀ i, i < 32 → bt 1 i = decide (i = 0)) i h
  · rw [b_big h, decide_eq_false (by omega)]
theorem pu_sh1 (n : Nat) (hn : n < 32) (i : Nat) : bt ((1 : Int32) <<< (nI n &&& 31)) i = decide (i = n) := by
  rcases Nat.lt_or_ge i 32 with h | h
  · rw [b_shl n hn _ h, pu_1bt]
    by_cases e : i = n
    · subst e; simp
    · rcases Nat.lt_or_ge i n with q | q
      · simp [e, Nat.not_le.mpr q]
      · have : ¬ i - n = 0 := by omega
        simp [e, this]
  · rw [b_big h, decide_eq_false (by omega)]
theorem pu_and1 (y : Int32) : (y &&& 1 = 1) = (bt y 0 = true) := by
  have h := pk_and y (m := 1) 1 (by decide)
  have e : bt y 0 = decide (y.toBitVec.toNat % 2 = 1) := by
    unfold bt
    rw [← BitVec.testBit_toNat, Nat.testBit_zero]
  rw [h, e]
  have q : y.toBitVec.toNat % 2 ^ 1 < 2 := Nat.mod_lt _ (by decide)
  apply propext
  rw [decide_eq_true_iff]
  constructor
  · intro h2
    have h3 : nI (y.toBitVec.toNat % 2 ^ 1) = nI 1 := h2
    rw [nI_eq (by omega) (by omega)] at h3
    exact h3
  · intro h2
    have h3 : y.toBitVec.toNat % 2 ^ 1 = 1 := h2
    rw [h3]
    rfl
theorem pu_hb (x : Int32) {i : Nat} (hi : i < 32) : f_X10_holdsBit x (nI i) = some (pu_bI (bt x i)) := by
  have e : (((x >>> (nI i &&& 31)) &&& (1 : Int32)) = 1) = (bt x i = true) := by
    rw [pu_and1, b_sshr i hi x (by omega), if_pos (by omega)]
    rfl
  unfold f_X10_holdsBit
  cases h : bt x i
  · rw [if_neg (by rw [e, h]; decide)]; rfl
  · rw [if_pos (by rw [e, h])]; rfl
theorem pu_has (x : Int32) {i : Nat} (hi : i < 32) : f_X12_has x (nI i) = some (pu_bI (bt x i)) := pu_hb x hi
/-- the set of those below N that have P -/
def pu_mk (P : Nat → Bool) : Nat → Int32
  | 0 => 0
  | n + 1 => if P n then pu_mk P n ||| ((1 : Int32) <<< (nI n &&& 31)) else pu_mk P n
theorem pu_mk_bt (P : Nat → Bool) : ∀ N, N ≤ 32 → ∀ i, bt (pu_mk P N) i = (decide (i < N) && P i)
  | 0, _, i => by rw [pu_mk, b_0]; simp
  | n + 1, h, i => by
    have ih := pu_mk_bt P n (by omega) i
    rw [pu_mk]
    by_cases hp : P n = true
    · rw [if_pos hp, b_or, ih, pu_sh1 n (by omega)]
      by_cases e : i = n
      · subst e; simp [hp]
      · have : (i < n + 1) = (i < n) := by apply propext; omega
        simp [e, this]
    · rw [if_neg hp, ih]
      by_cases e : i = n
      · subst e
        have : P i = false := by cases hh : P i <;> simp_all
        simp [this]
      · have : (i < n + 1) = (i < n) := by apply propext; omega
        simp [this]
theorem pu_mk_ext {P Q : Nat → Bool} : ∀ {N : Nat}, (∀ i, i < N → P i = Q i) → pu_mk P N = pu_mk Q N
  | 0, _ => rfl
  | n + 1, h => by rw [pu_mk, pu_mk, h n (by omega), pu_mk_ext (fun i hi => h i (by omega))]
theorem pu_mk_cut {P : Nat → Bool} {N : Nat} : ∀ {M : Nat}, N ≤ M → (∀ i, N ≤ i → i < M → P i = false) → pu_mk P M = pu_mk P N
  | 0, h, _ => by rw [show N = 0 by omega]
  | m + 1, h, hz => by
    by_cases e : N = m + 1
    · rw [e]
    · rw [pu_mk, if_neg (by rw [hz m (by omega) (by omega)]; decide)]
      exact pu_mk_cut (by omega) (fun i h1 h2 => hz i h1 (by omega))
theorem pu_mk_of {x : Int32} {N : Nat} (hN : N ≤ 32) (h : ∀ i, N ≤ i → bt x i = false) : pu_mk (bt x) N = x := by
  apply b_ext
  intro i hi
  rw [pu_mk_bt _ N hN]
  rcases Nat.lt_or_ge i N with q | q
  · simp [q]
  · rw [h i q]; simp
theorem pu_mk0 {P : Nat → Bool} {N : Nat} (hN : N ≤ 32) : (pu_mk P N = 0) = (∀ i, i < N → P i = false) := by
  apply propext
  constructor
  · intro h i hi
    have := pu_mk_bt P N hN i
    rw [h, b_0] at this
    simp [hi] at this
    exact this
  · intro h
    apply b_ext
    intro i hi
    rw [pu_mk_bt P N hN, b_0]
    rcases Nat.lt_or_ge i N with q | q
    · simp [h i q]
    · simp [Nat.not_lt.mpr q]
/-- a loop with a counter: an invariant, and what is shown of its answer -/
theorem pu_for {α β : Type} (F : Nat → Int32 → α → Option β) (N : Nat) (I : Nat → α → Prop) (Q : Option β → Prop)
    (hs : ∀ n i a, i < N → I i a → (∃ a', F (n + 1) (nI i) a = F n (nI (i + 1)) a' ∧ I (i + 1) a') ∨ Q (F (n + 1) (nI i) a))
    (he : ∀ n a, I N a → Q (F (n + 1) (nI N) a)) : ∀ (k i : Nat) (a : α) (fuel : Nat), i + k = N → k < fuel → I i a → Q (F fuel (nI i) a)
  | 0, i, a, fuel + 1, h, _, hI => by
    have e : i = N := by omega
    rw [e] at hI ⊢
    exact he fuel a hI
  | k + 1, i, a, fuel + 1, h, hf, hI => by
    rcases hs fuel i a (by omega) hI with ⟨a', e, h2⟩ | h2
    · rw [e]
      exact pu_for F N I Q hs he k (i + 1) a' fuel (by omega) (by omega) h2
    · exact h2
  | 0, _, _, 0, _, hf, _ => absurd hf (by omega)
  | _ + 1, _, _, 0, _, hf, _ => absurd hf (by omega)
/-- a loop that gathers a set -/
theorem pu_mask {β : Type} (F : Nat → Int32 → Int32 → Option β) (fin : Int32 → Option β) (N : Nat) (P : Nat → Bool)
    (hs : ∀ n i a, i < N → F (n + 1) (nI i) a = F n (nI (i + 1)) (if P i then a ||| ((1 : Int32) <<< (nI i &&& 31)) else a))
    (he : ∀ n a, F (n + 1) (nI N) a = fin a) {fuel : Nat} (hf : N < fuel) : F fuel (nI 0) 0 = fin (pu_mk P N) := by
  refine pu_for F N (fun i a => a = pu_mk P i) (fun o => o = fin (pu_mk P N)) ?_ ?_ N 0 0 fuel (by omega) hf rfl
  · intro n i a hi e
    refine Or.inl ⟨_, hs n i a hi, ?_⟩
    rw [e]
    rfl
  · intro n a e
    rw [he, e]
theorem pu_first_eq {P : Nat → Bool} {N i : Nat} (hi : i < N) (hp : P i = true) (hn : ∀ j, j < i → P j = false) : fa_first P N = i := by
  have h1 : ¬ i < fa_first P N := fun h => by rw [fa_first_no P N i h] at hp; cases hp
  rcases Nat.lt_or_ge (fa_first P N) i with h2 | h2
  · have h3 := fa_first_yes P N (by omega)
    rw [hn _ h2] at h3
    cases h3
  · omega
theorem pu_first_none {P : Nat → Bool} {N : Nat} (hn : ∀ j, j < N → P j = false) : fa_first P N = N := by
  have h1 := fa_first_le P N
  rcases Nat.lt_or_ge (fa_first P N) N with h2 | h2
  · have h3 := fa_first_yes P N h2
    rw [hn _ h2] at h3
    cases h3
  · omega
theorem pu_first_some {P : Nat → Bool} {N i : Nat} (hi : i < N) (hp : P i = true) : fa_first P N < N := by
  rcases Nat.lt_or_ge (fa_first P N) N with h2 | h2
  · exact h2
  · rw [fa_first_no P N i (by omega)] at hp
    cases hp
theorem pu_first_cong {P Q : Nat → Bool} : ∀ {N : Nat}, (∀ i, i < N → P i = Q i) → fa_first P N = fa_first Q N
  | 0, _ => rfl
  | n + 1, h => by rw [fa_first, fa_first, h n (by omega), pu_first_cong (fun i hi => h i (by omega))]
/-- a loop that looks for the first -/
theorem pu_find {β : Type} (F : Nat → Int32 → Option β) (N : Nat) (P : Nat → Bool) (y : Nat → Option β) (no : Option β)
    (hs : ∀ n i, i < N → F (n + 1) (nI i) = if P i then y i else F n (nI (i + 1))) (he : ∀ n, F (n + 1) (nI N) = no) {fuel : Nat} (hf : N < fuel) :
    F fuel (nI 0) = if fa_first P N < N then y (fa_first P N) else no := by
  refine pu_for (fun n i (_ : Unit) => F n i) N (fun i _ => ∀ j, j < i → P j = false) (fun o => o = if fa_first P N < N then y (fa_first P N) else no) ?_ ?_ N 0 () fuel (by omega) hf (fun j hj => absurd hj (by omega))
  · intro n i a hi hI
    by_cases hp : P i = true
    · refine Or.inr ?_
      rw [hs n i hi, if_pos hp, pu_first_eq hi hp hI, if_pos hi]
    · refine Or.inl ⟨(), ?_, ?_⟩
      · rw [hs n i hi, if_neg hp]
      · intro j hj
        rcases Nat.lt_or_ge j i with q | q
        · exact hI j q
        · have : j = i := by omega
          subst this
          cases hh : P j <;> simp_all
  · intro n a hI
    rw [he, pu_first_none hI, if_neg (by omega)]
theorem pu_lb (x : Int32) : f_X10_lowestBit x = some (if fa_first (bt x) 20 < 20 then nI (fa_first (bt x) 20) else -2) := by
  have h := pu_find (fun n i => f_X10_lowestBit_b2 n x i) 20 (bt x) (fun i => some (nI i)) (some (-2)) (fun n i hi => by
    rw [f_X10_lowestBit_b2, if_neg (pu_ge20 hi), pu_hb x (by omega)]
    rw [pu_sb, pu_ifb, nI_1]) (fun n => by
    rw [f_X10_lowestBit_b2, if_pos pu_le20]) (fuel := 4096) (by omega)
  rw [f_X10_lowestBit]
  refine Eq.trans h ?_
  by_cases q : fa_first (bt x) 20 < 20
  · rw [if_pos q, if_pos q]
  · rw [if_neg q, if_neg q]
theorem pu_fst (x : Int32) {N : Nat} (hN : N ≤ 32) (h : fa_first (bt x) N < N) : f_X12_first x = some (nI (fa_first (bt x) N)) := by
  rw [f_X12_first]
  refine pu_for (fun n i (_ : Unit) => f_X12_first_b2 n x i) (fa_first (bt x) N) (fun _ _ => True) (fun o => o = some (nI (fa_first (bt x) N))) ?_ ?_ (fa_first (bt x) N) 0 () 4096 (by omega) (by omega) trivial
  · intro n i a hi _
    refine Or.inl ⟨(), ?_, trivial⟩
    show f_X12_first_b2 (n + 1) x (nI i) = _
    rw [f_X12_first_b2, pu_has x (by omega), fa_first_no (bt x) N i hi, pu_sb, pu_ifb, if_neg (by decide), nI_1]
  · intro n a _
    show f_X12_first_b2 (n + 1) x (nI (fa_first (bt x) N)) = _
    rw [f_X12_first_b2, pu_has x (by omega), fa_first_yes (bt x) N h, pu_sb, pu_ifb, if_pos rfl]
/-! numbers of seats -/
theorem pu_div4 {s : Nat} (hs : s < 2 ^ 31) : nI s / (4 : Int32) = nI (s / 4) := pk_div (d := 4) hs (by omega) (by omega)
theorem pu_rem4 {s : Nat} (hs : s < 2 ^ 31) : nI s - nI s / (4 : Int32) * (4 : Int32) = nI (s % 4) := pk_rem (d := 4) hs (by omega) (by omega)
theorem pu_and3 {s : Nat} (hs : s < 2 ^ 32) : nI s &&& (3 : Int32) = nI (s % 4) := pk_andN (m := 3) hs 2 (by decide)
theorem pu_shr2 {s : Nat} (hs : s < 2 ^ 31) : nI s >>> ((2 : Int32) &&& 31) = nI (s / 4) := pk_shrN hs _ 2 (by decide)
theorem pu_shr1 {s : Nat} (hs : s < 2 ^ 31) : nI s >>> ((1 : Int32) &&& 31) = nI (s / 2) := pk_shrN hs _ 1 (by decide)
theorem pu_xor1 (s : Nat) : nI s ^^^ (1 : Int32) = nI (s ^^^ 1) := fb_xorI s 1
theorem pu_x20 : ∀ s, s < 20 → s ^^^ 1 < 20 ∧ (s ^^^ 1) ^^^ 1 = s ∧ (s ^^^ 1) % 4 = (s % 4) ^^^ 1 ∧ (s ^^^ 1) / 4 = s / 4 ∧ s ^^^ 1 ≠ s := by decide +kernel
theorem pu_inn {c N : Nat} (h : c < N) (hN : N < 2 ^ 31) : kb_in? (nI c) N := nI_in h hN
theorem pu_ne2 {n : Nat} (h : n < 2 ^ 31) : ¬ nI n = (-2 : Int32) := fun e => nI_pos h (by rw [e]; decide)
theorem pu_ne1 {n : Nat} (h : n < 2 ^ 31) : ¬ nI n = (-1 : Int32) := fun e => nI_pos h (by rw [e]; decide)

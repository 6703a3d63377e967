/-! alone: numbers of ways with none beside another -/
def pu_C : Nat → Nat → Nat
  | _, 0 => 1
  | 0, _ + 1 => 0
  | n + 1, k + 1 => pu_C n k + pu_C n (k + 1)
theorem pu_C0 (n : Nat) : pu_C n 0 = 1 := by cases n <;> rfl
theorem pu_CS (n k : Nat) : pu_C (n + 1) (k + 1) = pu_C n k + pu_C n (k + 1) := rfl
theorem pu_Cz : ∀ n k, n < k → pu_C n k = 0 := by
  intro n
  induction n with
  | zero => intro k h; cases k with
    | zero => omega
    | succ k => rfl
  | succ n ih => intro k h; cases k with
    | zero => omega
    | succ k => rw [pu_CS, ih k (by omega), ih (k + 1) (by omega)]
theorem pu_Cle : ∀ n k, pu_C n k ≤ 2 ^ n := by
  intro n
  induction n with
  | zero => intro k; cases k with
    | zero => exact Nat.le_refl _
    | succ k => exact Nat.zero_le _
  | succ n ih => intro k; cases k with
    | zero => rw [pu_C0]; exact Nat.pow_pos (by omega)
    | succ k =>
      rw [pu_CS, Nat.pow_succ]
      have := ih k
      have := ih (k + 1)
      omega
theorem pu_Ca : ∀ n k, pu_C (n + 1) (k + 1) * (k + 1) = pu_C n k * (n + 1) := by
  intro n
  induction n with
  | zero => intro k; cases k with
    | zero => rfl
    | succ k => rw [pu_CS, pu_Cz 0 (k + 1) (by omega), pu_Cz 0 (k + 1 + 1) (by omega)]; simp
  | succ n ih => intro k; cases k with
    | zero =>
      have := ih 0
      rw [pu_C0, Nat.one_mul] at this
      rw [pu_CS, pu_C0]
      omega
    | succ k =>
      have e1 := ih k
      have e2 := ih (k + 1)
      rw [pu_CS (n + 1) (k + 1), Nat.add_mul, e2, Nat.mul_add (pu_C (n + 1) (k + 1)) (k + 1) 1, e1, Nat.mul_one]
      rw [Nat.mul_add (pu_C (n + 1) (k + 1)) (n + 1) 1, Nat.mul_one]
      conv => rhs; rw [pu_CS n k, Nat.add_mul]
      rw [pu_CS n k]
      omega
def pu_aS (p j : Nat) : Nat := if j = 0 ∨ p = 0 then 0 else pu_C (p - j) (j - 1)
theorem pu_aN (p j : Nat) : pu_C (p - j) j + pu_aS p j = pu_C (p + 1 - j) j := by
  unfold pu_aS
  by_cases h0 : j = 0
  · subst h0; rw [if_pos (Or.inl rfl), pu_C0, pu_C0]
  · by_cases hp : p = 0
    · subst hp
      rw [if_pos (Or.inr rfl), pu_Cz (0 - j) j (by omega), pu_Cz (0 + 1 - j) j (by omega)]
    · rw [if_neg (fun h => h.elim h0 hp)]
      by_cases h : j ≤ p
      · obtain ⟨i, rfl⟩ : ∃ i, j = i + 1 := ⟨j - 1, by omega⟩
        have e : p + 1 - (i + 1) = (p - (i + 1)) + 1 := by omega
        rw [e, pu_CS, Nat.add_sub_cancel]
        omega
      · rw [pu_Cz (p - j) j (by omega), pu_Cz (p - j) (j - 1) (by omega), pu_Cz (p + 1 - j) j (by omega)]
/-- the class's product -/
theorem pu_apB (d k : Nat) (hd : d + k ≤ 41) : ∀ j i fuel, i + j = k → j < fuel → f_X10_apartWays_b18 fuel (nI k) (nI (d + k)) (lN (pu_C (d + i) i)) (nI (i + 1)) = some (lN (pu_C (d + k) k)) := by
  intro j
  induction j with
  | zero => intro i fuel h hf; cases fuel with
    | zero => omega
    | succ fuel =>
      have e : i = k := by omega
      subst e
      rw [f_X10_apartWays_b18, if_pos (nI_lt (by omega) (by omega))]
  | succ j ih => intro i fuel h hf; cases fuel with
    | zero => omega
    | succ fuel =>
      have hC : pu_C (d + i) i ≤ 2 ^ 41 := Nat.le_trans (pu_Cle _ _) (Nat.pow_le_pow_right (by omega) (by omega))
      have hM : pu_C (d + i) i * (d + i + 1) ≤ 2 ^ 41 * 42 := Nat.mul_le_mul hC (by omega)
      have hne : ¬ lN (i + 1) = 0 := fun z => absurd ((lN_eq (a := i + 1) (b := 0) (by omega) (by omega)).mp z) (by omega)
      have e1 : nI (d + k) - nI k + nI (i + 1) = nI (d + i + 1) := by
        rw [pk_sub (by omega), nI_add, show d + k - k + (i + 1) = d + i + 1 by omega]
      have e2 : pu_C (d + i) i * (d + i + 1) / (i + 1) = pu_C (d + (i + 1)) (i + 1) := by
        rw [← pu_Ca, Nat.mul_div_cancel _ (by omega)]; rfl
      rw [f_X10_apartWays_b18, if_neg (nI_nlt (by omega) (by omega)), nI_l (show i + 1 < 2 ^ 31 by omega), if_pos hne, e1, nI_l (show d + i + 1 < 2 ^ 31 by omega), lN_mul, pk_lDiv (Nat.lt_of_le_of_lt hM (by decide)) (by omega) (by omega), e2, nI_1]
      exact ih (i + 1) fuel (by omega) (by omega)
theorem pu_apart {n k : Nat} (h1 : 1 ≤ n) (hn : n ≤ 40) (hk : k ≤ 40) : f_X10_apartWays (nI n) (nI k) = some (lN (pu_C (n + 1 - k) k)) := by
  have c : ∀ n, n < 41 → ∀ k, k < 41 → (nI k ≤ nI n - nI k + (1 : Int32) ↔ 2 * k ≤ n + 1) := by decide +kernel
  rw [f_X10_apartWays]
  by_cases q : 2 * k ≤ n + 1
  · rw [if_pos ((c n (by omega) k (by omega)).mpr q), pk_sub (by omega), nI_1]
    have e := pu_apB (n + 1 - k - k) k (by omega) k 0 4096 (by omega) (by omega)
    rw [pu_C0, show n + 1 - k - k + k = n - k + 1 by omega] at e
    rw [show n + 1 - k = n - k + 1 by omega]
    exact e
  · rw [if_neg (fun z => q ((c n (by omega) k (by omega)).mp z)), pu_Cz _ _ (by omega)]
    rfl
/-- the reference's rows -/
def pu_aR (p : Nat) (z1 : OpenT) (z2 : ShutT) (j : Nat) : Prop := yOpen_r z1 j = lN (pu_C (p - j) j) ∧ yShut_r z2 j = lN (pu_aS p j)
theorem pu_alI (k70 : Int32 → Int32 → Int32 → MOT → OpenT → ShutT → Option (Int64 × MOT × OpenT × ShutT)) (p : Nat) (v1 v2 v3 : Int32) (z0 : MOT) : ∀ m fuel z1 z2, m ≤ 41 → m < fuel → (∀ j, j < m → pu_aR p z1 z2 j) → (∀ j, m ≤ j → j < 41 → pu_aR (p + 1) z1 z2 j) → ∃ z1' z2', f_X12_alone_b79 k70 fuel v1 v2 v3 (nI m + (-1 : Int32)) z0 z1 z2 = k70 v1 v2 (v3 + (1 : Int32)) z0 z1' z2' ∧ ∀ j, j < 41 → pu_aR (p + 1) z1' z2' j := by
  intro m
  induction m with
  | zero => intro fuel z1 z2 _ hf _ h2; cases fuel with
    | zero => omega
    | succ fuel =>
      refine ⟨z1, z2, ?_, fun j hj => h2 j (by omega) hj⟩
      rw [f_X12_alone_b79, if_pos (show nI 0 + (-1 : Int32) < 0 by decide)]
  | succ m ih => intro fuel z1 z2 hm hf h1 h2; cases fuel with
    | zero => omega
    | succ fuel =>
      have st : ∀ s0, s0 = lN (pu_aS (p + 1) m) → ∃ z1' z2', f_X12_alone_b102 k70 (f_X12_alone_b79 k70 fuel) v1 v2 v3 (nI m) s0 z0 z1 z2 = k70 v1 v2 (v3 + (1 : Int32)) z0 z1' z2' ∧ ∀ j, j < 41 → pu_aR (p + 1) z1' z2' j := by
        intro s0 hs
        rw [f_X12_alone_b102, f_X12_alone_b121, f_X12_alone_b130]
        simp only [if_pos (pu_inn (c := m) (N := 42) (by omega) (by omega)), nI_clamp (show m < 2 ^ 31 by omega)]
        refine ih fuel _ _ (by omega) (by omega) ?_ ?_
        · intro j hj
          obtain ⟨a, b⟩ := h1 j (by omega)
          constructor
          · show vp_updL (yOpen_r z1) m _ j = _
            rw [pk_uLn (by omega), a]
          · show vp_updL (yShut_r z2) m _ j = _
            rw [pk_uLn (by omega), b]
        · intro j hj hj2
          by_cases e : j = m
          · subst e
            obtain ⟨a, b⟩ := h1 j (by omega)
            constructor
            · show vp_updL (yOpen_r z1) j (yOpen_r z1 j + yShut_r z2 j) j = _
              rw [pk_uLs, a, b, lN_add, pu_aN]
            · show vp_updL (yShut_r z2) j s0 j = _
              rw [pk_uLs, hs]
          · obtain ⟨a, b⟩ := h2 j (by omega) hj2
            constructor
            · show vp_updL (yOpen_r z1) m _ j = _
              rw [pk_uLn e, a]
            · show vp_updL (yShut_r z2) m _ j = _
              rw [pk_uLn e, b]
      rw [pk_m1, f_X12_alone_b79, if_neg (nI_pos (by omega))]
      by_cases e : m = 0
      · subst e
        rw [if_pos (show nI 0 = 0 from rfl)]
        exact st 0 rfl
      · rw [if_neg (nI_ne0 (by omega) (by omega))]
        have e1 : nI m - (1 : Int32) = nI (m - 1) := pk_sub (a := m) (b := 1) (by omega)
        rw [e1, if_pos (pu_inn (by omega) (by omega)), nI_clamp (by omega)]
        refine st _ ?_
        rw [(h1 (m - 1) (by omega)).1]
        unfold pu_aS
        rw [if_neg (by omega), show p + 1 - m = p - (m - 1) by omega]
theorem pu_alO (n k : Nat) (hn : n ≤ 40) (hk : k ≤ 40) (z0 : MOT) : ∀ j p fuel z1 z2, p + j = n → j < fuel → (∀ j, j < 41 → pu_aR p z1 z2 j) → ∃ z1' z2', f_X12_alone_b70 fuel (nI n) (nI k) (nI p) z0 z1 z2 = some (lN (pu_C (n + 1 - k) k), mo_set_where (mo_set_trouble z0 0) (-1), z1', z2') := by
  intro j
  induction j with
  | zero => intro p fuel z1 z2 h hf hr; cases fuel with
    | zero => omega
    | succ fuel =>
      have e : p = n := by omega
      subst e
      refine ⟨z1, z2, ?_⟩
      rw [f_X12_alone_b70, if_pos (nI_le (Nat.le_refl _) (by omega)), if_pos (pu_inn (by omega) (by omega)), if_pos (pu_inn (by omega) (by omega)), nI_clamp (by omega), (hr k (by omega)).1, (hr k (by omega)).2, lN_add, pu_aN]
      rfl
  | succ j ih => intro p fuel z1 z2 h hf hr; cases fuel with
    | zero => omega
    | succ fuel =>
      obtain ⟨z1', z2', e, hr'⟩ := pu_alI (f_X12_alone_b70 fuel) p (nI n) (nI k) (nI p) z0 41 4096 z1 z2 (by omega) (by omega) hr (fun j h1 h2 => by omega)
      rw [f_X12_alone_b70, if_neg (nI_ge (by omega) (by omega))]
      rw [show nI 41 + (-1 : Int32) = 40 by decide, nI_1] at e
      rw [e]
      exact ih (p + 1) fuel z1' z2' (by omega) (by omega) hr'
theorem pu_al0 (n k : Nat) (hn : n ≤ 40) (hk : k ≤ 40) (z0 : MOT) : ∀ j i fuel z1 z2, i + j = 41 → j < fuel → (∀ j, j < i → pu_aR 0 z1 z2 j) → ∃ z1' z2', f_X12_alone_b34 fuel (nI n) (nI k) (nI i) z0 z1 z2 = some (lN (pu_C (n + 1 - k) k), mo_set_where (mo_set_trouble z0 0) (-1), z1', z2') := by
  intro j
  induction j with
  | zero => intro i fuel z1 z2 h hf hr; cases fuel with
    | zero => omega
    | succ fuel =>
      have e : i = 41 := by omega
      subst e
      rw [f_X12_alone_b34, if_pos (show (40 : Int32) < nI 41 by decide)]
      exact pu_alO n k hn hk z0 n 0 4096 z1 z2 (by omega) (by omega) hr
  | succ j ih => intro i fuel z1 z2 h hf hr; cases fuel with
    | zero => omega
    | succ fuel =>
      have st : ∀ s0, s0 = lN (pu_C (0 - i) i) → ∃ z1' z2', f_X12_alone_b54 (f_X12_alone_b34 fuel) (nI n) (nI k) (nI i) s0 (nI i) z0 z1 z2 = some (lN (pu_C (n + 1 - k) k), mo_set_where (mo_set_trouble z0 0) (-1), z1', z2') := by
        intro s0 hs
        rw [f_X12_alone_b54, f_X12_alone_b55, f_X12_alone_b62]
        simp only [if_pos (pu_inn (c := i) (N := 42) (by omega) (by omega)), nI_clamp (show i < 2 ^ 31 by omega), nI_1]
        refine ih (i + 1) fuel _ _ (by omega) (by omega) ?_
        intro j hj
        by_cases e : j = i
        · subst e
          constructor
          · show vp_updL (yOpen_r z1) j s0 j = _
            rw [pk_uLs, hs]
          · show vp_updL (yShut_r z2) j 0 j = _
            rw [pk_uLs]; unfold pu_aS; rw [if_pos (Or.inr rfl)]; rfl
        · obtain ⟨a, b⟩ := hr j (by omega)
          constructor
          · show vp_updL (yOpen_r z1) i _ j = _
            rw [pk_uLn e, a]
          · show vp_updL (yShut_r z2) i _ j = _
            rw [pk_uLn e, b]
      rw [f_X12_alone_b34, if_neg (show ¬ (40 : Int32) < nI i from nI_nlt (a := 40) (b := i) (by omega) (by omega))]
      by_cases e : i = 0
      · subst e
        rw [if_pos (show nI 0 = 0 from rfl)]
        exact st 1 rfl
      · rw [if_neg (nI_ne0 (by omega) (by omega))]
        exact st 0 (by rw [pu_Cz _ _ (by omega)]; rfl)
theorem pu_alone (tp : TopT) (mo : MOT) (z1 : OpenT) (z2 : ShutT) (x y : Int32) : ∃ v t z1' z2', ¬ t = (4 : Int32) ∧ f_X10_alone tp x y = some (v, tp_set_latestTrouble tp t) ∧ f_X12_alone mo z1 z2 x y = some (v, pu_mt mo t, z1', z2') := by
  rw [f_X10_alone, f_X12_alone, f_X12_alone_b5]
  rcases pu_placesX x with ⟨n, h1, hn, rfl, e1, e2⟩ | ⟨e1, e2⟩
  · rw [e1, e2, pu_sb, pu_sb, if_neg pu_10, if_neg pu_10]
    rcases pu_inM y (n := 40) (by omega) with ⟨⟨k, hk, rfl⟩, e⟩ | ⟨q, e⟩
    · have e' : f_X12_in (nI k) (0 : Int32) (40 : Int32) = some 1 := e
      obtain ⟨z1', z2', e3⟩ := pu_al0 n k hn (by omega) (mo_set_thrown mo 0) 41 0 4096 z1 z2 (by omega) (by omega) (fun j h => by omega)
      rw [e', pu_sb, if_neg pu_10, if_neg (nI_pos (by omega)), if_pos (show nI k ≤ (40 : Int32) from nI_le (a := k) (b := 40) (by omega) (by omega)), pu_apart h1 hn (by omega), pu_sb]
      exact ⟨_, 0, z1', z2', by decide, rfl, e3⟩
    · have e' : f_X12_in y (0 : Int32) (40 : Int32) = some 0 := e
      rw [e', pu_sb, if_pos rfl]
      by_cases c : y < 0
      · rw [if_pos c]; exact ⟨_, 2, z1, z2, by decide, rfl, rfl⟩
      · have q4 : (41 : Int32) ≤ y := q.resolve_left c
        rw [if_neg c, if_neg (fun z => absurd (Int32.le_trans q4 z) (by decide))]
        exact ⟨_, 2, z1, z2, by decide, rfl, rfl⟩
  · rw [e1, e2, pu_sb, pu_sb, if_pos rfl, if_pos rfl]
    exact ⟨_, 2, z1, z2, by decide, rfl, rfl⟩

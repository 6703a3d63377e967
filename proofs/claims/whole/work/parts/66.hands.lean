/-! dealt: the class's next hand reads and writes the first N places only -/
section PM
/-- the first N places alike -/
def pu_HR (N : Nat) (d d' : DealsT) : Prop := ∀ j, j < N → de_hand d j = de_hand d' j
/-- both run alike, and touch the hand alone -/
def pu_OR (N : Nat) (d d' : DealsT) (o o' : Option DealsT) : Prop := (o = none ∧ o' = none) ∨ ∃ e e', o = some e ∧ o' = some e' ∧ pu_HR N e e' ∧ e = de_set_hand d (de_hand e) ∧ e' = de_set_hand d' (de_hand e')
theorem pu_OR_bind {N : Nat} {d d' : DealsT} {o o' : Option DealsT} (h : pu_OR N d d' o o') {F F' : DealsT → Option DealsT} (hF : ∀ e e', pu_HR N e e' → pu_OR N e e' (F e) (F' e')) : pu_OR N d d' (o.bind F) (o'.bind F') := by
  rcases h with ⟨a, b⟩ | ⟨e, e', a, b, c, k, k'⟩
  · rw [a, b]; exact Or.inl ⟨rfl, rfl⟩
  · rw [a, b, pu_sb, pu_sb]
    rcases hF e e' c with ⟨x, y⟩ | ⟨g, g', x, y, z, u, u'⟩
    · exact Or.inl ⟨x, y⟩
    · refine Or.inr ⟨g, g', x, y, z, ?_, ?_⟩
      · rw [u, k]; rfl
      · rw [u', k']; rfl
theorem pu_in6e {x : Int32} (c : kb_in? x 6) : ∃ k, k < 6 ∧ x = nI k := by
  obtain ⟨j, hj, rfl⟩ := nI_of (fun q => c (Or.inl q))
  have := kb_inlt c
  rw [nI_clamp hj] at this
  exact ⟨j, this, rfl⟩
theorem pu_swapR {N : Nat} {d d' : DealsT} (h : pu_HR N d d') (x y : Int32) (hx : x.toNatClampNeg < N) (hy : y.toNatClampNeg < N) : pu_OR N d d' (f_X1_swap d x y) (f_X1_swap d' x y) := by
  rw [f_X1_swap, f_X1_swap]
  by_cases c1 : kb_in? x 6
  · by_cases c2 : kb_in? y 6
    · simp only [if_pos c1, if_pos c2]
      rw [f_X1_swap_b19, f_X1_swap_b19, if_pos c2, if_pos c2, f_X1_swap_b26, f_X1_swap_b26]
      refine Or.inr ⟨_, _, rfl, rfl, ?_, rfl, rfl⟩
      intro j hj
      show upd (upd (de_hand d) x.toNatClampNeg (de_hand d y.toNatClampNeg)) y.toNatClampNeg (de_hand d x.toNatClampNeg) j = upd (upd (de_hand d') x.toNatClampNeg (de_hand d' y.toNatClampNeg)) y.toNatClampNeg (de_hand d' x.toNatClampNeg) j
      rw [h _ hx, h _ hy]
      by_cases e : j = y.toNatClampNeg
      · subst e; rw [pu_upS, pu_upS]
      · rw [pu_upN _ _ e, pu_upN _ _ e]
        by_cases e2 : j = x.toNatClampNeg
        · subst e2; rw [pu_upS, pu_upS]
        · rw [pu_upN _ _ e2, pu_upN _ _ e2]; exact h j hj
    · simp only [if_neg c2]
      exact Or.inl ⟨by simp, by simp⟩
  · rw [if_neg c1, if_neg c1]; exact Or.inl ⟨rfl, rfl⟩
theorem pu_dn6 : ∀ k, k < 6 → (nI k + (-1 : Int32)).toNatClampNeg ≤ k := by decide
theorem pu_lec {x y : Int32} {k : Nat} (hk : k < 6) (e : y = nI k) (h : ¬ y ≤ x) (c : kb_in? x 6) : x.toNatClampNeg < k := by
  obtain ⟨i, hi, rfl⟩ := pu_in6e c
  subst e
  rw [nI_clamp (by omega)]
  exact Nat.lt_of_not_le (fun q => h (nI_le q (by omega)))
theorem pu_82R {N : Nat} (hN : N ≤ 6) : ∀ n x y (d d' : DealsT), pu_HR N d d' → y.toNatClampNeg < N → pu_OR N d d' (f_X1_dealNext_b82 n x y d) (f_X1_dealNext_b82 n x y d') := by
  intro n
  induction n with
  | zero => intro x y d d' _ _; exact Or.inl ⟨rfl, rfl⟩
  | succ n ih =>
    intro x y d d' h hy
    rw [f_X1_dealNext_b82, f_X1_dealNext_b82]
    by_cases c : y ≤ x
    · rw [if_pos c, if_pos c]; exact Or.inr ⟨d, d', rfl, rfl, h, rfl, rfl⟩
    · rw [if_neg c, if_neg c]
      by_cases cx : kb_in? x 6
      · by_cases cy : kb_in? y 6
        · obtain ⟨k, hk, ek⟩ := pu_in6e cy
          have hkN : k < N := by rw [ek, nI_clamp (by omega)] at hy; exact hy
          have hx := pu_lec hk ek c cx
          refine pu_OR_bind (pu_swapR h x y (by omega) hy) (fun e e' he => ih _ _ e e' he ?_)
          rw [ek]
          exact Nat.lt_of_le_of_lt (pu_dn6 k hk) hkN
        · rw [f_X1_swap, f_X1_swap]
          simp only [if_neg cy]
          exact Or.inl ⟨by simp, by simp⟩
      · rw [f_X1_swap, f_X1_swap, if_neg cx, if_neg cx]
        exact Or.inl ⟨rfl, rfl⟩
theorem pu_66R {N : Nat} (hN : N ≤ 6) (v1 v2 v3 : Int32) {d d' : DealsT} (h : pu_HR N d d') (h1 : (v1 - (1 : Int32)).toNatClampNeg < N) (h2 : v2.toNatClampNeg < N) (h3 : v3.toNatClampNeg < N) : pu_OR N d d' (f_X1_dealNext_b66 v1 v2 v3 d) (f_X1_dealNext_b66 v1 v2 v3 d') := by
  rw [f_X1_dealNext_b66, f_X1_dealNext_b66]
  exact pu_OR_bind (pu_swapR h v2 v3 h2 h3) (fun e e' he => pu_82R hN _ _ _ e e' he h1)
theorem pu_40R {N : Nat} (hN : N ≤ 6) : ∀ n v1 v2 v3 (d d' : DealsT), pu_HR N d d' → (v1 - (1 : Int32)).toNatClampNeg < N → v2.toNatClampNeg < N → v3.toNatClampNeg < N → pu_OR N d d' (f_X1_dealNext_b40 n v1 v2 v3 d) (f_X1_dealNext_b40 n v1 v2 v3 d') := by
  intro n
  induction n with
  | zero => intro _ _ _ d d' _ _ _ _; exact Or.inl ⟨rfl, rfl⟩
  | succ n ih =>
    intro v1 v2 v3 d d' h h1 h2 h3
    rw [f_X1_dealNext_b40, f_X1_dealNext_b40]
    by_cases c : v3 ≤ v2
    · rw [if_pos c, if_pos c]; exact pu_66R hN v1 v2 v3 h h1 h2 h3
    · rw [if_neg c, if_neg c]
      by_cases c3 : kb_in? v3 6
      · rw [if_pos c3, if_pos c3]
        by_cases c2 : kb_in? v2 6
        · rw [if_pos c2, if_pos c2, h _ h2, h _ h3]
          by_cases c4 : de_hand d' v2.toNatClampNeg ≤ de_hand d' v3.toNatClampNeg
          · rw [if_pos c4, if_pos c4]; exact pu_66R hN v1 v2 v3 h h1 h2 h3
          · rw [if_neg c4, if_neg c4]
            obtain ⟨k, hk, ek⟩ := pu_in6e c3
            refine ih _ _ _ d d' h h1 h2 ?_
            rw [ek]
            rw [ek, nI_clamp (by omega)] at h3
            exact Nat.lt_of_le_of_lt (pu_dn6 k hk) h3
        · rw [if_neg c2, if_neg c2]; exact Or.inl ⟨rfl, rfl⟩
      · rw [if_neg c3, if_neg c3]; exact Or.inl ⟨rfl, rfl⟩
theorem pu_31R {N : Nat} (hN : N ≤ 6) (v1 v2 : Int32) {d d' : DealsT} (h : pu_HR N d d') (h1 : (v1 - (1 : Int32)).toNatClampNeg < N) (h2 : v2.toNatClampNeg < N) : pu_OR N d d' (f_X1_dealNext_b31 v1 v2 d) (f_X1_dealNext_b31 v1 v2 d') := by
  rw [f_X1_dealNext_b31, f_X1_dealNext_b31]
  by_cases c : 0 ≤ v2
  · rw [if_pos c, if_pos c]; exact pu_40R hN _ _ _ _ d d' h h1 h2 h1
  · rw [if_neg c, if_neg c]; exact Or.inr ⟨d, d', rfl, rfl, h, rfl, rfl⟩
theorem pu_dn6b : ∀ k, k < 6 → (nI k + (-1 : Int32) + 1).toNatClampNeg ≤ k := by decide
theorem pu_4R {N : Nat} (hN : N ≤ 6) : ∀ n v1 v2 (d d' : DealsT), pu_HR N d d' → (v1 - (1 : Int32)).toNatClampNeg < N → v2.toNatClampNeg < N → (v2 + (1 : Int32)).toNatClampNeg < N → pu_OR N d d' (f_X1_dealNext_b4 n v1 v2 d) (f_X1_dealNext_b4 n v1 v2 d') := by
  intro n
  induction n with
  | zero => intro _ _ d d' _ _ _ _; exact Or.inl ⟨rfl, rfl⟩
  | succ n ih =>
    intro v1 v2 d d' h h1 h2 h3
    rw [f_X1_dealNext_b4, f_X1_dealNext_b4]
    by_cases c : v2 < 0
    · rw [if_pos c, if_pos c]; exact pu_31R hN v1 v2 h h1 h2
    · rw [if_neg c, if_neg c]
      by_cases c3 : kb_in? v2 6
      · rw [if_pos c3, if_pos c3]
        by_cases c2 : kb_in? (v2 + (1 : Int32)) 6
        · rw [if_pos c2, if_pos c2, h _ h3, h _ h2]
          by_cases c4 : de_hand d' v2.toNatClampNeg ≤ de_hand d' (v2 + (1 : Int32)).toNatClampNeg
          · rw [if_pos c4, if_pos c4]; exact pu_31R hN v1 v2 h h1 h2
          · rw [if_neg c4, if_neg c4]
            obtain ⟨k, hk, ek⟩ := pu_in6e c3
            rw [ek, nI_clamp (by omega)] at h2
            refine ih _ _ d d' h h1 ?_ ?_
            · rw [ek]; exact Nat.lt_of_le_of_lt (pu_dn6 k hk) h2
            · rw [ek]; exact Nat.lt_of_le_of_lt (pu_dn6b k hk) h2
        · rw [if_neg c2, if_neg c2]; exact Or.inl ⟨rfl, rfl⟩
      · rw [if_neg c3, if_neg c3]; exact Or.inl ⟨rfl, rfl⟩
theorem pu_n16 : ∀ N, N < 7 → 1 ≤ N → (nI N - (1 : Int32)).toNatClampNeg < N ∧ (nI N - (2 : Int32)).toNatClampNeg < N ∧ (nI N - (2 : Int32) + (1 : Int32)).toNatClampNeg < N := by decide
theorem pu_nextR {N : Nat} (hN : N ≤ 6) (h0 : 1 ≤ N) {d d' : DealsT} (h : pu_HR N d d') : pu_OR N d d' (f_X1_dealNext d (nI N)) (f_X1_dealNext d' (nI N)) :=
  have q := pu_n16 N (by omega) h0
  pu_4R hN _ _ _ d d' h q.1 q.2.1 q.2.2
end PM

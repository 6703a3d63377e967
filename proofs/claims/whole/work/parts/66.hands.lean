/-! dealt: the class's next hand reads and writes six places only -/
section PM
/-- six places alike -/
def pu_HR (d d' : DealsT) : Prop := ∀ j, j < 6 → de_hand d j = de_hand d' j
/-- both run alike, and touch the hand alone -/
def pu_OR (d d' : DealsT) (o o' : Option DealsT) : Prop := (o = none ∧ o' = none) ∨ ∃ e e', o = some e ∧ o' = some e' ∧ pu_HR e e' ∧ e = de_set_hand d (de_hand e) ∧ e' = de_set_hand d' (de_hand e')
theorem pu_OR_bind {d d' : DealsT} {o o' : Option DealsT} (h : pu_OR d d' o o') {F F' : DealsT → Option DealsT} (hF : ∀ e e', pu_HR e e' → pu_OR e e' (F e) (F' e')) : pu_OR d d' (o.bind F) (o'.bind F') := by
  rcases h with ⟨a, b⟩ | ⟨e, e', a, b, c, k, k'⟩
  · rw [a, b]; exact Or.inl ⟨rfl, rfl⟩
  · rw [a, b, pu_sb, pu_sb]
    rcases hF e e' c with ⟨x, y⟩ | ⟨g, g', x, y, z, u, u'⟩
    · exact Or.inl ⟨x, y⟩
    · refine Or.inr ⟨g, g', x, y, z, ?_, ?_⟩
      · rw [u, k]; rfl
      · rw [u', k']; rfl
theorem pu_swapR {d d' : DealsT} (h : pu_HR d d') (x y : Int32) : pu_OR d d' (f_X1_swap d x y) (f_X1_swap d' x y) := by
  rw [f_X1_swap, f_X1_swap]
  by_cases c1 : kb_in? x 6
  · by_cases c2 : kb_in? y 6
    · have hx : x.toNatClampNeg < 6 := kb_inlt c1
      have hy : y.toNatClampNeg < 6 := kb_inlt c2
      simp only [if_pos c1, if_pos c2]
      rw [f_X1_swap_b19, f_X1_swap_b19, if_pos c2, if_pos c2, f_X1_swap_b26, f_X1_swap_b26]
      refine Or.inr ⟨_, _, rfl, rfl, ?_, rfl, rfl⟩
      intro j hj
      show upd (upd (de_hand d) x.toNatClampNeg (de_hand d y.toNatClampNeg)) y.toNatClampNeg (de_hand d x.toNatClampNeg) j = upd (upd (de_hand d') x.toNatClampNeg (de_hand d' y.toNatClampNeg)) y.toNatClampNeg (de_hand d' x.toNatClampNeg) j
      rw [h _ hx, h _ hy]
      by_cases e : j = y.toNatClampNeg
      · subst e; rw [pu_upS, pu_upS]
      · rw [pu_upN _ _ e, pu_upN _ _ e]
        by_cases e2 : j = x.toNatClampNeg
        · subst e2; rw [pu_upS, pu_upS]
        · rw [pu_upN _ _ e2, pu_upN _ _ e2]; exact h j hj
    · simp only [if_neg c2]
      exact Or.inl ⟨by simp, by simp⟩
  · rw [if_neg c1, if_neg c1]; exact Or.inl ⟨rfl, rfl⟩
theorem pu_82R : ∀ n x y (d d' : DealsT), pu_HR d d' → pu_OR d d' (f_X1_dealNext_b82 n x y d) (f_X1_dealNext_b82 n x y d') := by
  intro n
  induction n with
  | zero => intro x y d d' _; exact Or.inl ⟨rfl, rfl⟩
  | succ n ih =>
    intro x y d d' h
    rw [f_X1_dealNext_b82, f_X1_dealNext_b82]
    by_cases c : y ≤ x
    · rw [if_pos c, if_pos c]; exact Or.inr ⟨d, d', rfl, rfl, h, rfl, rfl⟩
    · rw [if_neg c, if_neg c]
      exact pu_OR_bind (pu_swapR h x y) (fun e e' he => ih _ _ e e' he)
theorem pu_66R (v1 v2 v3 : Int32) {d d' : DealsT} (h : pu_HR d d') : pu_OR d d' (f_X1_dealNext_b66 v1 v2 v3 d) (f_X1_dealNext_b66 v1 v2 v3 d') := by
  rw [f_X1_dealNext_b66, f_X1_dealNext_b66]
  exact pu_OR_bind (pu_swapR h v2 v3) (fun e e' he => pu_82R _ _ _ e e' he)
theorem pu_in6 {x : Int32} (c : kb_in? x 6) : x.toNatClampNeg < 6 := kb_inlt c
theorem pu_40R : ∀ n v1 v2 v3 (d d' : DealsT), pu_HR d d' → pu_OR d d' (f_X1_dealNext_b40 n v1 v2 v3 d) (f_X1_dealNext_b40 n v1 v2 v3 d') := by
  intro n
  induction n with
  | zero => intro _ _ _ d d' _; exact Or.inl ⟨rfl, rfl⟩
  | succ n ih =>
    intro v1 v2 v3 d d' h
    rw [f_X1_dealNext_b40, f_X1_dealNext_b40]
    by_cases c : v3 ≤ v2
    · rw [if_pos c, if_pos c]; exact pu_66R v1 v2 v3 h
    · rw [if_neg c, if_neg c]
      by_cases c3 : kb_in? v3 6
      · rw [if_pos c3, if_pos c3]
        by_cases c2 : kb_in? v2 6
        · rw [if_pos c2, if_pos c2, h _ (pu_in6 c2), h _ (pu_in6 c3)]
          by_cases c4 : de_hand d' v2.toNatClampNeg ≤ de_hand d' v3.toNatClampNeg
          · rw [if_pos c4, if_pos c4]; exact pu_66R v1 v2 v3 h
          · rw [if_neg c4, if_neg c4]; exact ih _ _ _ d d' h
        · rw [if_neg c2, if_neg c2]; exact Or.inl ⟨rfl, rfl⟩
      · rw [if_neg c3, if_neg c3]; exact Or.inl ⟨rfl, rfl⟩
theorem pu_31R (v1 v2 : Int32) {d d' : DealsT} (h : pu_HR d d') : pu_OR d d' (f_X1_dealNext_b31 v1 v2 d) (f_X1_dealNext_b31 v1 v2 d') := by
  rw [f_X1_dealNext_b31, f_X1_dealNext_b31]
  by_cases c : 0 ≤ v2
  · rw [if_pos c, if_pos c]; exact pu_40R _ _ _ _ d d' h
  · rw [if_neg c, if_neg c]; exact Or.inr ⟨d, d', rfl, rfl, h, rfl, rfl⟩
theorem pu_4R : ∀ n v1 v2 (d d' : DealsT), pu_HR d d' → pu_OR d d' (f_X1_dealNext_b4 n v1 v2 d) (f_X1_dealNext_b4 n v1 v2 d') := by
  intro n
  induction n with
  | zero => intro _ _ d d' _; exact Or.inl ⟨rfl, rfl⟩
  | succ n ih =>
    intro v1 v2 d d' h
    rw [f_X1_dealNext_b4, f_X1_dealNext_b4]
    by_cases c : v2 < 0
    · rw [if_pos c, if_pos c]; exact pu_31R v1 v2 h
    · rw [if_neg c, if_neg c]
      by_cases c3 : kb_in? v2 6
      · rw [if_pos c3, if_pos c3]
        by_cases c2 : kb_in? (v2 + (1 : Int32)) 6
        · rw [if_pos c2, if_pos c2, h _ (pu_in6 c2), h _ (pu_in6 c3)]
          by_cases c4 : de_hand d' v2.toNatClampNeg ≤ de_hand d' (v2 + (1 : Int32)).toNatClampNeg
          · rw [if_pos c4, if_pos c4]; exact pu_31R v1 v2 h
          · rw [if_neg c4, if_neg c4]; exact ih _ _ d d' h
        · rw [if_neg c2, if_neg c2]; exact Or.inl ⟨rfl, rfl⟩
      · rw [if_neg c3, if_neg c3]; exact Or.inl ⟨rfl, rfl⟩
theorem pu_nextR (n : Int32) {d d' : DealsT} (h : pu_HR d d') : pu_OR d d' (f_X1_dealNext d n) (f_X1_dealNext d' n) := pu_4R _ _ _ d d' h
end PM

/-! the digits of a number -/
section PT
theorem pu_dd3 (d : Nat → Nat) {k : Nat} (hk : k ≤ 3) (h : ∀ i, i < k → d i < 10) : pu_dd d k < 1000 := by
  have l : ∀ k, (∀ i, i < k → d i < 10) → pu_dd d k < 10 ^ k := by
    intro k
    induction k with
    | zero => intro _; exact Nat.one_pos
    | succ k ih =>
      intro h
      have a := ih (fun i hi => h i (by omega))
      have b := h k (by omega)
      rw [pu_dd, Nat.pow_succ]
      omega
  have a := l k h
  have b : 10 ^ k ≤ 10 ^ 3 := Nat.pow_le_pow_right (by omega) hk
  omega
theorem pu_dnw {w : Int32} {E d : Nat} (h : w = nI E) : w * 10 + nI d = nI (10 * E + d) := by
  rw [h, show (10 : Int32) = nI 10 from rfl, pk_mul, nI_add, Nat.mul_comm]
theorem pu_dnw2 {w : Int32} {E d : Nat} (h : w = nI E) (hd : 48 ≤ d) : 10 * w + nI d - 48 = nI (10 * E + (d - 48)) := by
  rw [h, show (10 : Int32) = nI 10 from rfl, show (48 : Int32) = nI 48 from rfl, pk_mul, nI_add, pk_sub (by omega), show 10 * E + d - 48 = 10 * E + (d - 48) by omega]
theorem pu_whole {c : Nat → Nat} {n s : Nat} {tape : TapeT} : ∀ (m i : Nat) (ps : ParserT) (mo : MOT) (f1 f2 : Nat), pu_TX c n ps tape mo → s + i + m = n → m < f1 → m < f2 → ps_start ps = nI s → mo_place mo = nI s → ps_next ps = nI (s + i) → mo_spot mo = nI (s + i) → mo_sort mo = 0 → (∀ j, j < i → 48 ≤ c (s + j) ∧ c (s + j) ≤ 57) → (i ≤ 3 → ps_value ps = nI (pu_dd (fun i => c (s + i) - 48) i) ∧ mo_number mo = nI (pu_dd (fun i => c (s + i) - 48) i)) → (i = 0 → s < n ∧ 48 ≤ c (s + 0) ∧ c (s + 0) ≤ 57) →
    ∃ e q mq, f_X4_takeWhole_b5 f1 ps = some q ∧ f_X12_goesOn_b178 tape f2 (nI i) mo = some mq ∧ pu_FP ps q ∧ pu_FO mo mq ∧ pu_PK c n s e q mq ∧ s + i ≤ e := by
  have stop : ∀ (i : Nat) (ps : ParserT) (mo : MOT), s + i ≤ n → n ≤ 900 → ps_start ps = nI s → mo_place mo = nI s → ps_next ps = nI (s + i) → mo_spot mo = nI (s + i) → mo_sort mo = 0 → (∀ j, j < i → 48 ≤ c (s + j) ∧ c (s + j) ≤ 57) → (i ≤ 3 → ps_value ps = nI (pu_dd (fun i => c (s + i) - 48) i) ∧ mo_number mo = nI (pu_dd (fun i => c (s + i) - 48) i)) → 1 ≤ i →
    ∃ e q mq, f_X4_takeWhole_b81 ps = some q ∧ (if (3 : Int32) < nI i then f_X12_goesOn_b281 tape mo else f_X12_goesOn_b246 tape (mo_set_sort mo 3)) = some mq ∧ pu_FP ps q ∧ pu_FO mo mq ∧ pu_PK c n s e q mq ∧ s + i ≤ e := by
    intro i ps mo hn h9 a1 a2 a3 a4 a5 a6 a7 a8
    have e8 : ((3 : Int32) < nI i) ↔ 3 < i := nI_ltI (a := 3) (b := i) (by omega) (by omega)
    have ed : ps_next ps - ps_start ps = nI i := by rw [a3, a1, pk_sub (by omega), show s + i - s = i by omega]
    rw [f_X4_takeWhole_b81, ed]
    by_cases h8 : 3 < i
    · rw [if_pos (e8.mpr h8), if_pos (e8.mpr h8)]
      exact ⟨s + i, ps_set_kind ps 5, mo, rfl, rfl, ⟨rfl, rfl, rfl, rfl, rfl⟩, pu_FO.rf mo, ⟨by omega, hn, a1, a2, a3, Or.inr (Or.inr (Or.inr (Or.inr (Or.inr ⟨rfl, a5⟩))))⟩, Nat.le_refl _⟩
    · rw [if_neg (fun q => h8 (e8.mp q)), if_neg (fun q => h8 (e8.mp q))]
      exact ⟨s + i, ps_set_kind ps 2, mo_set_sort mo 3, rfl, rfl, ⟨rfl, rfl, rfl, rfl, rfl⟩, ⟨rfl, rfl, rfl, rfl, rfl, rfl, rfl, rfl, rfl, rfl⟩, ⟨by omega, hn, a1, a2, a3, Or.inr (Or.inr (Or.inl ⟨rfl, rfl, a4, by omega, pu_dd (fun i => c (s + i) - 48) i, pu_dd3 _ (by omega) (fun k hk => by have := a6 k hk; show c (s + k) - 48 < 10; omega), (a7 (by omega)).1, (a7 (by omega)).2⟩))⟩, Nat.le_refl _⟩
  intro m
  induction m with
  | zero =>
    intro i ps mo f1 f2 t hm h1 h2 a1 a2 a3 a4 a5 a6 a7 a8
    have h9 := t.n9
    cases f1 with
    | zero => omega
    | succ f1 => cases f2 with
      | zero => omega
      | succ f2 =>
        obtain ⟨e, q, mq, b1, b2, b3⟩ := stop i ps mo (by omega) h9 a1 a2 a3 a4 a5 a6 a7 (by
          rcases Nat.eq_zero_or_pos i with h0 | h0
          · have := a8 h0; omega
          · exact h0)
        refine ⟨e, q, mq, ?_, ?_, b3⟩
        · rw [f_X4_takeWhole_b5, t.en, a3, if_pos (nI_le (by omega) (by omega))]; exact b1
        · rw [f_X12_goesOn_b178, a4, pu_byteAt t (by omega), pu_sb, if_neg (show ¬ s + i < n by omega), pu_isDn, pu_sb, if_pos rfl]; exact b2
  | succ m ih =>
    intro i ps mo f1 f2 t hm h1 h2 a1 a2 a3 a4 a5 a6 a7 a8
    have h9 := t.n9
    cases f1 with
    | zero => omega
    | succ f1 => cases f2 with
      | zero => omega
      | succ f2 =>
        have hlt : s + i < n := by omega
        obtain ⟨x1, x2, x3⟩ := t.tx (s + i) hlt
        have eM : f_X12_goesOn_b178 tape (f2 + 1) (nI i) mo = (if decide (48 ≤ c (s + i) ∧ c (s + i) ≤ 57) = true then (if (3 : Int32) ≤ nI i then f_X12_goesOn_b220 tape (f_X12_goesOn_b178 tape f2) (nI i) mo else f_X12_goesOn_b220 tape (f_X12_goesOn_b178 tape f2) (nI i) (mo_set_number mo ((((10 : Int32) * (mo_number mo)) + nI (c (s + i))) - (48 : Int32)))) else (if (3 : Int32) < nI i then f_X12_goesOn_b281 tape mo else f_X12_goesOn_b246 tape (mo_set_sort mo 3))) := by
          rw [f_X12_goesOn_b178, a4, pu_byteAt t (by omega), pu_sb, if_pos hlt, pu_isD _ x1, pu_sb, pu_ifb, pu_sb]
        have eC : f_X4_takeWhole_b5 (f1 + 1) ps = (if decide (48 ≤ c (s + i) ∧ c (s + i) ≤ 57) = true then f_X4_takeWhole_b5 f1 (ps_set_next (ps_set_value ps (((ps_value ps) * (10 : Int32)) + (pu_sg8 (c (s + i)) - (48 : Int32)))) (ps_next ps + (1 : Int32))) else f_X4_takeWhole_b81 ps) := by
          rw [f_X4_takeWhole_b5, t.en]
          simp only [a3, nI_clamp (show s + i < 2 ^ 31 by omega), if_pos (pu_inn (c := s + i) (N := 900) (by omega) (by omega)), x2]
          rw [if_neg (nI_ge hlt (by omega))]
          by_cases q : 48 ≤ c (s + i) ∧ c (s + i) ≤ 57
          · rw [if_neg (fun k => (pu_b48 _ x1).mp k ⟨q.1, by omega⟩), if_neg (fun k => by have := (pu_b57 _ x1).mp k; omega), if_pos (decide_eq_true q)]
            rw [f_X4_takeWhole_b78]
            show f_X4_takeWhole_b5 f1 (ps_set_next (ps_set_value ps _) (ps_next ps + 1)) = _
            rw [a3]
          · rw [if_neg (show ¬ decide (48 ≤ c (s + i) ∧ c (s + i) ≤ 57) = true from fun k => q (of_decide_eq_true k))]
            by_cases q2 : 48 ≤ c (s + i) ∧ c (s + i) < 128
            · rw [if_neg (fun k => (pu_b48 _ x1).mp k q2), if_pos ((pu_b57 _ x1).mpr (by omega))]
            · rw [if_pos ((pu_b48 _ x1).mpr q2)]
        rw [eM, eC]
        by_cases q : 48 ≤ c (s + i) ∧ c (s + i) ≤ 57
        · rw [if_pos (decide_eq_true q), if_pos (decide_eq_true q)]
          have e8 : ((3 : Int32) ≤ nI i) ↔ 3 ≤ i := nI_leI (a := 3) (b := i) (by omega) (by omega)
          have hl : ∀ j, j < i + 1 → 48 ≤ c (s + j) ∧ c (s + j) ≤ 57 := fun j hj => by
            by_cases ej : j = i
            · subst ej; exact q
            · exact a6 j (by omega)
          have ew1 : pu_sg8 (c (s + i)) - (48 : Int32) = nI (c (s + i) - 48) := by rw [pu_b128 _ (by omega), pu_dg _ x1 q.1 q.2]
          rw [ew1]
          have hcw : i + 1 ≤ 3 → ps_value ps * 10 + nI (c (s + i) - 48) = nI (pu_dd (fun i => c (s + i) - 48) (i + 1)) := fun h => pu_dnw (a7 (by omega)).1
          have hmw : i + 1 ≤ 3 → 10 * mo_number mo + nI (c (s + i)) - 48 = nI (pu_dd (fun i => c (s + i) - 48) (i + 1)) := fun h => pu_dnw2 (a7 (by omega)).2 q.1
          have en1 : nI (s + i) + 1 = nI (s + (i + 1)) := nI_1 _
          by_cases h8 : 3 ≤ i
          · rw [if_pos (e8.mpr h8), f_X12_goesOn_b220, f_X12_goesOn_b233, nI_1]
            obtain ⟨e, qq, mq, b1, b2, b3, b4, b5, b6⟩ := ih (i + 1) (ps_set_next (ps_set_value ps (ps_value ps * 10 + nI (c (s + i) - 48))) (ps_next ps + 1)) (mo_set_spot mo (mo_spot mo + 1)) f1 f2 (t.fr ⟨rfl, rfl, rfl, rfl, rfl⟩ ⟨rfl, rfl, rfl, rfl, rfl, rfl, rfl, rfl, rfl, rfl⟩) (by omega) (by omega) (by omega) a1 a2 (by show ps_next ps + 1 = _; rw [a3]; exact en1) (by show mo_spot mo + 1 = _; rw [a4]; exact en1) a5 hl (fun h => by omega) (fun h => by omega)
            exact ⟨e, qq, mq, b1, b2, pu_FP.tr ⟨rfl, rfl, rfl, rfl, rfl⟩ b3, pu_FO.trr ⟨rfl, rfl, rfl, rfl, rfl, rfl, rfl, rfl, rfl, rfl⟩ b4, b5, by omega⟩
          · rw [if_neg (fun k => h8 (e8.mp k)), f_X12_goesOn_b220, f_X12_goesOn_b233, nI_1]
            obtain ⟨e, qq, mq, b1, b2, b3, b4, b5, b6⟩ := ih (i + 1) (ps_set_next (ps_set_value ps (ps_value ps * 10 + nI (c (s + i) - 48))) (ps_next ps + 1)) (mo_set_spot (mo_set_number mo (10 * mo_number mo + nI (c (s + i)) - 48)) (mo_spot mo + 1)) f1 f2 (t.fr ⟨rfl, rfl, rfl, rfl, rfl⟩ ⟨rfl, rfl, rfl, rfl, rfl, rfl, rfl, rfl, rfl, rfl⟩) (by omega) (by omega) (by omega) a1 a2 (by show ps_next ps + 1 = _; rw [a3]; exact en1) (by show mo_spot mo + 1 = _; rw [a4]; exact en1) a5 hl (fun h => ⟨hcw h, hmw h⟩) (fun h => by omega)
            exact ⟨e, qq, mq, b1, b2, pu_FP.tr ⟨rfl, rfl, rfl, rfl, rfl⟩ b3, pu_FO.trr ⟨rfl, rfl, rfl, rfl, rfl, rfl, rfl, rfl, rfl, rfl⟩ b4, b5, by omega⟩
        · rw [if_neg (fun k => q (of_decide_eq_true k)), if_neg (fun k => q (of_decide_eq_true k))]
          exact stop i ps mo (by omega) h9 a1 a2 a3 a4 a5 a6 a7 (by
            rcases Nat.eq_zero_or_pos i with h0 | h0
            · have := a8 h0; subst h0; exact absurd this.2 q
            · exact h0)
end PT

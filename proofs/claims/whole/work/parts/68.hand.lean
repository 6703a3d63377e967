/-! dealt: the reference's hand number k, as a list -/
/-- of the free ones, number k % m first, then on with k / m -/
def pu_sg : Nat → Nat → List Nat → List Nat
  | 0, _, _ => []
  | m + 1, k, av => av.getD (k % (m + 1)) 0 :: pu_sg m (k / (m + 1)) (av.eraseIdx (k % (m + 1)))
/-- those from p on that are free -/
def pu_fr (v3 : Int32) : Nat → Nat → List Nat
  | _, 0 => []
  | p, e + 1 => if bt v3 p then pu_fr v3 (p + 1) e else p :: pu_fr v3 (p + 1) e
theorem pu_fr_ge (v3 : Int32) : ∀ e p x, x ∈ pu_fr v3 p e → p ≤ x ∧ x < p + e ∧ bt v3 x = false := by
  intro e
  induction e with
  | zero => intro p x hx; cases hx
  | succ e ih =>
    intro p x hx
    rw [pu_fr] at hx
    cases hb : bt v3 p
    · rw [hb, pu_ff] at hx
      rcases List.mem_cons.mp hx with rfl | hx
      · exact ⟨by omega, by omega, hb⟩
      · have := ih (p + 1) x hx
        exact ⟨by omega, by omega, this.2.2⟩
    · rw [hb, pu_tt] at hx
      have := ih (p + 1) x hx
      exact ⟨by omega, by omega, this.2.2⟩
theorem pu_fr_up (v3 : Int32) {q : Nat} (hq : q < 32) : ∀ e p, p + e ≤ 32 → q < p → pu_fr (v3 ||| ((1 : Int32) <<< (nI q &&& 31))) p e = pu_fr v3 p e := by
  intro e
  induction e with
  | zero => intro p _ _; rfl
  | succ e ih =>
    intro p hp hqp
    rw [pu_fr, pu_fr, ih (p + 1) (by omega) (by omega), b_or, pu_sh1 q hq, decide_eq_false (by omega), Bool.or_false]
/-- taking the i-th free one away -/
theorem pu_fr_er (v3 : Int32) : ∀ e p i, p + e ≤ 32 → i < (pu_fr v3 p e).length → pu_fr (v3 ||| ((1 : Int32) <<< (nI ((pu_fr v3 p e).getD i 0) &&& 31))) p e = (pu_fr v3 p e).eraseIdx i := by
  intro e
  induction e with
  | zero => intro p i _ hi; exact absurd hi (Nat.not_lt_zero _)
  | succ e ih =>
    intro p i hp hi
    cases hb : bt v3 p
    · have e0 : pu_fr v3 p (e + 1) = p :: pu_fr v3 (p + 1) e := by rw [pu_fr, hb, pu_ff]
      rw [e0] at hi ⊢
      cases i with
      | zero =>
        show pu_fr (v3 ||| ((1 : Int32) <<< (nI p &&& 31))) p (e + 1) = pu_fr v3 (p + 1) e
        rw [pu_fr, b_or, pu_sh1 p (by omega), decide_eq_true rfl, Bool.or_true, pu_tt, pu_fr_up v3 (by omega) e (p + 1) (by omega) (by omega)]
      | succ i =>
        have hi2 : i < (pu_fr v3 (p + 1) e).length := Nat.lt_of_succ_lt_succ hi
        have hx := pu_fr_ge v3 e (p + 1) ((pu_fr v3 (p + 1) e).getD i 0) (by
          rw [List.getD_eq_getElem?_getD, List.getElem?_eq_getElem hi2]; exact List.getElem_mem hi2)
        show pu_fr (v3 ||| ((1 : Int32) <<< (nI ((pu_fr v3 (p + 1) e).getD i 0) &&& 31))) p (e + 1) = p :: (pu_fr v3 (p + 1) e).eraseIdx i
        rw [pu_fr, b_or, pu_sh1 _ (by omega), decide_eq_false (by omega), Bool.or_false, hb, pu_ff, ih (p + 1) i (by omega) hi2]
    · have e0 : pu_fr v3 p (e + 1) = pu_fr v3 (p + 1) e := by rw [pu_fr, hb, pu_tt]
      rw [e0] at hi ⊢
      rw [pu_fr, b_or, hb, Bool.true_or, pu_tt]
      exact ih (p + 1) i (by omega) hi
theorem pu_dA49 (mo : MOT) (bu : BusT) (k7 : Int32 → Int32 → Int32 → LooksT → Option LooksT) (v2 v3 : Int32) {c : Nat} (hc : c < 8) (z1 : LooksT) : ∀ e p i fuel, p + e ≤ 8 → i < (pu_fr v3 p e).length → e < fuel → f_X12_dealsAnew_b49 mo bu k7 fuel v2 v3 (nI c) (nI i) (nI p) z1 = k7 v2 (v3 ||| ((1 : Int32) <<< (nI ((pu_fr v3 p e).getD i 0) &&& 31))) (nI (c + 1)) (yLooks_set_r z1 (upd (yLooks_r z1) c (bu_looks bu ((pu_fr v3 p e).getD i 0)))) := by
  intro e
  induction e with
  | zero => intro p i fuel _ hi; exact absurd hi (Nat.not_lt_zero _)
  | succ e ih => intro p i fuel hp hi hf; cases fuel with
    | zero => omega
    | succ fuel =>
      rw [f_X12_dealsAnew_b49, f_X12_dealsAnew_b63, pu_has _ (by omega), pu_sb, pu_sb, pu_ifb, pu_ifb, nI_1]
      cases hb : bt v3 p
      · have e0 : pu_fr v3 p (e + 1) = p :: pu_fr v3 (p + 1) e := by rw [pu_fr, hb, pu_ff]
        rw [e0] at hi ⊢
        rw [pu_ff, pu_ff]
        cases i with
        | zero =>
          rw [if_pos (show nI 0 ≤ 0 by decide), if_pos (pu_inn (by omega) (by omega)), if_pos (pu_inn hc (by omega)), nI_clamp (by omega), nI_clamp (by omega), f_X12_dealsAnew_b105, nI_1]
          rfl
        | succ i =>
          have hi2 : i < (pu_fr v3 (p + 1) e).length := Nat.lt_of_succ_lt_succ hi
          rw [if_neg (show ¬ nI (i + 1) ≤ 0 from nI_ge (a := 0) (b := i + 1) (by omega) (by
            have : ∀ e p, (pu_fr v3 p e).length ≤ e := by
              intro e
              induction e with
              | zero => intro p; exact Nat.le_refl _
              | succ e ih =>
                intro p
                rw [pu_fr]
                have := ih (p + 1)
                cases bt v3 p
                · rw [pu_ff]; exact Nat.succ_le_succ this
                · rw [pu_tt]; omega
            have := this e (p + 1)
            omega)), pk_m1]
          exact ih (p + 1) i fuel (by omega) hi2 (by omega)
      · have e0 : pu_fr v3 p (e + 1) = pu_fr v3 (p + 1) e := by rw [pu_fr, hb, pu_tt]
        rw [e0] at hi ⊢
        rw [pu_tt, pu_tt]
        exact ih (p + 1) i fuel (by omega) hi (by omega)
theorem pu_dA7 (mo : MOT) {bu : BusT} {n : Nat} (hn : n ≤ 8) (en : bu_riders bu = nI n) : ∀ m k c fuel v3 z, c + m = n → (pu_fr v3 0 n).length = m → m < fuel → k < 2 ^ 30 → ∃ z', f_X12_dealsAnew_b7 mo bu fuel (nI k) v3 (nI c) z = some z' ∧ (∀ j, j < c → yLooks_r z' j = yLooks_r z j) ∧ ∀ j, j < m → yLooks_r z' (c + j) = bu_looks bu ((pu_sg m k (pu_fr v3 0 n)).getD j 0) := by
  intro m
  induction m with
  | zero => intro k c fuel v3 z hc _ hf _; cases fuel with
    | zero => omega
    | succ fuel =>
      have e : c = n := by omega
      subst e
      refine ⟨z, ?_, fun j _ => rfl, fun j hj => by omega⟩
      rw [f_X12_dealsAnew_b7, en, if_pos (nI_le (Nat.le_refl _) (by omega))]
  | succ m ih => intro k c fuel v3 z hc hl hf hk; cases fuel with
    | zero => omega
    | succ fuel =>
      have es : nI n - nI c = nI (m + 1) := by rw [pk_sub (by omega), show n - c = m + 1 by omega]
      have hkm : k % (m + 1) < m + 1 := Nat.mod_lt _ (by omega)
      have hdl : k / (m + 1) ≤ k := Nat.div_le_self _ _
      obtain ⟨z', a1, a2, a3⟩ := ih (k / (m + 1)) (c + 1) fuel (v3 ||| ((1 : Int32) <<< (nI ((pu_fr v3 0 n).getD (k % (m + 1)) 0) &&& 31))) (yLooks_set_r z (upd (yLooks_r z) c (bu_looks bu ((pu_fr v3 0 n).getD (k % (m + 1)) 0)))) (by omega) (by
        rw [pu_fr_er v3 n 0 (k % (m + 1)) (by omega) (by omega), List.length_eraseIdx, if_pos (by omega)]; omega) (by omega) (by omega)
      refine ⟨z', ?_, ?_, ?_⟩
      · rw [f_X12_dealsAnew_b7, en, if_neg (nI_ge (by omega) (by omega)), es, if_pos (nI_ne0 (by omega) (by omega)), if_pos (nI_ne0 (by omega) (by omega)), pk_rem (by omega) (by omega) (by omega), pk_div (by omega) (by omega) (by omega)]
        exact Eq.trans (pu_dA49 mo bu (f_X12_dealsAnew_b7 mo bu fuel) _ v3 (c := c) (by omega) z n 0 (k % (m + 1)) 4096 (by omega) (by omega) (by omega)) a1
      · intro j hj
        rw [a2 j (by omega)]
        exact pu_upN _ _ (by omega)
      · intro j hj
        cases j with
        | zero =>
          rw [Nat.add_zero, a2 c (by omega)]
          exact pu_upS _ _ _
        | succ j =>
          rw [show c + (j + 1) = c + 1 + j by omega, a3 j (by omega), pu_fr_er v3 n 0 (k % (m + 1)) (by omega) (by omega)]
          rfl

/-! odds: the whole search of the reference, from a level on -/
def pu_ct (P : Nat → Bool) : Nat → Nat → Nat
  | _, 0 => 0
  | i, e + 1 => (if P i then 1 else 0) + pu_ct P (i + 1) e
def pu_st (P : Nat → Bool) (v : Nat → Int64) : Nat → Nat → Int64
  | _, 0 => 0
  | i, e + 1 => (if P i then v i else 0) + pu_st P v (i + 1) e
theorem pu_ct_cn (P : Nat → Bool) : ∀ e i, pu_ct P i e = pu_cn (fun j => P (i + j)) e := by
  intro e
  induction e with
  | zero => intro i; rfl
  | succ e ih =>
    intro i
    rw [pu_ct, ih (i + 1), pu_cn_low]
    have : (fun j => P (i + 1 + j)) = fun j => P (i + (j + 1)) := by
      funext j; rw [show i + 1 + j = i + (j + 1) by omega]
    rw [this]
    rfl
theorem pu_st_ext {P Q : Nat → Bool} {v u : Nat → Int64} : ∀ {e i : Nat}, (∀ j, i ≤ j → j < i + e → P j = Q j ∧ (P j = true → v j = u j)) → pu_st P v i e = pu_st Q u i e := by
  intro e
  induction e with
  | zero => intro i _; rfl
  | succ e ih =>
    intro i h
    rw [pu_st, pu_st, ih (fun j h1 h2 => h j (by omega) (by omega)), ← (h i (by omega) (by omega)).1]
    cases q : P i
    · rfl
    · rw [pu_tt, pu_tt, (h i (by omega) (by omega)).2 q]
def pu_co : Nat → Nat
  | 0 => 0
  | d + 1 => 12 * (1 + pu_co d) + 1
section PE
variable (mo : MOT) (looks : LooksT) (co : ComingT) (bu : BusT) (q s : Int32)
/-- from level k on: what is added is v for each of the shares so far -/
def pu_DF (d k : Nat) (w : Nat → Int32) (v : Int64) : Prop := ∀ (z1 : WT) (who : WhoT) (look : LookT) (ahead : AheadT) (left : LeftT) (times : TimesT) (part : PartT) (tot : Int64), (∀ j, j < 56 → yW_r z1 j = w j) →
  ∃ z1' who' look' ahead' left' times' part' c, c ≤ pu_co d ∧ (∀ j, j < 56 * k → yAhead_r ahead' j = yAhead_r ahead j) ∧ (∀ j, j < k → yLeft_r left' j = yLeft_r left j ∧ yPart_r part' j = yPart_r part j) ∧ (∀ j, j ≤ k → yTimes_r times' j = yTimes_r times j) ∧
    ∀ fuel, f_X12_oddsOf_b44 mo looks co bu (f_X12_oddsOf_b17 mo looks co bu (fuel + c)) q s tot (nI k + (-1)) z1 who look ahead left times part = f_X12_oddsOf_b17 mo looks co bu fuel q s (tot + yTimes_r times k * v) (nI k + (-1)) z1' who' look' ahead' left' times' part'
theorem pu_m11 (k : Nat) : nI k + (-1 : Int32) + (1 : Int32) = nI k := by
  rw [Int32.add_assoc, show (-1 : Int32) + 1 = 0 by decide, Int32.add_zero]
/-- a leaf -/
theorem pu_leaf {m r : Nat} (hm : m ≤ 4) (em : mo_comers mo = nI m) (hr : r < 8) (w : Nat → Int32) : pu_DF mo looks co bu (nI r) s 0 m w (if w r = s then 1 else 0) := by
  intro z1 who look ahead left times part tot hz
  refine ⟨z1, who, look, ahead, left, times, part, 0, Nat.le_refl _, fun j _ => rfl, fun j _ => ⟨rfl, rfl⟩, fun j _ => rfl, fun fuel => ?_⟩
  rw [f_X12_oddsOf_b44, pu_m11, em, if_pos (nI_le (Nat.le_refl _) (by omega)), pu_z, if_pos (pu_inn (by omega) (by omega)), nI_clamp (by omega), hz r (by omega), if_pos (pu_inn (by omega) (by omega)), nI_clamp (by omega), Nat.add_zero]
  by_cases c : w r = s
  · rw [if_pos c, if_pos c, Int64.mul_one]
  · rw [if_neg c, if_neg c, Int64.mul_zero, Int64.add_zero]
/-- the level's own loop -/
theorem pu_level {d k r m : Nat} (hk : k < 4) (hr : r < 8) (er : yComing_r co k = nI r) (hd : k + 1 + d = m) {n : Nat} (hn : n < 2 ^ 21) {w : Nat → Int32} (v : Nat → Int64)
    (hc : ∀ i, i < 21 → n.testBit i = true → ∀ z, (∀ j, j < 56 → yW_r z j = w j) → ∃ z2, (if i = 20 then z2 = yW_set_r z (upd (yW_r z) r 101) else f_X12_sitsDown mo z bu (nI r) (nI i) = some z2) ∧ pu_DF mo looks co bu q s d (k + 1) (yW_r z2) (v i)) :
    ∀ e i, i + e = 21 → ∀ (z1 : WT) (who : WhoT) (look : LookT) (ahead : AheadT) (left : LeftT) (times : TimesT) (part : PartT) (tot : Int64), pu_row ahead k w → yLeft_r left k = nI (2 ^ i * (n / 2 ^ i)) →
      ∃ z1' who' look' ahead' left' times' part' c, c ≤ pu_ct (n.testBit) i e * (1 + pu_co d) + 1 ∧ (∀ j, j < 56 * k → yAhead_r ahead' j = yAhead_r ahead j) ∧ (∀ j, j < k → yLeft_r left' j = yLeft_r left j ∧ yPart_r part' j = yPart_r part j) ∧ (∀ j, j ≤ k → yTimes_r times' j = yTimes_r times j) ∧
        ∀ fuel, f_X12_oddsOf_b17 mo looks co bu (fuel + c) q s tot (nI k) z1 who look ahead left times part = f_X12_oddsOf_b17 mo looks co bu fuel q s (tot + yTimes_r times k * (yPart_r part k * pu_st (n.testBit) v i e)) (nI k + (-1)) z1' who' look' ahead' left' times' part' := by
  intro e
  induction e with
  | zero =>
    intro i hi z1 who look ahead left times part tot hrow hl
    have e0 : n / 2 ^ i = 0 := by
      rw [show i = 21 by omega]
      exact Nat.div_eq_of_lt hn
    rw [e0, Nat.mul_zero] at hl
    refine ⟨z1, who, look, ahead, left, times, part, 1, by omega, fun j _ => rfl, fun j _ => ⟨rfl, rfl⟩, fun j _ => rfl, fun fuel => ?_⟩
    rw [f_X12_oddsOf_b17, if_neg (nI_pos (by omega)), if_pos (pu_inn (by omega) (by omega)), nI_clamp (by omega), hl, if_pos (show nI 0 = 0 from rfl), pu_st, Int64.mul_zero, Int64.mul_zero, Int64.add_zero]
  | succ e ih =>
    intro i hi z1 who look ahead left times part tot hrow hl
    have hb : n.testBit i = decide (n / 2 ^ i % 2 = 1) := by
      rw [Nat.testBit_eq_decide_div_mod_eq]
    have hdiv : n / 2 ^ (i + 1) = n / 2 ^ i / 2 := by rw [Nat.pow_succ, Nat.div_div_eq_div_mul]
    by_cases c : n / 2 ^ i % 2 = 1
    · have hbt : n.testBit i = true := by rw [hb, decide_eq_true c]
      have hlt : 2 ^ i * (n / 2 ^ i) < 2 ^ 21 := Nat.lt_of_le_of_lt (Nat.mul_div_le n (2 ^ i)) hn
      obtain ⟨z2, hDF, etk⟩ := pu_takesM (bu := bu) mo hk hr er z1 ahead left times part (i := i) (m' := n / 2 ^ i) (by omega) c hlt hl hrow (fun z2 => pu_DF mo looks co bu q s d (k + 1) (yW_r z2) (v i)) (hc i (by omega) hbt)
      obtain ⟨z3, who3, look3, ahead3, left3, times3, part3, c3, b1, b2, b3, b4, b5⟩ := hDF z2 who look ahead (yLeft_set_r left (upd (yLeft_r left) k (nI (2 ^ (i + 1) * (n / 2 ^ i / 2))))) (yTimes_set_r times (vp_updL (yTimes_r times) (k + 1) (yTimes_r times k * yPart_r part k))) part tot (fun j _ => rfl)
      have l3 : yLeft_r left3 k = nI (2 ^ (i + 1) * (n / 2 ^ (i + 1))) := by
        rw [(b3 k (by omega)).1, hdiv]
        exact pu_upS _ _ _
      obtain ⟨z4, who4, look4, ahead4, left4, times4, part4, c4, d1, d2, d3, d4, d5⟩ := ih (i + 1) (by omega) z3 who3 look3 ahead3 left3 times3 part3 (tot + (yTimes_r times k * yPart_r part k) * v i) (fun j hj => by rw [b2 _ (by omega)]; exact hrow j hj) l3
      have t3 : ∀ j, j ≤ k → yTimes_r times3 j = yTimes_r times j := fun j hj => by
        rw [b4 j (by omega)]
        exact pk_uLn (by omega)
      refine ⟨z4, who4, look4, ahead4, left4, times4, part4, c4 + c3 + 1, ?_, ?_, ?_, ?_, fun fuel => ?_⟩
      · rw [pu_ct, hbt, pu_tt, Nat.add_mul, Nat.one_mul]; omega
      · intro j hj
        rw [d2 j hj, b2 j (by omega)]
      · intro j hj
        rw [(d3 j hj).1, (d3 j hj).2, (b3 j (by omega)).1, (b3 j (by omega)).2]
        exact ⟨pu_upN _ _ (by omega), rfl⟩
      · intro j hj
        rw [d4 j hj, t3 j hj]
      · have hne : ¬ nI (2 ^ i * (n / 2 ^ i)) = 0 := nI_ne0 (Nat.mul_pos (Nat.two_pow_pos i) (Nat.pos_of_ne_zero (fun z => by rw [z] at c; omega))) (by omega)
        have e1 : (nI (k + 1) + (-1 : Int32)) = nI k := pk_m1 k
        have e2 := b5 (fuel + c4)
        rw [e1, show yTimes_r (yTimes_set_r times (vp_updL (yTimes_r times) (k + 1) (yTimes_r times k * yPart_r part k))) (k + 1) = yTimes_r times k * yPart_r part k from pk_uLs] at e2
        rw [show fuel + (c4 + c3 + 1) = (fuel + c4 + c3) + 1 by omega, f_X12_oddsOf_b17, if_neg (nI_pos (by omega)), if_pos (pu_inn (by omega) (by omega)), nI_clamp (by omega), hl, if_neg hne, etk, pu_sb]
        refine Eq.trans e2 ?_
        rw [d5 fuel, t3 k (Nat.le_refl _), (b3 k (by omega)).2, pu_st, hbt, pu_tt, Int64.mul_add, Int64.mul_add, Int64.mul_assoc, Int64.add_assoc]
    · have hbt : n.testBit i = false := by rw [hb, decide_eq_false c]
      have hl2 : yLeft_r left k = nI (2 ^ (i + 1) * (n / 2 ^ (i + 1))) := by
        rw [hl, hdiv, Nat.pow_succ, Nat.mul_assoc]
        congr 2
        omega
      obtain ⟨z4, who4, look4, ahead4, left4, times4, part4, c4, d1, d2, d3, d4, d5⟩ := ih (i + 1) (by omega) z1 who look ahead left times part tot hrow hl2
      refine ⟨z4, who4, look4, ahead4, left4, times4, part4, c4, ?_, d2, d3, d4, fun fuel => ?_⟩
      · rw [pu_ct, hbt, pu_ff, Nat.zero_add]; exact d1
      · rw [pu_st, hbt, pu_ff, Int64.zero_add]; exact d5 fuel
end PE

/-! the line of a rule -/
section PZ
variable {c : Nat → Nat} {n : Nat} {tape : TapeT} {s e : Nat} {ps : ParserT} {mo : MOT} {pl : PlanT} {bu : BusT} {R N F H : Nat}
theorem pu_eat0 {x : Int32} (h : ¬ (mo_sort mo = 4 ∧ mo_sign mo = x)) : f_X12_eatsSign mo tape x = some (0, mo) := by
  have e20 : f_X12_eatsSign_b20 tape mo = some (0, mo) := by rw [f_X12_eatsSign_b20, f_X12_eatsSign_b21, if_pos rfl, if_pos (Or.inl rfl)]
  rw [f_X12_eatsSign, e20]
  by_cases z4 : mo_sort mo = 4
  · rw [if_pos z4, if_neg (fun z => h ⟨z4, z⟩)]
  · rw [if_neg z4]
theorem pu_eat1 {x : Int32} {m2 : MOT} (h1 : mo_sort mo = 4) (h2 : mo_sign mo = x) (d : f_X12_goesOn mo tape = some m2) : f_X12_eatsSign mo tape x = some (1, m2) := by
  rw [f_X12_eatsSign, if_pos h1, if_pos h2, f_X12_eatsSign_b21, if_neg (show ¬ (1 : Int32) = 0 by decide), d, pu_sb, f_X12_eatsSign_b30, if_pos (Or.inr rfl)]
theorem pu_wantsC {ru : RulesT} {i m : Nat} (hm : m ≤ 4) (hc : ru_count ru i = nI m) (w : Int32) : (f_X8_wants ru i w = some 1 ∧ ∃ j, j < m ∧ ru_wanted ru i j = w) ∨ (f_X8_wants ru i w = some 0 ∧ ∀ j, j < m → ¬ ru_wanted ru i j = w) := by
  refine pu_for (fun f k (_ : Unit) => f_X8_wants_b2 ru f i w k) m (fun k _ => ∀ j, j < k → ¬ ru_wanted ru i j = w) (fun o => (o = some 1 ∧ ∃ j, j < m ∧ ru_wanted ru i j = w) ∨ (o = some 0 ∧ ∀ j, j < m → ¬ ru_wanted ru i j = w)) ?_ ?_ m 0 () 4096 (by omega) (by omega) (fun j hj => by omega)
  · intro f k _ hk hI
    have e1 : f_X8_wants_b2 ru (f + 1) i w (nI k) = (if ru_wanted ru i k = w then some 1 else f_X8_wants_b2 ru f i w (nI (k + 1))) := by
      rw [f_X8_wants_b2, hc, if_neg (nI_ge hk (by omega)), if_pos (pu_inn (show k < 4 by omega) (by omega)), nI_clamp (by omega), nI_1]
    by_cases q : ru_wanted ru i k = w
    · refine Or.inr (Or.inl ⟨?_, k, hk, q⟩)
      show f_X8_wants_b2 ru (f + 1) i w (nI k) = _
      rw [e1, if_pos q]
    · refine Or.inl ⟨(), ?_, fun j hj => ?_⟩
      · show f_X8_wants_b2 ru (f + 1) i w (nI k) = _
        rw [e1, if_neg q]
      · by_cases ej : j = k
        · subst ej; exact q
        · exact hI j (by omega)
  · intro f _ hI
    refine Or.inr ⟨?_, hI⟩
    show f_X8_wants_b2 ru (f + 1) i w (nI m) = _
    rw [f_X8_wants_b2, hc, if_pos (nI_le (Nat.le_refl _) (by omega))]
/-! the reference's look through the ways so far -/
theorem pu_o58 {m : Nat} (k28 : Int32 → Int32 → MOT → BusT → Option (MOT × BusT)) (w : Int32) (hR : R < 4) (hb : bu_rules bu = nI R) (hm : m ≤ 4) (ov : mo_sort mo = 5) : ∀ (d i fuel : Nat), i + d = m → d < fuel → f_X12_readRule_b58 tape k28 fuel (nI m) w (nI i) mo bu = some (mo, bu) := by
  have e115 : f_X12_readRule_b105 tape k28 (nI m) w mo bu = some (mo, bu) := by
    rw [f_X12_readRule_b105]
    by_cases q : nI m = (4 : Int32)
    · rw [if_pos q, pu_oWr ov, pu_sb, f_X12_readRule_b115, if_pos ov]
    · rw [if_neg q, f_X12_readRule_b115, if_pos ov]
  intro d
  induction d with
  | zero => intro i fuel hi hf; cases fuel with
    | zero => omega
    | succ fuel =>
      have : i = m := by omega
      subst this
      rw [f_X12_readRule_b58, if_pos (nI_le (Nat.le_refl _) (by omega))]; exact e115
  | succ d ih => intro i fuel hi hf; cases fuel with
    | zero => omega
    | succ fuel =>
      have e4 : (4 : Int32) * nI R + nI i = nI (4 * R + i) := by rw [show (4 : Int32) = nI 4 from rfl, pk_mul, nI_add]
      rw [f_X12_readRule_b58, if_neg (nI_ge (by omega) (by omega)), if_neg (show ¬ (4 : Int32) ≤ nI i from nI_ge (a := i) (b := 4) (by omega) (by omega)), hb, e4, if_pos (pu_inn (show 4 * R + i < 16 by omega) (by omega)), pu_oWr ov, pu_sb, f_X12_readRule_b99, nI_1, ih (i + 1) fuel (by omega) (by omega)]
      by_cases q : bu_way bu (nI (4 * R + i)).toNatClampNeg = w
      · rw [if_pos q]
      · rw [if_neg q]
theorem pu_55e (k28 : Int32 → Int32 → MOT → BusT → Option (MOT × BusT)) (v w : Int32) (mo : MOT) (bu : BusT) : f_X12_readRule_b55 tape k28 v w mo bu = f_X12_readRule_b58 tape k28 4096 v w (nI 0) mo bu := rfl
theorem pu_58 {m : Nat} (k28 : Int32 → Int32 → MOT → BusT → Option (MOT × BusT)) (w : Int32) (hR : R < 4) (hb : bu_rules bu = nI R) (hm : m ≤ 4) (nov : ¬ mo_sort mo = 5) {mq : MOT} (hw : f_X12_wrong mo 3 = some mq) (hq : mo_sort mq = 5) : ∀ (d i fuel : Nat), i + d = m → d < fuel → ((∀ j, i ≤ j → j < m → ¬ bu_way bu (4 * R + j) = w) ∧ f_X12_readRule_b58 tape k28 fuel (nI m) w (nI i) mo bu = f_X12_readRule_b105 tape k28 (nI m) w mo bu) ∨ ((∃ j, i ≤ j ∧ j < m ∧ bu_way bu (4 * R + j) = w) ∧ f_X12_readRule_b58 tape k28 fuel (nI m) w (nI i) mo bu = some (mq, bu)) := by
  intro d
  induction d with
  | zero => intro i fuel hi hf; cases fuel with
    | zero => omega
    | succ fuel =>
      have : i = m := by omega
      subst this
      refine Or.inl ⟨fun j h1 h2 => by omega, ?_⟩
      rw [f_X12_readRule_b58, if_pos (nI_le (Nat.le_refl _) (by omega))]
  | succ d ih => intro i fuel hi hf; cases fuel with
    | zero => omega
    | succ fuel =>
      have e4 : (4 : Int32) * nI R + nI i = nI (4 * R + i) := by rw [show (4 : Int32) = nI 4 from rfl, pk_mul, nI_add]
      have e1 : f_X12_readRule_b58 tape k28 (fuel + 1) (nI m) w (nI i) mo bu = (if bu_way bu (4 * R + i) = w then some (mq, bu) else f_X12_readRule_b58 tape k28 fuel (nI m) w (nI (i + 1)) mo bu) := by
        rw [f_X12_readRule_b58, if_neg (nI_ge (by omega) (by omega)), if_neg (show ¬ (4 : Int32) ≤ nI i from nI_ge (a := i) (b := 4) (by omega) (by omega)), hb, e4, if_pos (pu_inn (show 4 * R + i < 16 by omega) (by omega)), nI_clamp (by omega), hw, pu_sb, f_X12_readRule_b99, nI_1, pu_o58 k28 w hR hb hm hq d (i + 1) fuel (by omega) (by omega)]
      by_cases q : bu_way bu (4 * R + i) = w
      · exact Or.inr ⟨⟨i, Nat.le_refl _, by omega, q⟩, by rw [e1, if_pos q]⟩
      · rcases ih (i + 1) fuel (by omega) (by omega) with ⟨a, b⟩ | ⟨⟨j, j1, j2, j3⟩, b⟩
        · refine Or.inl ⟨fun j h1 h2 => ?_, by rw [e1, if_neg q, b]⟩
          by_cases ej : j = i
          · subst ej; exact q
          · exact a j (by omega) h2
        · exact Or.inr ⟨⟨j, by omega, j2, j3⟩, by rw [e1, if_neg q, b]⟩
/-- what the ways of rule R leave of the others -/
def pu_UR (R : Nat) (a : RulesT) (b : RulesT) : Prop := (ru_name b = ru_name a) ∧ (∀ i, ¬ i = R → ru_count b i = ru_count a i) ∧ (∀ i, ¬ i = R → ru_wanted b i = ru_wanted a i)
theorem pu_UR.nm {R : Nat} {a : RulesT} {b : RulesT} (h : pu_UR R a b) : ru_name b = ru_name a := h.1
theorem pu_UR.ct {R : Nat} {a : RulesT} {b : RulesT} (h : pu_UR R a b) : ∀ i, ¬ i = R → ru_count b i = ru_count a i := h.2.1
theorem pu_UR.wt {R : Nat} {a : RulesT} {b : RulesT} (h : pu_UR R a b) : ∀ i, ¬ i = R → ru_wanted b i = ru_wanted a i := h.2.2
theorem pu_UR.trans {a b d : RulesT} (h : pu_UR R a b) (k : pu_UR R b d) : pu_UR R a d := ⟨k.nm.trans h.nm, fun i hi => (k.ct i hi).trans (h.ct i hi), fun i hi => (k.wt i hi).trans (h.wt i hi)⟩
/-- what the ways of rule R leave of the reference's bus -/
def pu_UB (R : Nat) (a : BusT) (b : BusT) : Prop := (pu_BFr a b) ∧ (∀ x, x < 4 * R → bu_way b x = bu_way a x) ∧ (∀ i, ¬ i = R → bu_waysMany b i = bu_waysMany a i)
theorem pu_UB.fr {R : Nat} {a : BusT} {b : BusT} (h : pu_UB R a b) : pu_BFr a b := h.1
theorem pu_UB.wy {R : Nat} {a : BusT} {b : BusT} (h : pu_UB R a b) : ∀ x, x < 4 * R → bu_way b x = bu_way a x := h.2.1
theorem pu_UB.wm {R : Nat} {a : BusT} {b : BusT} (h : pu_UB R a b) : ∀ i, ¬ i = R → bu_waysMany b i = bu_waysMany a i := h.2.2
theorem pu_UB.trans {a b d : BusT} (h : pu_UB R a b) (k : pu_UB R b d) : pu_UB R a d := ⟨h.fr.trans k.fr, fun x hx => (k.wy x hx).trans (h.wy x hx), fun i hi => (k.wm i hi).trans (h.wm i hi)⟩
/-- the plan's rules alone -/
def pu_PR (a : PlanT) (b : PlanT) : Prop := (pu_PFr a b) ∧ (pl_ruleCount b = pl_ruleCount a)
theorem pu_PR.fr {a : PlanT} {b : PlanT} (h : pu_PR a b) : pu_PFr a b := h.1
theorem pu_PR.rc {a : PlanT} {b : PlanT} (h : pu_PR a b) : pl_ruleCount b = pl_ruleCount a := h.2
theorem pu_PR.trans {a b d : PlanT} (h : pu_PR a b) (k : pu_PR b d) : pu_PR a d := ⟨h.fr.trans k.fr, k.rc.trans h.rc⟩
theorem pu_PR1 (pl : PlanT) (x : RulesT) : pu_PR pl (pl_set_rules pl x) ∧ pl_rules (pl_set_rules pl x) = x := ⟨⟨⟨rfl, rfl, rfl, rfl, rfl, rfl⟩, rfl⟩, rfl⟩
theorem pu_UB1 (bu : BusT) {R m : Nat} (w : Int32) : pu_UB R bu (bu_set_way bu (upd (bu_way bu) (4 * R + m) w)) ∧ bu_way (bu_set_way bu (upd (bu_way bu) (4 * R + m) w)) = upd (bu_way bu) (4 * R + m) w ∧ bu_rules (bu_set_way bu (upd (bu_way bu) (4 * R + m) w)) = bu_rules bu := by
  have s1 : ∀ (b : BusT) (a : Nat → Int32), pu_BFr b (bu_set_way b a) ∧ bu_way (bu_set_way b a) = a ∧ bu_rules (bu_set_way b a) = bu_rules b ∧ bu_waysMany (bu_set_way b a) = bu_waysMany b := fun b a => ⟨⟨rfl, rfl, rfl, rfl, rfl, rfl, rfl, rfl, rfl, rfl, rfl, rfl, rfl, rfl, rfl, rfl, rfl, rfl, rfl, rfl, rfl, rfl, rfl⟩, rfl, rfl, rfl⟩
  have q := s1 bu (upd (bu_way bu) (4 * R + m) w)
  generalize bu_set_way bu (upd (bu_way bu) (4 * R + m) w) = b at q ⊢
  exact ⟨⟨q.1, fun x hx => by rw [q.2.1, pu_upN _ _ (by omega)], fun i _ => by rw [q.2.2.2]⟩, q.2.1, q.2.2.1⟩
/-- the rule is told: its ways from the m-th on -/
theorem pu_wayLoop (hR : R < 4) : ∀ (k m : Nat) (z1 : PlanT) (b : BusT) (q : ParserT) (mo : MOT) (s e f1 f2 : Nat), m + k = 4 → k < f1 → k + 1 < f2 → pu_TX c n q tape mo → pu_PK c n s e q mo → ru_count (pl_rules z1) R = nI m → bu_rules b = nI R → (∀ j, j < m → ∃ w, w < 9 ∧ ru_wanted (pl_rules z1) R j = nI w ∧ bu_way b (4 * R + j) = nI w) →
    (∃ q' mq z2 b2 m', 1 ≤ m' ∧ m' ≤ 4 ∧ ((f_X4_readWay q (pl_rules z1) R).bind fun r7 => (if r7.1 = 0 then some ((0 : Int32), r7.2.1, (pl_set_rules z1 r7.2.2)) else (if (ps_kind r7.2.1) = (4 : Int32) then f_X4_readRule_b53 f1 R (nI m + (1 : Int32)) r7.2.1 (pl_set_rules z1 r7.2.2) else f_X4_readRule_b89 r7.2.1 (pl_set_rules z1 r7.2.2)))) = f_X4_readRule_b89 q' z2 ∧ f_X12_readRule_b28 tape f2 1 (nI m) mo b = f_X12_readRule_b161 tape (nI m') mq b2 ∧ pu_GO c n s q mo q' mq ∧ pu_PR z1 z2 ∧ pu_UR R (pl_rules z1) (pl_rules z2) ∧ pu_UB R b b2 ∧ bu_rules b2 = nI R ∧ ru_count (pl_rules z2) R = nI m' ∧ ∀ j, j < m' → ∃ w, w < 9 ∧ ru_wanted (pl_rules z2) R j = nI w ∧ bu_way b2 (4 * R + j) = nI w) ∨
    ∃ q' mq z2 b2, ((f_X4_readWay q (pl_rules z1) R).bind fun r7 => (if r7.1 = 0 then some ((0 : Int32), r7.2.1, (pl_set_rules z1 r7.2.2)) else (if (ps_kind r7.2.1) = (4 : Int32) then f_X4_readRule_b53 f1 R (nI m + (1 : Int32)) r7.2.1 (pl_set_rules z1 r7.2.2) else f_X4_readRule_b89 r7.2.1 (pl_set_rules z1 r7.2.2)))) = some (0, q', z2) ∧ f_X12_readRule_b28 tape f2 1 (nI m) mo b = some (mq, b2) ∧ pu_ER q mo q' mq := by
  intro k
  induction k with
  | zero =>
    intro m z1 b q mo s e f1 f2 hm hf1 hf2 t h hc hb hw
    have m4 : m = 4 := by omega
    subst m4
    cases f2 with
    | zero => omega
    | succ f2 =>
      rw [f_X4_readWay, f_X12_readRule_b28, if_neg (show ¬ (1 : Int32) = 0 by decide), if_neg h.sort5]
      refine Or.inr ?_
      rcases pu_wayN t h with ⟨w1, w2⟩ | ⟨w, w9, w1, w2, wk⟩
      · obtain ⟨q', mq, g1, g2, g3⟩ := pu_fail h (k := 1) (by decide)
        refine ⟨q', mq, pl_set_rules z1 (pl_rules z1), b, ?_, ?_, g3⟩
        · rw [w1, pu_sb, if_pos rfl, g1, pu_sb, if_pos (Or.inl rfl), pu_sb, if_pos rfl]
        · rw [w2, pu_sb, if_pos rfl, g2, pu_sb, pu_55e, pu_o58 _ _ hR hb (Nat.le_refl 4) g3.so 4 0 4096 rfl (by omega)]
      · obtain ⟨q3, m3, g1, g2, g3⟩ := pu_fail h (k := 3) (by decide)
        obtain ⟨q5, m5, d1, d2, d3⟩ := pu_fail h (k := 5) (by decide)
        rw [w1, w2, pu_sb, pu_sb, if_neg (pu_ne1 (by omega)), if_neg (pu_ne1 (by omega)), pu_55e]
        rcases pu_58 (tape := tape) (f_X12_readRule_b28 tape f2) (nI w) hR hb (Nat.le_refl 4) h.sort5 g2 g3.so 4 0 4096 rfl (by omega) with ⟨n1, n2⟩ | ⟨n1, n2⟩
        · rcases pu_wantsC (Nat.le_refl 4) hc (nI w) with ⟨_, j, j1, j2⟩ | ⟨p1, _⟩
          · exfalso
            obtain ⟨x, _, x1, x2⟩ := hw j j1
            exact n1 j (by omega) j1 (x2.trans (x1.symm.trans j2))
          · refine ⟨q5, m5, pl_set_rules z1 (pl_rules z1), b, ?_, ?_, d3⟩
            · rw [p1, pu_sb, if_pos rfl, hc, if_neg (show ¬ nI 4 < (4 : Int32) by decide), d1, pu_sb, if_pos (Or.inl rfl), pu_sb, if_pos rfl]
            · rw [n2, f_X12_readRule_b105, if_pos (show nI 4 = (4 : Int32) from rfl), d2, pu_sb, f_X12_readRule_b115, if_pos d3.so]
        · rcases pu_wantsC (Nat.le_refl 4) hc (nI w) with ⟨p1, _⟩ | ⟨_, p2⟩
          · refine ⟨q3, m3, pl_set_rules z1 (pl_rules z1), b, ?_, n2, g3⟩
            · rw [p1, pu_sb, if_neg (show ¬ (1 : Int32) = 0 by decide), g1, pu_sb, if_pos (Or.inl rfl), pu_sb, if_pos rfl]
          · exfalso
            obtain ⟨j, _, j1, j2⟩ := n1
            obtain ⟨x, _, x1, x2⟩ := hw j j1
            exact p2 j j1 (x1.trans (x2.symm.trans j2))
  | succ k ih =>
    intro m z1 b q mo s e f1 f2 hm hf1 hf2 t h hc hb hw
    have m4 : m < 4 := by omega
    cases f2 with
    | zero => omega
    | succ f2 =>
      rw [f_X4_readWay, f_X12_readRule_b28, if_neg (show ¬ (1 : Int32) = 0 by decide), if_neg h.sort5]
      rcases pu_wayN t h with ⟨w1, w2⟩ | ⟨w, w9, w1, w2, wk⟩
      · refine Or.inr ?_
        obtain ⟨q', mq, g1, g2, g3⟩ := pu_fail h (k := 1) (by decide)
        refine ⟨q', mq, pl_set_rules z1 (pl_rules z1), b, ?_, ?_, g3⟩
        · rw [w1, pu_sb, if_pos rfl, g1, pu_sb, if_pos (Or.inl rfl), pu_sb, if_pos rfl]
        · rw [w2, pu_sb, if_pos rfl, g2, pu_sb, pu_55e, pu_o58 _ _ hR hb (by omega) g3.so m 0 4096 (by omega) (by omega)]
      · obtain ⟨q3, m3, g1, g2, g3⟩ := pu_fail h (k := 3) (by decide)
        rw [w1, w2, pu_sb, pu_sb, if_neg (pu_ne1 (by omega)), if_neg (pu_ne1 (by omega)), pu_55e]
        rcases pu_58 (tape := tape) (f_X12_readRule_b28 tape f2) (nI w) hR hb (show m ≤ 4 by omega) h.sort5 g2 g3.so m 0 4096 (by omega) (by omega) with ⟨n1, n2⟩ | ⟨n1, n2⟩
        rotate_left
        · refine Or.inr ?_
          rcases pu_wantsC (show m ≤ 4 by omega) hc (nI w) with ⟨p1, _⟩ | ⟨_, p2⟩
          · refine ⟨q3, m3, pl_set_rules z1 (pl_rules z1), b, ?_, n2, g3⟩
            · rw [p1, pu_sb, if_neg (show ¬ (1 : Int32) = 0 by decide), g1, pu_sb, if_pos (Or.inl rfl), pu_sb, if_pos rfl]
          · exfalso
            obtain ⟨j, _, j1, j2⟩ := n1
            obtain ⟨x, _, x1, x2⟩ := hw j j1
            exact p2 j j1 (x1.trans (x2.symm.trans j2))
        rcases pu_wantsC (show m ≤ 4 by omega) hc (nI w) with ⟨_, j, j1, j2⟩ | ⟨p1, _⟩
        · exfalso
          obtain ⟨x, _, x1, x2⟩ := hw j j1
          exact n1 j (by omega) j1 (x2.trans (x1.symm.trans j2))
        obtain ⟨s1, e1, q1, m1, a1, a2, a3, a4, a5, a6⟩ := pu_adv t h (by rw [wk]; decide) (by rw [wk]; decide)
        -- the class puts the way down
        have ruA : ∀ (ru : RulesT), ru_count ru R = nI m → ∃ ru', (ru_set_count (ru_set_wanted ru (va_up (ru_wanted ru) (R) (upd ((ru_wanted ru) (R)) (((ru_count ru) R)).toNatClampNeg (nI w)))) (upd (ru_count (ru_set_wanted ru (va_up (ru_wanted ru) (R) (upd ((ru_wanted ru) (R)) (((ru_count ru) R)).toNatClampNeg (nI w))))) (R) (((ru_count (ru_set_wanted ru (va_up (ru_wanted ru) (R) (upd ((ru_wanted ru) (R)) (((ru_count ru) R)).toNatClampNeg (nI w))))) R) + (1 : Int32)))) = ru' ∧ pu_UR R ru ru' ∧ ru_count ru' R = nI (m + 1) ∧ ru_wanted ru' R = upd (ru_wanted ru R) m (nI w) := by
          intro ru hc
          have sA : ∀ (r : RulesT) (x : Nat → Nat → Int32) (y : Nat → Int32), ru_name (ru_set_count (ru_set_wanted r x) y) = ru_name r ∧ ru_count (ru_set_count (ru_set_wanted r x) y) = y ∧ ru_wanted (ru_set_count (ru_set_wanted r x) y) = x ∧ ru_count (ru_set_wanted r x) = ru_count r := fun r x y => ⟨rfl, rfl, rfl, rfl⟩
          refine ⟨_, rfl, ⟨(sA _ _ _).1, fun i hi => ?_, fun i hi => ?_⟩, ?_, ?_⟩
          · rw [(sA _ _ _).2.1, pu_upN _ _ hi, (sA ru _ (ru_count ru)).2.2.2]
          · rw [(sA _ _ _).2.2.1]; exact if_neg hi
          · rw [(sA _ _ _).2.1, pu_upS, (sA ru _ (ru_count ru)).2.2.2, hc, nI_1]
          · rw [(sA _ _ _).2.2.1, hc, nI_clamp (by omega)]; exact if_pos rfl
        obtain ⟨ru', v1, v2, v3, v4⟩ := ruA (pl_rules z1) hc
        have e4 : (4 : Int32) * nI R + nI m = nI (4 * R + m) := by rw [show (4 : Int32) = nI 4 from rfl, pk_mul, nI_add]
        have lt4 : nI m < (4 : Int32) := nI_lt (a := m) (b := 4) m4 (by omega)
        have ne4 : ¬ nI m = (4 : Int32) := fun z => by have := (nI_eq (a := m) (b := 4) (by omega) (by omega)).mp z; omega
        have in4 : kb_in? (ru_count (pl_rules z1) R) 4 := by rw [hc]; exact pu_inn m4 (by omega)
        have lt4' : ru_count (pl_rules z1) R < 4 := by rw [hc]; exact lt4
        rw [p1, pu_sb, if_pos rfl, if_pos lt4', if_pos in4, v1, f_X4_readWay_b64, a1, pu_sb, pu_sb, if_neg (show ¬ (1 : Int32) = 0 by decide), n2, f_X12_readRule_b105, if_neg ne4, f_X12_readRule_b115, if_neg h.sort5, hb, e4, if_pos (pu_inn (show 4 * R + m < 16 by omega) (by omega)), nI_clamp (by omega), f_X12_readRule_b144, a2, pu_sb, f_X12_readRule_b151, nI_1]
        obtain ⟨y1, y2⟩ := pu_PR1 z1 ru'
        generalize pl_set_rules z1 ru' = z2 at y1 y2 ⊢
        obtain ⟨y3, y4, y5⟩ := pu_UB1 b (R := R) (m := m) (nI w)
        generalize bu_set_way b (upd (bu_way b) (4 * R + m) (nI w)) = b2 at y3 y4 y5 ⊢
        have hc2 : ru_count (pl_rules z2) R = nI (m + 1) := by rw [y2]; exact v3
        have hb2 : bu_rules b2 = nI R := y5.trans hb
        have hw2 : ∀ j, j < m + 1 → ∃ w, w < 9 ∧ ru_wanted (pl_rules z2) R j = nI w ∧ bu_way b2 (4 * R + j) = nI w := by
          intro j hj
          rw [y2, v4, y4]
          by_cases ej : j = m
          · subst ej
            exact ⟨w, w9, pu_upS _ _ _, pu_upS _ _ _⟩
          · rw [pu_upN _ _ ej, pu_upN _ _ (by omega)]
            exact hw j (by omega)
        have u2 : pu_UR R (pl_rules z1) (pl_rules z2) := by rw [y2]; exact v2
        have gt4 : ¬ (4 : Int32) < nI (m + 1) := fun z => by have := (nI_ltI (a := 4) (b := m + 1) (by omega) (by omega)).mp z; omega
        have sg := a5.sg.2
        by_cases k4 : ps_kind q1 = 4
        rotate_left
        · -- no comma: the rule is done
          rw [if_neg k4]
          refine Or.inl ⟨q1, m1, z2, b2, m + 1, by omega, by omega, rfl, ?_, ⟨s1, e1, a3, a4, a5, a6⟩, y1, u2, y3, hb2, hc2, hw2⟩
          have es : f_X12_eatsSign m1 tape 44 = some (0, m1) := pu_eat0 (fun z => k4 (sg.mpr z))
          rw [es, pu_sb, f_X12_readRule_b158]
          cases f2 with
          | zero => omega
          | succ f2 => rw [f_X12_readRule_b28, if_pos rfl]
        · obtain ⟨sg1, sg2⟩ := sg.mp k4
          obtain ⟨s2, e2, q2, m2, d1, d2, d3, d4, d5, d6⟩ := pu_adv (t.fr a3 a4) a5 (by rw [k4]; decide) (by rw [k4]; decide)
          cases f1 with
          | zero => omega
          | succ f1 =>
            have es : f_X12_eatsSign m1 tape 44 = some (1, m2) := pu_eat1 sg1 sg2 d2
            rw [if_pos k4, f_X4_readRule_b53, if_neg gt4, d1, pu_sb, es, pu_sb, f_X12_readRule_b158]
            have a34 := pu_FP.tr a3 d3
            have a44 := pu_FO.trr a4 d4
            rcases ih (m + 1) z2 b2 q2 m2 s2 e2 f1 f2 (by omega) (by omega) (by omega) (t.fr a34 a44) d5 hc2 hb2 hw2 with ⟨q', mq, z3, b3, m', i1, i2, i3, i4, i5, i6, i7, i8, i9, i10, i11⟩ | ⟨q', mq, z3, b3, i1, i2, i3⟩
            · obtain ⟨s3, e3, o1, o2, o3, o4⟩ := i5
              exact Or.inl ⟨q', mq, z3, b3, m', i1, i2, i3, i4, ⟨s3, e3, pu_FP.tr a34 o1, pu_FO.trr a44 o2, o3, by omega⟩, y1.trans i6, u2.trans i7, y3.trans i8, i9, i10, i11⟩
            · exact Or.inr ⟨q', mq, z3, b3, i1, i2, i3.pre a34 a44⟩
end PZ

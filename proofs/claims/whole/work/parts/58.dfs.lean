/-! odds: the reference's search, level by level -/
section PD
variable {pl : PlanT} {bu : BusT}
theorem pu_tb (n i j : Nat) : (2 ^ i * n).testBit j = (decide (i ≤ j) && n.testBit (j - i)) := by
  rw [Nat.testBit_two_pow_mul]
/-- the row kept ahead -/
def pu_row (ahead : AheadT) (k : Nat) (w : Nat → Int32) : Prop := ∀ j, j < 56 → yAhead_r ahead (56 * k + j) = w j
theorem pu_bits20 : f_X12_bits (1048576 : Int32) = some (nI 1) := by
  rw [f_X12_bits, f_X12_bits_b4, if_neg (by decide), f_X12_bits_b4, if_pos (by decide)]
  rfl
def pu_LT (t : Int32) : Int32 := if t = 0 then 1048576 else pu_FT t
def pu_LC (t : Int32) : Nat := if t = 0 then 1 else pu_cn (bt (pu_FT t)) 20
theorem pu_LC1 {t : Int32} (h : ∀ i, bt t i = true → i < 20) : 1 ≤ pu_LC t ∧ pu_LC t ≤ 12 := by
  unfold pu_LC
  by_cases q : t = 0
  · rw [if_pos q]; omega
  · rw [if_neg q]
    have a := pu_FT_cn t
    have b := (pu_countN (x := pu_FT t) (fun i hi => (pu_FT_lt hi).1)).2.2
    have c : ¬ pu_cn (bt (pu_FT t)) 20 = 0 := fun e => q ((pu_FT_ne h).mp (b.mp e))
    omega
theorem pu_opensM (h : pu_GP pl) (hB : pu_RB pl bu) {rd : RideT} {z1 : WT} (hR : pu_RR pl rd (yW_r z1)) {looks : LooksT} (hL : pu_RL pl rd (yLooks_r looks)) (mo : MOT) (who : WhoT) (look : LookT) {co : ComingT} {k r : Nat} (hk : k < 4) (hr : r < vN pl) (er : yComing_r co k = nI r) (hv : vSits rd r = false) (ahead : AheadT) (left : LeftT) (part : PartT) :
    ∃ M t who2 look2 ahead', f_X6_bestSeats rd pl (nI r) = some M ∧ f_X6_tied rd pl (nI r) M = some t ∧ (∀ s, bt t s = true → s < 20 ∧ vSeat pl s = true ∧ sc_sitter (rd_scene rd) s = -2) ∧ f_X12_opens mo z1 looks who look co ahead left part bu (nI k) = some (who2, look2, ahead', yLeft_set_r left (upd (yLeft_r left) k (pu_LT t)), yPart_set_r part (vp_updL (yPart_r part) k (lN (27720 / pu_LC t)))) ∧ pu_row ahead' k (yW_r z1) ∧ ∀ j, j < 56 * k → yAhead_r ahead' j = yAhead_r ahead j := by
  obtain ⟨M, c, who2, look2, e1, e2, e3, e4, e5, e6⟩ := pu_chosen h hB hR hL mo who look hr hv
  obtain ⟨M', who3, look3, e7, e8, _⟩ := pu_might h hB hR hL mo who2 look2 hr hv
  have eM : M' = M := Option.some.inj (e7.symm.trans e1)
  subst eM
  have e9 := pu_tied rd pl (nI r) M' e2
  have hM : ∀ i, bt M' i = true → i < 20 := fun i hi => (e6 i hi).1
  have fin : ∀ (x : Int32) (who2 : WhoT) (look2 : LookT) (z6 : AheadT), (∀ i, bt x i = true → i < 20) → f_X12_opens_b60 mo z1 looks co bu (nI k) x who2 look2 z6 left part = some (who2, look2, z6, yLeft_set_r left (upd (yLeft_r left) k (pu_LT x)), yPart_set_r part (vp_updL (yPart_r part) k (lN (27720 / pu_LC x)))) := by
    intro x who2 look2 z6 hx
    have hb123 : ∀ T C, 1 ≤ C → C ≤ 12 → f_X12_bits T = some (nI C) → f_X12_opens_b123 mo z1 looks co bu (nI k) T (nI k) who2 look2 z6 left part = some (who2, look2, z6, yLeft_set_r left (upd (yLeft_r left) k T), yPart_set_r part (vp_updL (yPart_r part) k (lN (27720 / C)))) := by
      intro T C h1 h12 hT
      have p := pu_27720 C (by omega) h1
      rw [f_X12_opens_b123, f_X12_opens_b124]
      simp only [if_pos (pu_inn (c := k) (N := 4) (by omega) (by omega)), nI_clamp (show k < 2 ^ 31 by omega)]
      rw [show yLeft_r (yLeft_set_r left (upd (yLeft_r left) k T)) k = T from pu_upS _ _ _, hT, pu_sb, if_pos (nI_ne0 (by omega) (by omega)), p.1, f_X12_opens_b144]
    have cut := pu_cutM (fun n v i c => f_X12_opens_b66 mo z1 looks co bu n (nI k) v i c who2 look2 z6 left part) (fun v => if v = 0 then f_X12_opens_b123 mo z1 looks co bu (nI k) (1048576 : Int32) (nI k) who2 look2 z6 left part else f_X12_opens_b123 mo z1 looks co bu (nI k) v (nI k) who2 look2 z6 left part) (fun n v i c hi => by
      show f_X12_opens_b66 mo z1 looks co bu (n + 1) (nI k) v (nI i) c who2 look2 z6 left part = _
      rw [f_X12_opens_b66, if_neg (pu_ge20 hi), pu_has _ (by omega), pu_sb, pu_ifb, nI_1]) (fun n v c => by
      show f_X12_opens_b66 mo z1 looks co bu (n + 1) (nI k) v (nI 20) c who2 look2 z6 left part = _
      rw [f_X12_opens_b66, if_pos pu_le20]) hx
    rw [f_X12_opens_b60]
    refine Eq.trans cut ?_
    show (if pu_FT x = 0 then _ else _) = _
    unfold pu_LT pu_LC
    by_cases q : x = 0
    · rw [if_pos ((pu_FT_ne hx).mpr q), if_pos q, if_pos q]
      exact hb123 _ 1 (by omega) (by omega) pu_bits20
    · have l := pu_LC1 hx
      unfold pu_LC at l
      rw [if_neg q] at l
      rw [if_neg (fun e => q ((pu_FT_ne hx).mp e)), if_neg q, if_neg q]
      exact hb123 _ _ l.1 l.2 (pu_countN (x := pu_FT x) (fun i hi => (pu_FT_lt hi).1)).2.1
  have run : ∀ t who3 look3, (∀ i, bt t i = true → i < 20) → (∀ n z6, f_X12_opens_b2 mo z1 looks co bu (n + 1) (nI k) (nI 56) who look z6 left part = f_X12_opens_b60 mo z1 looks co bu (nI k) t who3 look3 z6 left part) → ∃ ahead', f_X12_opens mo z1 looks who look co ahead left part bu (nI k) = some (who3, look3, ahead', yLeft_set_r left (upd (yLeft_r left) k (pu_LT t)), yPart_set_r part (vp_updL (yPart_r part) k (lN (27720 / pu_LC t)))) ∧ pu_row ahead' k (yW_r z1) ∧ ∀ j, j < 56 * k → yAhead_r ahead' j = yAhead_r ahead j := by
    intro t who3 look3 ht hend
    rw [f_X12_opens]
    refine pu_for (fun n i z6 => f_X12_opens_b2 mo z1 looks co bu n (nI k) i who look z6 left part) 56 (fun i z => (∀ j, j < i → yAhead_r z (56 * k + j) = yW_r z1 j) ∧ ∀ j, j < 56 * k → yAhead_r z j = yAhead_r ahead j) (fun o => ∃ ahead', o = some (who3, look3, ahead', yLeft_set_r left (upd (yLeft_r left) k (pu_LT t)), yPart_set_r part (vp_updL (yPart_r part) k (lN (27720 / pu_LC t)))) ∧ pu_row ahead' k (yW_r z1) ∧ ∀ j, j < 56 * k → yAhead_r ahead' j = yAhead_r ahead j) ?_ ?_ 56 0 ahead 4096 (by omega) (by omega) ⟨fun j hj => by omega, fun j _ => rfl⟩
    · intro n i z hi ⟨a, b⟩
      refine Or.inl ⟨yAhead_set_r z (upd (yAhead_r z) (56 * k + i) (yW_r z1 i)), ?_, ?_, ?_⟩
      · show f_X12_opens_b2 mo z1 looks co bu (n + 1) (nI k) (nI i) who look z left part = _
        rw [f_X12_opens_b2, if_neg (show ¬ (56 : Int32) ≤ nI i from nI_ge (a := i) (b := 56) hi (by omega)), pu_56, if_pos (pu_inn hi (by omega)), if_pos (pu_inn (by omega) (by omega)), nI_clamp (by omega), nI_clamp (by omega), f_X12_opens_b25, nI_1]
      · intro j hj
        show upd (yAhead_r z) (56 * k + i) (yW_r z1 i) (56 * k + j) = _
        by_cases e : j = i
        · subst e; rw [pu_upS]
        · rw [pu_upN _ _ (by omega)]; exact a j (by omega)
      · intro j hj
        show upd (yAhead_r z) (56 * k + i) (yW_r z1 i) j = _
        rw [pu_upN _ _ (by omega)]; exact b j hj
    · intro n z ⟨a, b⟩
      refine ⟨z, ?_, a, b⟩
      show f_X12_opens_b2 mo z1 looks co bu (n + 1) (nI k) (nI 56) who look z left part = _
      rw [hend n z]
      exact fin t who3 look3 z ht
  have hb2 : ∀ n z6, f_X12_opens_b2 mo z1 looks co bu (n + 1) (nI k) (nI 56) who look z6 left part = if c = -2 then f_X12_opens_b60 mo z1 looks co bu (nI k) 0 who2 look2 z6 left part else f_X12_opens_b60 mo z1 looks co bu (nI k) M' who3 look3 z6 left part := by
    intro n z6
    rw [f_X12_opens_b2, if_pos (show (56 : Int32) ≤ nI 56 by decide)]
    simp only [if_pos (pu_inn (c := k) (N := 8) (by omega) (by omega)), nI_clamp (show k < 2 ^ 31 by omega)]
    rw [er, e4, pu_sb, e8, pu_sb]
  by_cases q : c = -2
  · rw [if_pos q] at e9
    obtain ⟨ahead', x1, x2, x3⟩ := run 0 who2 look2 (fun i hi => by rw [b_0] at hi; cases hi) (fun n z6 => by rw [hb2 n z6, if_pos q])
    exact ⟨M', 0, who2, look2, ahead', e1, e9, (fun s hs => by rw [b_0] at hs; cases hs), x1, x2, x3⟩
  · rw [if_neg q] at e9
    obtain ⟨ahead', x1, x2, x3⟩ := run M' who3 look3 hM (fun n z6 => by rw [hb2 n z6, if_neg q])
    exact ⟨M', M', who3, look3, ahead', e1, e9, e6, x1, x2, x3⟩
/-- one taken of those left -/
theorem pu_takesM (mo : MOT) {co : ComingT} {k r : Nat} (hk : k < 4) (hr : r < 8) (er : yComing_r co k = nI r) (z1 : WT) (ahead : AheadT) (left : LeftT) (times : TimesT) (part : PartT) {i m' : Nat} (hi : i < 21) (hm : m' % 2 = 1) (hlt : 2 ^ i * m' < 2 ^ 21) (el : yLeft_r left k = nI (2 ^ i * m')) {w : Nat → Int32} (hrow : pu_row ahead k w) (X : WT → Prop)
    (hz : ∀ z, (∀ j, j < 56 → yW_r z j = w j) → ∃ z2, (if i = 20 then z2 = yW_set_r z (upd (yW_r z) r 101) else f_X12_sitsDown mo z bu (nI r) (nI i) = some z2) ∧ X z2) :
    ∃ z2, X z2 ∧ f_X12_takesNext mo z1 co ahead left times part bu (nI k) = some (z2, yLeft_set_r left (upd (yLeft_r left) k (nI (2 ^ (i + 1) * (m' / 2)))), yTimes_set_r times (vp_updL (yTimes_r times) (k + 1) (yTimes_r times k * yPart_r part k))) := by
  rw [f_X12_takesNext]
  refine pu_for (fun n v z => f_X12_takesNext_b2 mo co ahead part bu n (nI k) v z left times) 56 (fun v z => ∀ j, j < v → yW_r z j = w j) (fun o => ∃ z2, X z2 ∧ o = some (z2, yLeft_set_r left (upd (yLeft_r left) k (nI (2 ^ (i + 1) * (m' / 2)))), yTimes_set_r times (vp_updL (yTimes_r times) (k + 1) (yTimes_r times k * yPart_r part k)))) ?_ ?_ 56 0 z1 4096 (by omega) (by omega) (fun j hj => by omega)
  · intro n v z hv a
    refine Or.inl ⟨yW_set_r z (upd (yW_r z) v (w v)), ?_, ?_⟩
    · show f_X12_takesNext_b2 mo co ahead part bu (n + 1) (nI k) (nI v) z left times = _
      rw [f_X12_takesNext_b2, if_neg (show ¬ (56 : Int32) ≤ nI v from nI_ge (a := v) (b := 56) hv (by omega)), pu_56, if_pos (pu_inn (by omega) (by omega)), if_pos (pu_inn hv (by omega)), nI_clamp (by omega), nI_clamp (by omega), f_X12_takesNext_b25, nI_1, hrow v hv]
    · exact pu_upI (P := fun k x => x = w k) rfl a
  · intro n z a
    obtain ⟨z2, hz2, hX⟩ := hz z a
    refine ⟨z2, hX, ?_⟩
    have b0 : ∀ j, j < 32 → bt (nI (2 ^ i * m')) j = (decide (i ≤ j) && m'.testBit (j - i)) := fun j hj => by rw [pu_btN hj, pu_tb]
    have f0 : fa_first (bt (nI (2 ^ i * m'))) 21 = i := pu_first_eq hi (by
      rw [b0 i (by omega), decide_eq_true (Nat.le_refl i), Bool.true_and, Nat.sub_self, Nat.testBit_zero, hm]; rfl) (fun j hj => by
      rw [b0 j (by omega), decide_eq_false (by omega), Bool.false_and])
    have fst := pu_fst (nI (2 ^ i * m')) (N := 21) (by omega) (by rw [f0]; exact hi)
    rw [f0] at fst
    have pos : 0 < 2 ^ i * m' := Nat.mul_pos (Nat.two_pow_pos i) (by omega)
    show f_X12_takesNext_b2 mo co ahead part bu (n + 1) (nI k) (nI 56) z left times = _
    rw [f_X12_takesNext_b2, if_pos (show (56 : Int32) ≤ nI 56 by decide)]
    simp only [if_pos (pu_inn (c := k) (N := 4) (by omega) (by omega)), nI_clamp (show k < 2 ^ 31 by omega)]
    rw [el, fst, pu_sb, show nI (2 ^ i * m') - (1 : Int32) = nI (2 ^ i * m' - 1) from pk_sub (a := 2 ^ i * m') (b := 1) (by omega), fa_and, pu_landP i m' hm]
    have b90 : ∀ z left, f_X12_takesNext_b90 mo co ahead part bu (nI k) z left times = some (z, left, yTimes_set_r times (vp_updL (yTimes_r times) (k + 1) (yTimes_r times k * yPart_r part k))) := by
      intro z left
      rw [f_X12_takesNext_b90, nI_1, if_pos (pu_inn (by omega) (by omega)), if_pos (pu_inn (by omega) (by omega)), if_pos (pu_inn (by omega) (by omega)), nI_clamp (by omega), nI_clamp (by omega)]
      rfl
    rw [f_X12_takesNext_b58, if_pos (pu_inn (by omega) (by omega)), nI_clamp (by omega), er, pu_z, if_pos (pu_inn (by omega) (by omega)), nI_clamp (show r < 2 ^ 31 by omega), f_X12_takesNext_b81, b90]
    by_cases q : i = 20
    · subst q
      rw [if_pos rfl] at hz2
      rw [if_pos (show nI 20 = (20 : Int32) by decide), hz2]
    · rw [if_neg q] at hz2
      rw [if_neg (show ¬ nI i = (20 : Int32) from fun e => q ((nI_eq (a := i) (b := 20) (by omega) (by omega)).mp e)), hz2, pu_sb, b90]
end PD

/-! odds: one level of the reference's search -/
theorem pu_st_last (P : Nat → Bool) (v : Nat → Int64) : ∀ e i, pu_st P v i (e + 1) = pu_st P v i e + if P (i + e) then v (i + e) else 0 := by
  intro e
  induction e with
  | zero => intro i; rw [pu_st, pu_st, pu_st, Nat.add_zero, Int64.add_zero, Int64.zero_add]
  | succ e ih =>
    intro i
    rw [pu_st, ih (i + 1), pu_st, show i + 1 + e = i + (e + 1) by omega, Int64.add_assoc]
theorem pu_st_no (P : Nat → Bool) (v : Nat → Int64) : ∀ e i, (∀ j, i ≤ j → j < i + e → P j = false) → pu_st P v i e = 0 := by
  intro e
  induction e with
  | zero => intro i _; rfl
  | succ e ih =>
    intro i h
    rw [pu_st, ih (i + 1) (fun j h1 h2 => h j (by omega) (by omega)), h i (by omega) (by omega)]
    rfl
theorem pu_b20 : ∀ j, j < 21 → (2 ^ 20).testBit j = decide (j = 20) := by decide +kernel
section PF
variable {pl : PlanT} {bu : BusT} {looks : LooksT} {co : ComingT}
theorem pu_DFs (h : pu_GP pl) (hB : pu_RB pl bu) {rd : RideT} {w : Nat → Int32} (hR : pu_RR pl rd w) (hL : pu_RL pl rd (yLooks_r looks)) (mo : MOT) (q s : Int32) {d k r m : Nat} (hk : k < 4) (hd : k + 1 + d = m) (hm : m ≤ 4) (em : mo_comers mo = nI m) (hr : r < vN pl) (er : yComing_r co k = nI r) (hv : vSits rd r = false) :
    ∃ M t, f_X6_bestSeats rd pl (nI r) = some M ∧ f_X6_tied rd pl (nI r) M = some t ∧ (∀ s, bt t s = true → s < 20 ∧ vSeat pl s = true ∧ sc_sitter (rd_scene rd) s = -2) ∧
      (t = 0 → ∀ v1, (∀ z : WT, (∀ j, j < 56 → yW_r z j = w j) → pu_DF mo looks co bu q s d (k + 1) (upd (yW_r z) r 101) v1) → pu_DF mo looks co bu q s (d + 1) k w ((27720 : Int64) * v1)) ∧
      (¬ t = 0 → ∀ v : Nat → Int64, (∀ i, bt (pu_FT t) i = true → ∀ z : WT, (∀ j, j < 56 → yW_r z j = w j) → ∃ z2, f_X12_sitsDown mo z bu (nI r) (nI i) = some z2 ∧ pu_DF mo looks co bu q s d (k + 1) (yW_r z2) (v i)) → pu_DF mo looks co bu q s (d + 1) k w (lN (27720 / pu_LC t) * pu_st (bt (pu_FT t)) v 0 20)) := by
  have h8 := h.riders.2.2
  have dWho : WhoT := fun _ => 0
  have dLook : LookT := fun _ => 0
  have dA : AheadT := fun _ => 0
  have dL : LeftT := fun _ => 0
  have dP : PartT := fun _ => 0
  obtain ⟨M, t, _, _, _, e1, e2, e3, _, _, _⟩ := pu_opensM h hB (z1 := w) hR hL mo dWho dLook hk hr er hv dA dL dP
  refine ⟨M, t, e1, e2, e3, ?_⟩
  have ht : ∀ i, bt t i = true → i < 20 := fun i hi => (e3 i hi).1
  have core : ∀ (n : Nat) (v : Nat → Int64), n < 2 ^ 21 → pu_LT t = nI n → pu_ct (n.testBit) 0 21 ≤ 12 → (∀ i, i < 21 → n.testBit i = true → ∀ z, (∀ j, j < 56 → yW_r z j = w j) → ∃ z2, (if i = 20 then z2 = yW_set_r z (upd (yW_r z) r 101) else f_X12_sitsDown mo z bu (nI r) (nI i) = some z2) ∧ pu_DF mo looks co bu q s d (k + 1) (yW_r z2) (v i)) → pu_DF mo looks co bu q s (d + 1) k w (lN (27720 / pu_LC t) * pu_st (n.testBit) v 0 21) := by
    intro n v hn hT hct hc z1 who look ahead left times part tot hz
    have hR1 : pu_RR pl rd (yW_r z1) := pu_RCc h hR (fun _ _ => rfl) (fun _ _ => rfl) (fun _ _ => rfl) (fun _ _ => rfl) (fun _ _ => rfl) (fun _ _ => rfl) hz
    obtain ⟨M', t', who2, look2, ahead', a1, a2, _, a3, a4, a5⟩ := pu_opensM h hB hR1 hL mo who look hk hr er hv ahead left part
    have x1 : M' = M := Option.some.inj (a1.symm.trans e1)
    subst x1
    have x2 : t' = t := Option.some.inj (a2.symm.trans e2)
    subst x2
    have lk : yLeft_r (yLeft_set_r left (upd (yLeft_r left) k (pu_LT t'))) k = nI (2 ^ 0 * (n / 2 ^ 0)) := by
      rw [Nat.pow_zero, Nat.div_one, Nat.one_mul, ← hT]
      exact pu_upS _ _ _
    obtain ⟨z4, who4, look4, ahead4, left4, times4, part4, c4, d1, d2, d3, d4, d5⟩ := pu_level mo looks co bu q s hk (by omega) er hd hn v hc 21 0 rfl z1 who2 look2 ahead' (yLeft_set_r left (upd (yLeft_r left) k (pu_LT t'))) times (yPart_set_r part (vp_updL (yPart_r part) k (lN (27720 / pu_LC t')))) tot (fun j hj => by rw [a4 j hj, hz j hj]) lk
    refine ⟨z4, who4, look4, ahead4, left4, times4, part4, c4, ?_, ?_, ?_, d4, fun fuel => ?_⟩
    · refine Nat.le_trans d1 ?_
      show _ ≤ 12 * (1 + pu_co d) + 1
      exact Nat.add_le_add_right (Nat.mul_le_mul_right _ hct) 1
    · intro j hj
      rw [d2 j hj, a5 j hj]
    · intro j hj
      rw [(d3 j hj).1, (d3 j hj).2]
      exact ⟨pu_upN _ _ (by omega), pk_uLn (by omega)⟩
    · have d6 := d5 fuel
      rw [show yPart_r (yPart_set_r part (vp_updL (yPart_r part) k (lN (27720 / pu_LC t')))) k = lN (27720 / pu_LC t') from pk_uLs] at d6
      rw [f_X12_oddsOf_b44, pu_m11, em, if_neg (nI_ge (by omega) (by omega)), a3, pu_sb, f_X12_oddsOf_b64]
      exact d6
  constructor
  · intro t0 v1 hch
    have c := core (2 ^ 20) (fun _ => v1) (by decide) (by unfold pu_LT; rw [if_pos t0]; rfl) (by decide +kernel) (fun i hi hb z hz => by
      rw [pu_b20 i hi] at hb
      have i20 : i = 20 := of_decide_eq_true hb
      refine ⟨yW_set_r z (upd (yW_r z) r 101), ?_, hch z hz⟩
      rw [if_pos i20])
    have l : pu_LC t = 1 := by unfold pu_LC; rw [if_pos t0]
    have es : pu_st (Nat.testBit (2 ^ 20)) (fun _ => v1) 0 20 = 0 := pu_st_no (Nat.testBit (2 ^ 20)) (fun _ => v1) 20 0 (fun j _ hj => by rw [pu_b20 j (by omega), decide_eq_false (by omega)])
    rw [l, pu_st_last, es, show Nat.testBit (2 ^ 20) (0 + 20) = true by decide +kernel, pu_tt, Int64.zero_add] at c
    exact c
  · intro t0 v hch
    obtain ⟨n, hn, eT⟩ := pu_seatsN (x := pu_FT t) (fun i hi => (pu_FT_lt hi).1)
    have eb : ∀ j, j < 32 → n.testBit j = bt (pu_FT t) j := fun j hj => by rw [eT, pu_btN hj]
    have b20 : n.testBit 20 = false := by
      rw [eb 20 (by omega), pu_FT_bt]
      rfl
    have ct : pu_ct (n.testBit) 0 21 ≤ 12 := by
      rw [pu_ct_cn, pu_cn, Nat.zero_add, b20, pu_ff, pu_cn_ext (Q := bt (pu_FT t)) (fun i hi => by rw [Nat.zero_add]; exact eb i (by omega))]
      exact pu_FT_cn t
    have c := core n v (by omega) (by unfold pu_LT; rw [if_neg t0, eT]) ct (fun i hi hb z hz => by
      have i20 : ¬ i = 20 := fun e => by rw [e, b20] at hb; cases hb
      rw [eb i (by omega)] at hb
      obtain ⟨z2, y1, y2⟩ := hch i hb z hz
      exact ⟨z2, by rw [if_neg i20]; exact y1, y2⟩)
    rw [pu_st_last, Nat.zero_add, b20, pu_ff, Int64.add_zero, pu_st_ext (Q := bt (pu_FT t)) (u := v) (fun j _ hj => ⟨eb j (by omega), fun _ => rfl⟩)] at c
    exact c
end PF

/-! feed: twenty bytes -/
section PN
/-- the byte that the class takes at shift v, and the reference's -/
def pu_by (x v : Int32) : Int32 := vp_nar .byte (((x.toUInt32 >>> (v.toUInt32 &&& Int32.toUInt32 31)).toInt32)).toInt8.toInt32
def pu_by2 (x v : Int32) : Int32 := vp_nar .byte ((x >>> (v &&& 31))).toInt8.toInt32
theorem pu_byEq (x : Int32) (k : Nat) (hk : k ≤ 24) : pu_by x (nI k) = pu_by2 x (nI k) := by
  unfold pu_by pu_by2
  have e : ((x.toUInt32 >>> ((nI k).toUInt32 &&& Int32.toUInt32 31)).toInt32).toInt8 = (x >>> (nI k &&& 31)).toInt8 := by
    apply Int8.toBitVec_inj.mp
    apply BitVec.eq_of_getLsbD_eq
    intro i hi
    have s1 : ∀ k, k < 25 → ((nI k).toUInt32 &&& Int32.toUInt32 31).toBitVec.toNat % 32 = k := by decide +kernel
    have b2 := b_sshr k (by omega) x (show i < 32 by omega)
    rw [if_pos (by omega)] at b2
    show ((((x.toBitVec >>> (((nI k).toUInt32 &&& Int32.toUInt32 31).toBitVec % 32#32))).signExtend 8).getLsbD i) = (((x >>> (nI k &&& 31)).toBitVec).signExtend 8).getLsbD i
    rw [BitVec.getLsbD_signExtend, BitVec.getLsbD_signExtend, decide_eq_true hi, Bool.true_and, Bool.true_and, if_pos (by omega), if_pos (by omega)]
    refine Eq.trans ?_ b2.symm
    rw [BitVec.ushiftRight_eq', BitVec.getLsbD_ushiftRight]
    have s2 := s1 k (by omega)
    show x.toBitVec.getLsbD ((((nI k).toUInt32 &&& Int32.toUInt32 31).toBitVec % 32#32).toNat + i) = x.toBitVec.getLsbD _
    rw [BitVec.toNat_umod]
    congr 1
    show (((nI k).toUInt32 &&& Int32.toUInt32 31).toBitVec).toNat % 32 + i = _
    rw [s2]
  rw [e]
theorem pu_app1 (n : Nat) (v1 v2 : Int32) {z : ParserT} {L : Nat} (e : ps_length z = nI L) (hL : L < 900) (h2 : ¬ v2 < 0) : f_X4_append_b3 (n + 1) v1 v2 z = f_X4_append_b3 n v1 (v2 + (-8 : Int32)) (ps_set_length (ps_set_text z (upd (ps_text z) L (pu_by v1 v2))) (nI (L + 1))) := by
  rw [f_X4_append_b3, if_neg h2, e, if_neg (show ¬ (900 : Int32) ≤ nI L from nI_ge (a := L) (b := 900) hL (by omega)), if_pos (pu_inn hL (by omega)), nI_clamp (by omega), f_X4_append_b40]
  show f_X4_append_b3 n v1 _ (ps_set_length _ (ps_length z + 1)) = _
  rw [e, nI_1]
  rfl
theorem pu_app4 (x : Int32) {z : ParserT} {L : Nat} (e : ps_length z = nI L) (hL : L + 4 ≤ 900) : ∃ T, f_X4_append z x = some (ps_set_length (ps_set_text z T) (nI (L + 4))) ∧ ∀ j, j < L + 4 → T j = if j < L then ps_text z j else pu_by2 x (nI (24 - 8 * (j - L))) := by
  refine ⟨upd (upd (upd (upd (ps_text z) L (pu_by x 24)) (L + 1) (pu_by x (24 + -8))) (L + 2) (pu_by x (24 + -8 + -8))) (L + 3) (pu_by x (24 + -8 + -8 + -8)), ?_, ?_⟩
  · show f_X4_append_b3 (4095 + 1) x 24 z = _
    rw [pu_app1 4095 x 24 e (by omega) (by decide)]
    rw [show (4095 : Nat) = 4094 + 1 from rfl, pu_app1 4094 x (24 + -8) (L := L + 1) rfl (by omega) (by decide)]
    rw [show (4094 : Nat) = 4093 + 1 from rfl, pu_app1 4093 x (24 + -8 + -8) (L := L + 2) rfl (by omega) (by decide)]
    rw [show (4093 : Nat) = 4092 + 1 from rfl, pu_app1 4092 x (24 + -8 + -8 + -8) (L := L + 3) rfl (by omega) (by decide)]
    rw [show (4092 : Nat) = 4091 + 1 from rfl, f_X4_append_b3, if_pos (by decide)]
    rfl
  · intro j hj
    rcases (show j < L ∨ j = L ∨ j = L + 1 ∨ j = L + 2 ∨ j = L + 3 by omega) with q | q | q | q | q
    · rw [if_pos q, pu_upN _ _ (by omega), pu_upN _ _ (by omega), pu_upN _ _ (by omega), pu_upN _ _ (by omega)]
    · subst q
      rw [if_neg (by omega), pu_upN _ _ (by omega), pu_upN _ _ (by omega), pu_upN _ _ (by omega), pu_upS, Nat.sub_self]
      exact pu_byEq x 24 (by omega)
    · subst q
      rw [if_neg (by omega), pu_upN _ _ (by omega), pu_upN _ _ (by omega), pu_upS, show L + 1 - L = 1 by omega]
      exact pu_byEq x 16 (by omega)
    · subst q
      rw [if_neg (by omega), pu_upN _ _ (by omega), pu_upS, show L + 2 - L = 2 by omega]
      exact pu_byEq x 8 (by omega)
    · subst q
      rw [if_neg (by omega), pu_upS, show L + 3 - L = 3 by omega]
      exact pu_byEq x 0 (by omega)
/-- of five words the one at byte i -/
def pu_fw (v1 v2 v3 v4 v5 : Int32) (i : Nat) : Int32 := if i < 4 then v1 else if i < 8 then v2 else if i < 12 then v3 else if i < 16 then v4 else v5
def pu_fb (v1 v2 v3 v4 v5 : Int32) (i : Nat) : Int32 := pu_by2 (pu_fw v1 v2 v3 v4 v5 i) (nI (24 - 8 * (i % 4)))
theorem pu_feedC (tp : TopT) {ps : ParserT} {L : Nat} (e : ps_length ps = nI L) (hL : L + 20 ≤ 900) (v1 v2 v3 v4 v5 : Int32) : ∃ T, f_X10_feed tp ps v1 v2 v3 v4 v5 = some (nI (L + 20), ps_set_length (ps_set_text ps T) (nI (L + 20))) ∧ ∀ j, j < L + 20 → T j = if j < L then ps_text ps j else pu_fb v1 v2 v3 v4 v5 (j - L) := by
  obtain ⟨T1, a1, b1⟩ := pu_app4 v1 e (by omega)
  obtain ⟨T2, a2, b2⟩ := pu_app4 v2 (z := ps_set_length (ps_set_text ps T1) (nI (L + 4))) (L := L + 4) rfl (by omega)
  obtain ⟨T3, a3, b3⟩ := pu_app4 v3 (z := ps_set_length (ps_set_text ps T2) (nI (L + 8))) (L := L + 8) rfl (by omega)
  obtain ⟨T4, a4, b4⟩ := pu_app4 v4 (z := ps_set_length (ps_set_text ps T3) (nI (L + 12))) (L := L + 12) rfl (by omega)
  obtain ⟨T5, a5, b5⟩ := pu_app4 v5 (z := ps_set_length (ps_set_text ps T4) (nI (L + 16))) (L := L + 16) rfl (by omega)
  refine ⟨T5, ?_, ?_⟩
  · have c : ps_length ps + (20 : Int32) ≤ (900 : Int32) := by
      rw [e, show nI L + (20 : Int32) = nI (L + 20) from nI_add L 20]
      exact nI_le (a := L + 20) (b := 900) hL (by omega)
    rw [f_X10_feed, if_pos c, a1, pu_sb, a2, pu_sb, f_X10_feed_b34]
    show ((f_X4_append (ps_set_length (ps_set_text ps T2) (nI (L + 8))) v3).bind fun r4 => (f_X4_append r4 v4).bind fun r5 => f_X10_feed_b51 tp v5 r5) = _
    rw [a3, pu_sb]
    show ((f_X4_append (ps_set_length (ps_set_text ps T3) (nI (L + 12))) v4).bind fun r5 => f_X10_feed_b51 tp v5 r5) = _
    rw [a4, pu_sb, f_X10_feed_b51]
    show ((f_X4_append (ps_set_length (ps_set_text ps T4) (nI (L + 16))) v5).bind fun r6 => some ((ps_length r6), r6)) = _
    rw [a5]
    rfl
  · intro j hj
    unfold pu_fb pu_fw
    rw [b5 j hj]
    by_cases q5 : j < L + 16
    · rw [if_pos q5]
      show T4 j = _
      rw [b4 j q5]
      by_cases q4 : j < L + 12
      · rw [if_pos q4]
        show T3 j = _
        rw [b3 j q4]
        by_cases q3 : j < L + 8
        · rw [if_pos q3]
          show T2 j = _
          rw [b2 j q3]
          by_cases q2 : j < L + 4
          · rw [if_pos q2]
            show T1 j = _
            rw [b1 j q2]
            by_cases q1 : j < L
            · rw [if_pos q1, if_pos q1]
            · rw [if_neg q1, if_neg q1, if_pos (show j - L < 4 by omega), show (j - L) % 4 = j - L by omega]
          · rw [if_neg q2, if_neg (show ¬ j < L by omega), if_neg (show ¬ j - L < 4 by omega), if_pos (show j - L < 8 by omega), show (j - L) % 4 = j - (L + 4) by omega]
        · rw [if_neg q3, if_neg (show ¬ j < L by omega), if_neg (show ¬ j - L < 4 by omega), if_neg (show ¬ j - L < 8 by omega), if_pos (show j - L < 12 by omega), show (j - L) % 4 = j - (L + 8) by omega]
      · rw [if_neg q4, if_neg (show ¬ j < L by omega), if_neg (show ¬ j - L < 4 by omega), if_neg (show ¬ j - L < 8 by omega), if_neg (show ¬ j - L < 12 by omega), if_pos (show j - L < 16 by omega), show (j - L) % 4 = j - (L + 12) by omega]
    · rw [if_neg q5, if_neg (show ¬ j < L by omega), if_neg (show ¬ j - L < 4 by omega), if_neg (show ¬ j - L < 8 by omega), if_neg (show ¬ j - L < 12 by omega), if_neg (show ¬ j - L < 16 by omega), show (j - L) % 4 = j - (L + 16) by omega]
theorem pu_feedM {mo : MOT} {L : Nat} (e : mo_taped mo = nI L) (hL : L + 20 ≤ 900) (tape : TapeT) (v1 v2 v3 v4 v5 : Int32) : ∃ T, f_X12_feed mo tape v1 v2 v3 v4 v5 = some (nI (L + 20), mo_set_taped (mo_set_thrown mo 0) (nI (L + 20)), yTape_set_r tape T) ∧ ∀ j, j < L + 20 → T j = if j < L then yTape_r tape j else pu_fb v1 v2 v3 v4 v5 (j - L) := by
  have c : mo_taped (mo_set_thrown mo 0) + (20 : Int32) ≤ (900 : Int32) := by
    rw [show mo_taped (mo_set_thrown mo 0) = nI L from e, show nI L + (20 : Int32) = nI (L + 20) from nI_add L 20]
    exact nI_le (a := L + 20) (b := 900) hL (by omega)
  rw [f_X12_feed, f_X12_feed_b5, if_pos c]
  refine pu_for (fun n i (a : MOT × TapeT) => f_X12_feed_b23 n v1 v2 v3 v4 v5 i a.1 a.2) 20 (fun i a => ((i = 0 ∧ a.1 = mo_set_thrown mo 0) ∨ (0 < i ∧ a.1 = mo_set_taped (mo_set_thrown mo 0) (nI (L + i)))) ∧ ∀ j, j < L + i → yTape_r a.2 j = if j < L then yTape_r tape j else pu_fb v1 v2 v3 v4 v5 (j - L)) (fun o => ∃ T, o = some (nI (L + 20), mo_set_taped (mo_set_thrown mo 0) (nI (L + 20)), yTape_set_r tape T) ∧ ∀ j, j < L + 20 → T j = if j < L then yTape_r tape j else pu_fb v1 v2 v3 v4 v5 (j - L)) ?_ ?_ 20 0 (mo_set_thrown mo 0, tape) 4096 (by omega) (by omega) ⟨Or.inl ⟨rfl, rfl⟩, fun j hj => by rw [if_pos (by omega)]⟩
  · rintro n i ⟨z0, z1⟩ hi ⟨hz, ht⟩
    replace hz : (i = 0 ∧ z0 = mo_set_thrown mo 0) ∨ (0 < i ∧ z0 = mo_set_taped (mo_set_thrown mo 0) (nI (L + i))) := hz
    have et : mo_taped z0 = nI (L + i) := by
      rcases hz with ⟨rfl, rfl⟩ | ⟨_, rfl⟩
      · exact e
      · rfl
    have es : ∀ x, mo_set_taped z0 x = mo_set_taped (mo_set_thrown mo 0) x := by
      intro x
      rcases hz with ⟨_, rfl⟩ | ⟨_, rfl⟩ <;> rfl
    have le : ∀ k, k < 100 → ((nI k ≤ nI i) ↔ k ≤ i) := fun k hk => nI_leI (by omega) (by omega)
    have e1 : f_X12_feed_b23 (n + 1) v1 v2 v3 v4 v5 (nI i) z0 z1 = f_X12_feed_b76 (f_X12_feed_b23 n) v1 v2 v3 v4 v5 (nI i) (pu_fw v1 v2 v3 v4 v5 i) z0 z1 := by
      rw [f_X12_feed_b23, if_neg (pu_ge20 hi)]
      unfold pu_fw
      by_cases q1 : i < 4
      · rw [if_pos q1, if_neg (show ¬ (4 : Int32) ≤ nI i from fun z => by have := (le 4 (by omega)).mp z; omega)]
      · rw [if_neg q1, if_pos (show (4 : Int32) ≤ nI i from (le 4 (by omega)).mpr (by omega))]
        by_cases q2 : i < 8
        · rw [if_pos q2, if_neg (show ¬ (8 : Int32) ≤ nI i from fun z => by have := (le 8 (by omega)).mp z; omega)]
        · rw [if_neg q2, if_pos (show (8 : Int32) ≤ nI i from (le 8 (by omega)).mpr (by omega))]
          by_cases q3 : i < 12
          · rw [if_pos q3, if_neg (show ¬ (12 : Int32) ≤ nI i from fun z => by have := (le 12 (by omega)).mp z; omega)]
          · rw [if_neg q3, if_pos (show (12 : Int32) ≤ nI i from (le 12 (by omega)).mpr (by omega))]
            by_cases q4 : i < 16
            · rw [if_pos q4, if_neg (show ¬ (16 : Int32) ≤ nI i from fun z => by have := (le 16 (by omega)).mp z; omega)]
            · rw [if_neg q4, if_pos (show (16 : Int32) ≤ nI i from (le 16 (by omega)).mpr (by omega))]
    have m4 : i % 4 < 4 := Nat.mod_lt _ (by omega)
    have e2 : (24 : Int32) - (8 : Int32) * nI (i % 4) = nI (24 - 8 * (i % 4)) := by
      rw [show (8 : Int32) * nI (i % 4) = nI (8 * (i % 4)) from pk_mul 8 _]
      exact pk_sub (a := 24) (b := 8 * (i % 4)) (by omega)
    refine Or.inl ⟨(mo_set_taped (mo_set_thrown mo 0) (nI (L + (i + 1))), yTape_set_r z1 (upd (yTape_r z1) (L + i) (pu_fb v1 v2 v3 v4 v5 i))), ?_, Or.inr ⟨by omega, rfl⟩, ?_⟩
    · show f_X12_feed_b23 (n + 1) v1 v2 v3 v4 v5 (nI i) z0 z1 = f_X12_feed_b23 n v1 v2 v3 v4 v5 (nI (i + 1)) (mo_set_taped (mo_set_thrown mo 0) (nI (L + (i + 1)))) (yTape_set_r z1 (upd (yTape_r z1) (L + i) (pu_fb v1 v2 v3 v4 v5 i)))
      rw [e1, f_X12_feed_b76, et, if_pos (pu_inn (by omega) (by omega)), nI_clamp (by omega), pu_rem4 (by omega), e2, f_X12_feed_b101, f_X12_feed_b111, et, nI_1, nI_1, es]
      rfl
    · intro j hj
      show upd (yTape_r z1) (L + i) (pu_fb v1 v2 v3 v4 v5 i) j = _
      by_cases q : j = L + i
      · subst q; rw [pu_upS, if_neg (by omega), show L + i - L = i by omega]
      · rw [pu_upN _ _ q]; exact ht j (by omega)
  · rintro n ⟨z0, z1⟩ ⟨hz, ht⟩
    rcases hz with ⟨q, _⟩ | ⟨_, hz⟩
    · omega
    · replace hz : z0 = mo_set_taped (mo_set_thrown mo 0) (nI (L + 20)) := hz
      subst hz
      refine ⟨yTape_r z1, ?_, ht⟩
      show f_X12_feed_b23 (n + 1) v1 v2 v3 v4 v5 (nI 20) _ z1 = _
      rw [f_X12_feed_b23, if_pos pu_le20]
      rfl
/-- feed, of both -/
theorem pu_feed (tp : TopT) {ps : ParserT} {mo : MOT} {L : Nat} (h900 : L ≤ 900) (e : ps_length ps = nI L) (e2 : mo_taped mo = nI L) {tape : TapeT} (ht : ∀ j, j < L → ps_text ps j = yTape_r tape j) (v1 v2 v3 v4 v5 : Int32) : (f_X10_feed tp ps v1 v2 v3 v4 v5 = some (-1, ps) ∧ f_X12_feed mo tape v1 v2 v3 v4 v5 = some (-1, mo_set_thrown mo 0, tape)) ∨ ∃ T T2, L + 20 ≤ 900 ∧ f_X10_feed tp ps v1 v2 v3 v4 v5 = some (nI (L + 20), ps_set_length (ps_set_text ps T) (nI (L + 20))) ∧ f_X12_feed mo tape v1 v2 v3 v4 v5 = some (nI (L + 20), mo_set_taped (mo_set_thrown mo 0) (nI (L + 20)), yTape_set_r tape T2) ∧ ∀ j, j < L + 20 → T j = T2 j := by
  by_cases q : L + 20 ≤ 900
  · obtain ⟨T, a, b⟩ := pu_feedC tp e q v1 v2 v3 v4 v5
    obtain ⟨T2, a2, b2⟩ := pu_feedM e2 q tape v1 v2 v3 v4 v5
    refine Or.inr ⟨T, T2, q, a, a2, fun j hj => ?_⟩
    rw [b j hj, b2 j hj]
    by_cases c : j < L
    · rw [if_pos c, if_pos c, ht j c]
    · rw [if_neg c, if_neg c]
  · have c : ¬ nI L + (20 : Int32) ≤ (900 : Int32) := by
      rw [show nI L + (20 : Int32) = nI (L + 20) from nI_add L 20]
      exact nI_ge (a := 900) (b := L + 20) (by omega) (by omega)
    refine Or.inl ⟨?_, ?_⟩
    · rw [f_X10_feed, e, if_neg c]
    · rw [f_X12_feed, f_X12_feed_b5, show mo_taped (mo_set_thrown mo 0) = nI L from e2, if_neg c]
end PN

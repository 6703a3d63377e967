/-! what the Statement gives at the law's start -/
def kb_nar : List Cond := flatC (Jvm.Cond.and given_1 narrow_1)
def kb_tm (i : Nat) : Term := .string (kb_sr.getD i ("", 0, "", 0)).1 (kb_sr.getD i ("", 0, "", 0)).2.1
def kd_ba : List Nat := [69, 76, 84, 92, 100, 108, 116, 123, 131, 140, 148, 156, 165, 172, 182, 191, 200, 208, 217, 225, 235, 244, 255, 264, 271, 280, 286, 293, 299, 308, 315, 322, 330]
def kd_bb : List Nat := [0, 0, 0, 0, 0, 0, 0, 0, 0, 0, 0, 0, 0, 0, 0, 0, 0, 0, 0, 0, 0, 0, 0, 0, 0, 0, 0, 0, 0, 0, 0, 0, 0, 370, 379, 388, 397, 406, 415, 423, 432, 442, 451, 460, 470, 478, 489, 499, 509, 518, 528, 537, 548, 558, 570, 580, 588, 598, 605, 613, 620, 630, 638, 646, 655]
theorem kd_t0 : ∀ i, i < 33 → kb_len.getD i 0 < 2 ^ 31 := by decide +kernel
theorem kd_v1 : ∀ i, i < 33 → kb_nar[kd_ba.getD i 0 + 0]? = some (Cond.exactly (kb_tm i) "java/lang/String") := by decide +kernel
theorem kd_t1 : ∀ i, i < 33 → Cond.exactly (kb_tm i) "java/lang/String" ∈ kb_nar := fun i h => List.mem_of_getElem? (kd_v1 i h)
theorem kd_v2 : ∀ i, i < 33 → kb_nar[kd_ba.getD i 0 + 1]? = some (Cond.eq (.field (kb_tm i) "java/lang/String" "coder" "B") (.int 0)) := by decide +kernel
theorem kd_t2 : ∀ i, i < 33 → Cond.eq (.field (kb_tm i) "java/lang/String" "coder" "B") (.int 0) ∈ kb_nar := fun i h => List.mem_of_getElem? (kd_v2 i h)
theorem kd_v3 : ∀ i, i < 33 → kb_nar[kd_ba.getD i 0 + 2]? = some (Cond.arrayOf (.field (kb_tm i) "java/lang/String" "value" "[B") .byte) := by decide +kernel
theorem kd_t3 : ∀ i, i < 33 → Cond.arrayOf (.field (kb_tm i) "java/lang/String" "value" "[B") .byte ∈ kb_nar := fun i h => List.mem_of_getElem? (kd_v3 i h)
theorem kd_v4 : ∀ i, i < 33 → kb_nar[kd_ba.getD i 0 + 3]? = some (Cond.eq (.length (.field (kb_tm i) "java/lang/String" "value" "[B")) (.int (Int32.ofNat (kb_len.getD i 0)))) := by decide +kernel
theorem kd_t4 : ∀ i, i < 33 → Cond.eq (.length (.field (kb_tm i) "java/lang/String" "value" "[B")) (.int (Int32.ofNat (kb_len.getD i 0))) ∈ kb_nar := fun i h => List.mem_of_getElem? (kd_v4 i h)
theorem kd_v5 : ∀ i, i < 33 → ∀ j, j < kb_len.getD i 0 → kb_nar[kd_ba.getD i 0 + 4 + j]? = some (Cond.eq (.elem (.field (kb_tm i) "java/lang/String" "value" "[B") (.int (Int32.ofNat j))) (.int ((kb_byt.getD i []).getD j 0))) := by decide +kernel
theorem kd_t5 : ∀ i, i < 33 → ∀ j, j < kb_len.getD i 0 → Cond.eq (.elem (.field (kb_tm i) "java/lang/String" "value" "[B") (.int (Int32.ofNat j))) (.int ((kb_byt.getD i []).getD j 0)) ∈ kb_nar := fun i h j hj => List.mem_of_getElem? (kd_v5 i h j hj)
theorem kd_t6 : ∀ i, i < 33 → ∀ j, j < 33 → kb_len.getD i 0 = kb_len.getD j 0 → (∀ k, k < kb_len.getD i 0 → (kb_byt.getD i []).getD k 0 = (kb_byt.getD j []).getD k 0) → i = j := by decide +kernel
theorem kd_v7 : ∀ k, k < 65 → Cond.stringRef (kb_sr.getD k ("", 0, "", 0)).1 (kb_sr.getD k ("", 0, "", 0)).2.1 (kb_sr.getD k ("", 0, "", 0)).2.2.1 ∈ lw_tbl
  | 0, _ => ww_2_229
  | 1, _ => ww_3_50
  | 2, _ => ww_3_55
  | 3, _ => ww_3_56
  | 4, _ => ww_3_57
  | 5, _ => ww_3_58
  | 6, _ => ww_3_59
  | 7, _ => ww_3_72
  | 8, _ => ww_3_73
  | 9, _ => ww_3_74
  | 10, _ => ww_3_85
  | 11, _ => ww_3_105
  | 12, _ => ww_3_106
  | 13, _ => ww_3_107
  | 14, _ => ww_3_108
  | 15, _ => ww_3_109
  | 16, _ => ww_3_110
  | 17, _ => ww_3_111
  | 18, _ => ww_3_112
  | 19, _ => ww_3_113
  | 20, _ => ww_3_114
  | 21, _ => ww_3_115
  | 22, _ => ww_3_116
  | 23, _ => ww_3_117
  | 24, _ => ww_3_118
  | 25, _ => ww_3_139
  | 26, _ => ww_3_140
  | 27, _ => ww_3_141
  | 28, _ => ww_3_146
  | 29, _ => ww_3_147
  | 30, _ => ww_3_163
  | 31, _ => ww_3_164
  | 32, _ => ww_5_168
  | 33, _ => ww_6_209
  | 34, _ => ww_6_227
  | 35, _ => ww_7_3
  | 36, _ => ww_7_4
  | 37, _ => ww_7_5
  | 38, _ => ww_7_6
  | 39, _ => ww_7_7
  | 40, _ => ww_7_8
  | 41, _ => ww_7_9
  | 42, _ => ww_7_10
  | 43, _ => ww_7_11
  | 44, _ => ww_7_32
  | 45, _ => ww_7_33
  | 46, _ => ww_7_34
  | 47, _ => ww_7_35
  | 48, _ => ww_7_36
  | 49, _ => ww_7_37
  | 50, _ => ww_7_38
  | 51, _ => ww_7_39
  | 52, _ => ww_7_40
  | 53, _ => ww_7_41
  | 54, _ => ww_7_42
  | 55, _ => ww_7_43
  | 56, _ => ww_7_44
  | 57, _ => ww_7_45
  | 58, _ => ww_7_58
  | 59, _ => ww_7_59
  | 60, _ => ww_7_60
  | 61, _ => ww_7_69
  | 62, _ => ww_7_70
  | 63, _ => ww_7_91
  | 64, _ => ww_7_92
  | k + 65, h => absurd h (by omega)
theorem kd_v8 : ∀ k, k < 65 → (kb_sr.getD k ("", 0, "", 0)).2.2.2 < 33 ∧ (Term.string (kb_sr.getD k ("", 0, "", 0)).1 (kb_sr.getD k ("", 0, "", 0)).2.1 = kb_tm (kb_sr.getD k ("", 0, "", 0)).2.2.2 ∨ kb_nar[kd_bb.getD k 0]? = some (Cond.eq (kb_tm (kb_sr.getD k ("", 0, "", 0)).2.2.2) (.string (kb_sr.getD k ("", 0, "", 0)).1 (kb_sr.getD k ("", 0, "", 0)).2.1))) := by decide +kernel
theorem kd_srk {q : String × Nat × String × Nat} (h : q ∈ kb_sr) : ∃ k, k < 65 ∧ kb_sr.getD k ("", 0, "", 0) = q := by
  obtain ⟨k, hk, e⟩ := List.getElem_of_mem h
  refine ⟨k, hk, ?_⟩
  rw [← e]
  show (kb_sr[k]?).getD _ = kb_sr[k]
  rw [List.getElem?_eq_getElem hk]
  rfl
theorem kd_t7 : ∀ q ∈ kb_sr, Cond.stringRef q.1 q.2.1 q.2.2.1 ∈ lw_tbl := fun q hq => by
  obtain ⟨k, hk, e⟩ := kd_srk hq
  have h := kd_v7 k hk
  rw [e] at h
  exact h
theorem kd_t8 : ∀ q ∈ kb_sr, q.2.2.2 < 33 ∧ (Term.string q.1 q.2.1 = kb_tm q.2.2.2 ∨ Cond.eq (kb_tm q.2.2.2) (.string q.1 q.2.1) ∈ kb_nar) := fun q hq => by
  obtain ⟨k, hk, e⟩ := kd_srk hq
  have h := kd_v8 k hk
  rw [e] at h
  exact ⟨h.1, h.2.imp id (fun h => List.mem_of_getElem? h)⟩

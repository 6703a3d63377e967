/-! what the Statement gives at the law's start -/
theorem kd_eval {args : Array Value} {s : State} {t u : Term} {a : Nat} (h : (Cond.eq t u).before args s = true) (ht : t.eval args s none [] s = some (.ref a)) : u.eval args s none [] s = some (.ref a) := by
  obtain ⟨y, h1, h2⟩ := Cond.eq_one (show (Cond.eq t u).holds args s none s [] = true from h)
  rw [ht] at h1
  cases h1
  exact h2
theorem kd_S1 {args : Array Value} {s : State} {A : Nat → Prop} (hn : ∀ w ∈ kb_nar, w.before args s = true) (hA : ∀ a : Nat, a < s.heap.size → ¬ A a) (i : Nat) (hi : i < 33) : ∃ q : Nat × Nat, (kb_tm i).eval args s none [] s = some (.ref q.1) ∧ va_O "java/lang/String" q.1 A s s.heap ∧ va_OF "java/lang/String" "coder" "B" (.int 0) q.1 A s s.heap ∧ va_OF "java/lang/String" "value" "[B" (.ref q.2) q.1 A s s.heap ∧ va_T .byte q.2 (kb_len.getD i 0) (fun j => .int ((kb_byt.getD i []).getD j 0)) A s s.heap := by
  obtain ⟨adK, adV, hS, hev⟩ := vk_Sof (args := args) (s := s) (A := A) (N := 1) (tm := fun _ => kb_tm i) (len := [kb_len.getD i 0]) (byt := [kb_byt.getD i []]) (fun k hk => by
    obtain rfl : k = 0 := by omega
    exact kd_t0 i hi) (fun _ _ => hn _ (kd_t1 i hi)) (fun _ _ => hn _ (kd_t2 i hi)) (fun _ _ => hn _ (kd_t3 i hi)) (fun k hk => by
    obtain rfl : k = 0 := by omega
    exact hn _ (kd_t4 i hi)) (fun k hk j hj => by
    obtain rfl : k = 0 := by omega
    exact hn _ (kd_t5 i hi j hj)) (fun a b ha hb hab => absurd (show a = b by omega) hab) hA
  exact ⟨(adK 0, adV 0), hev 0 (by omega), hS.1 0 (by omega)⟩
theorem kd_strs {args : Array Value} {s : State} {A : Nat → Prop} (hn : ∀ w ∈ kb_nar, w.before args s = true) (hA : ∀ a : Nat, a < s.heap.size → ¬ A a) : ∃ adK adV : Nat → Nat, vk_S kb_N kb_len kb_byt adK adV A s s.heap ∧ ∀ i, i < 33 → (kb_tm i).eval args s none [] s = some (.ref (adK i)) := by
  have h0 : ∀ i : Nat, ∃ q : Nat × Nat, i < 33 → (kb_tm i).eval args s none [] s = some (.ref q.1) ∧ va_O "java/lang/String" q.1 A s s.heap ∧ va_OF "java/lang/String" "coder" "B" (.int 0) q.1 A s s.heap ∧ va_OF "java/lang/String" "value" "[B" (.ref q.2) q.1 A s s.heap ∧ va_T .byte q.2 (kb_len.getD i 0) (fun j => .int ((kb_byt.getD i []).getD j 0)) A s s.heap := fun i => by
    by_cases hi : i < 33
    · obtain ⟨q, h⟩ := kd_S1 hn hA i hi
      exact ⟨q, fun _ => h⟩
    · exact ⟨(0, 0), fun h => absurd h hi⟩
  obtain ⟨ad, had⟩ := Classical.axiomOfChoice h0
  refine ⟨fun i => (ad i).1, fun i => (ad i).2, ⟨fun i hi => (had i hi).2, fun i j hi hj e => ?_⟩, fun i hi => (had i hi).1⟩
  obtain ⟨-, -, -, ⟨cf, k, ix, f, cell, f1, f2, f3, f4, f5, f6⟩, ⟨c2, g1, g2, g3, g4, g5, g6, g7⟩⟩ := had i hi
  obtain ⟨-, -, -, ⟨cf', k', ix', f', cell', f1', f2', f3', f4', f5', f6'⟩, ⟨c2', g1', g2', g3', g4', g5', g6', g7'⟩⟩ := had j hj
  have e : (ad i).1 = (ad j).1 := e
  rw [e] at f3
  cases Option.some.inj (f3.symm.trans f3')
  cases Option.some.inj (f1.symm.trans f1')
  have ev := Option.some.inj (f5.symm.trans f5')
  injection ev with e2
  rw [e2] at g1
  cases Option.some.inj (g1.symm.trans g1')
  have el : kb_len.getD i 0 = kb_len.getD j 0 := (nI_eq (kd_t0 i hi) (kd_t0 j hj)).mp (g5.symm.trans g5')
  refine kd_t6 i hi j hj el (fun q hq => ?_)
  have ew := Option.some.inj ((g6 q hq).symm.trans (g6' q (by rw [← el]; exact hq)))
  injection ew
def kd_dA (l : List Nat) (u v : Nat → Nat) (k : Nat) : Nat := if k < 100 then l.getD k 0 else if k < 200 then u (k - 100) else v (k - 200)
theorem kd_dA1 {l : List Nat} {u v : Nat → Nat} {i : Nat} (h : i < 33) : kd_dA l u v (100 + i) = u i := by
  unfold kd_dA
  rw [if_neg (show ¬ 100 + i < 100 by omega), if_pos (show 100 + i < 200 by omega), show 100 + i - 100 = i by omega]
theorem kd_dA2 {l : List Nat} {u v : Nat → Nat} {i : Nat} (h : i < 33) : kd_dA l u v (200 + i) = v i := by
  unfold kd_dA
  rw [if_neg (show ¬ 200 + i < 100 by omega), if_neg (show ¬ 200 + i < 200 by omega), show 200 + i - 200 = i by omega]
theorem kd_arP {args : Array Value} {s : State} {ty : FieldType} (h : (Cond.arrayClass ty).before args s = true) : ∃ cA : Nat, ArrOfT s cA ty ∧ s.vm.findClass ("[" ++ ty.toString) = some cA := by
  obtain ⟨cA, kA, comp, h1, h2, h3⟩ := Cond.arrayClass_spec h
  exact ⟨cA, fun n z => ⟨fun k h => (by cases h), kA, h2, comp, h3⟩, h1⟩
theorem kd_arO {args : Array Value} {s : State} {C : String} (h : (Cond.arrayOver (.object C)).before args s = true) : ∃ cA : Nat, ArrOfT s cA (.object C) ∧ va_RA s cA (.object C) := by
  obtain ⟨comp, cA, kA, h1, h2, h3, h4, h5⟩ := Cond.arrayOver_spec h
  exact ⟨cA, fun n z => ⟨fun k h => (by cases h), kA, h3, comp, h4⟩, kA, comp, h3, h4, h1, h5⟩
theorem kd_nest {w : Cond} (h : kb_isNest w = true) : w.onTables = true := by cases w <;> first | rfl | (simp [kb_isNest] at h)
set_option maxHeartbeats 4000000 in
theorem kd_known {p : Program} {s : State} {m : MethodId} {meth : Method} {c : Code} {b L : Nat} {xs : Nat → Int32} (C0 : lw_At p s m meth c b L xs) : ∃ (D : va_G) (dA : Nat → ClassId), kb_K D dA s ∧ kb_E dA (kd_A s) s s.heap ∧ kd_Z (kd_A s) s s.heap := by
  obtain ⟨hx, hb, hr, hml, hown, hts, hX, hbl, hlocks, hgv⟩ := C0
  have hn : ∀ w ∈ kb_nar, w.before #[Value.ref b] s = true := flat_of_before _ hgv
  have hg : ∀ w ∈ kb_gw, w.before #[Value.ref b] s = true := fun w hw => hts w (List.mem_filter.mp hw).1
  have hA : ∀ a : Nat, a < s.heap.size → ¬ kd_A s a := fun a h => Nat.not_le.mpr h
  have hT : kb_T s := by
    refine ⟨fun w hw a => word_at (State.WarmedH.refl s) (good_of_word (List.mem_filter.mp hw).2) (hg w hw), fun w hw => va_tabs (kd_nest (List.mem_filter.mp hw).2) rfl (hts w (List.mem_filter.mp hw).1), fun C hC => ?_⟩
    have h3 : C = "BusSeats$Ride" ∨ C = "BusSeats$Rider" ∨ C = "BusSeats$Rule" := by simpa [kb_ao] using hC
    rcases h3 with rfl | rfl | rfl
    · exact va_AO.of (hts _ ww_2_22)
    · exact va_AO.of (hts _ ww_1_133)
    · exact va_AO.of (hts _ ww_1_131)
  obtain ⟨cX0, iX0, hX0⟩ := u_known (C := RX0) (T := TX0) (N := 8) (n := 8) hg kb_inX0 (hts _ ww_1_81)
  obtain ⟨cX1, iX1, hX1⟩ := u_known (C := RX1) (T := TX1) (N := 5) (n := 5) hg kb_inX1 (hts _ ww_2_128)
  obtain ⟨cX2, iX2, hX2⟩ := u_known (C := RX2) (T := TX2) (N := 3) (n := 3) hg kb_inX2 (hts _ ww_2_24)
  obtain ⟨cX3, iX3, hX3⟩ := u_known (C := RX3) (T := TX3) (N := 3) (n := 3) hg kb_inX3 (hts _ ww_2_112)
  obtain ⟨cX4, iX4, hX4⟩ := u_known (C := RX4) (T := TX4) (N := 10) (n := 10) hg kb_inX4 (hts _ ww_1_34)
  obtain ⟨cX5, iX5, hX5⟩ := u_known (C := RX5) (T := TX5) (N := 8) (n := 8) hg kb_inX5 (hts _ ww_1_75)
  obtain ⟨cX6, iX6, hX6⟩ := u_known (C := RX6) (T := TX6) (N := 11) (n := 11) hg kb_inX6 (hts _ ww_2_40)
  obtain ⟨cX7, iX7, hX7⟩ := u_known (C := RX7) (T := TX7) (N := 10) (n := 10) hg kb_inX7 (hts _ ww_1_156)
  obtain ⟨cX8, iX8, hX8⟩ := u_known (C := RX8) (T := TX8) (N := 3) (n := 3) hg kb_inX8 (hts _ ww_1_134)
  obtain ⟨cX9, iX9, hX9⟩ := u_known (C := RX9) (T := TX9) (N := 3) (n := 3) hg kb_inX9 (hts _ ww_2_46)
  obtain ⟨cX10, iX10, hX10⟩ := u_known (C := RX10) (T := TX10) (N := 12) (n := 12) hg kb_inX10 (hts _ ww_1_26)
  obtain ⟨cX11, iX11, hX11⟩ := u_known (C := RX11) (T := TX11) (N := 26) (n := 26) hg kb_inX11 (hts _ ww_6_84)
  obtain ⟨cX12, iX12, hX12⟩ := u_known (C := RX12) (T := TX12) (N := 35) (n := 35) hg kb_inX12 (hts _ ww_5_195)
  obtain ⟨a0, p0, r0⟩ := kd_arP (hts _ ww_1_129)
  obtain ⟨a1, p1, r1⟩ := kd_arP (hts _ ww_1_73)
  obtain ⟨a2, p2, r2⟩ := kd_arP (hts _ ww_6_66)
  obtain ⟨a3, p3, r3⟩ := kd_arP (hts _ ww_6_185)
  obtain ⟨a4, p4, r4⟩ := kd_arO (hts _ ww_2_22)
  obtain ⟨a5, p5, r5⟩ := kd_arO (hts _ ww_1_133)
  obtain ⟨a6, p6, r6⟩ := kd_arO (hts _ ww_1_131)
  obtain ⟨adK, adV, hS, hev⟩ := kd_strs hn hA
  refine ⟨(fun k => [cX0, cX1, cX2, cX3, cX4, cX5, cX6, cX7, cX8, cX9, cX10, cX11, cX12].getD k 0, fun k => [iX0, iX1, iX2, iX3, iX4, iX5, iX6, iX7, iX8, iX9, iX10, iX11, iX12].getD k (fun _ => 0)), kd_dA [a0, a1, a2, a3, a4, a5, a6] adK adV, ⟨⟨fun k q hq => ?_, fun k q hq => ?_⟩, hT⟩, ⟨⟨fun i hi => ?_, fun i j hi hj e => ?_⟩, ?_, ?_, fun q hq => ?_⟩, ?_, ?_, ?_⟩
  · match k, hq with
    | 0, hq => cases hq; exact hX0
    | 1, hq => cases hq; exact hX1
    | 2, hq => cases hq; exact hX2
    | 3, hq => cases hq; exact hX3
    | 4, hq => cases hq; exact hX4
    | 5, hq => cases hq; exact hX5
    | 6, hq => cases hq; exact hX6
    | 7, hq => cases hq; exact hX7
    | 8, hq => cases hq; exact hX8
    | 9, hq => cases hq; exact hX9
    | 10, hq => cases hq; exact hX10
    | 11, hq => cases hq; exact hX11
    | 12, hq => cases hq; exact hX12
    | k + 13, hq => exact absurd hq (by simp [vwCl])
  · match k, hq with
    | 0, hq => cases hq; exact ⟨p0, r0⟩
    | 1, hq => cases hq; exact ⟨p1, r1⟩
    | 2, hq => cases hq; exact ⟨p2, r2⟩
    | 3, hq => cases hq; exact ⟨p3, r3⟩
    | 4, hq => cases hq; exact ⟨p4, r4⟩
    | 5, hq => cases hq; exact ⟨p5, r5⟩
    | 6, hq => cases hq; exact ⟨p6, r6⟩
    | k + 7, hq => exact absurd hq (by simp [kb_tys])
  · show va_O "java/lang/String" (kd_dA _ adK adV (100 + i)) _ _ _ ∧ va_OF _ _ _ _ (kd_dA _ adK adV (100 + i)) _ _ _ ∧ va_OF _ _ _ (.ref (kd_dA _ adK adV (200 + i))) (kd_dA _ adK adV (100 + i)) _ _ _ ∧ va_T _ (kd_dA _ adK adV (200 + i)) _ _ _ _ _
    rw [kd_dA1 hi, kd_dA2 hi]
    exact hS.1 i hi
  · have e : kd_dA [a0, a1, a2, a3, a4, a5, a6] adK adV (100 + i) = kd_dA [a0, a1, a2, a3, a4, a5, a6] adK adV (100 + j) := e
    rw [kd_dA1 hi, kd_dA1 hj] at e
    exact hS.2 i j hi hj e
  · exact va_Zof (hts _ ww_3_3) (hts _ ww_1_14) (va_eqt (hn (.eq (.static "java/lang/String" "COMPACT_STRINGS" "Z") (.int 1)) (by decide +kernel))) hA
  · exact va_Zqof (hts _ ww_3_19) (hts _ ww_1_16) (hn (.isRef (.static "jdk/internal/util/Preconditions" "SIOOBE_FORMATTER" "Ljava/util/function/BiFunction;")) (by decide +kernel)) hA
  · obtain ⟨h1, h2⟩ := kd_t8 q hq
    rw [kd_dA1 h1]
    refine vk_R.of (hts _ (kd_t7 q hq)) ?_
    rcases h2 with h2 | h2
    · rw [h2]; exact hev _ h1
    · exact kd_eval (hn _ h2) (hev _ h1)
  · exact vx_Zqof (hts _ ww_5_156) (hts _ ww_1_21) (hn (.isRef (.static "java/lang/Throwable" "UNASSIGNED_STACK" "[Ljava/lang/StackTraceElement;")) (by decide +kernel)) hA
  · exact vx_Zqof (hts _ ww_5_158) (hts _ ww_1_21) (hn (.isRef (.static "java/lang/Throwable" "SUPPRESSED_SENTINEL" "Ljava/util/List;")) (by decide +kernel)) hA
  · exact fun w hw a => kx_warm (kx_xk w hw) (State.WarmedH.refl s) (hts w (kx_xin w hw))

/-! names; what has been read so far, of both -/
section PW
variable {c : Nat → Nat} {n : Nat} {tape : TapeT} {s e : Nat} {ps : ParserT} {mo : MOT} {pl : PlanT} {bu : BusT} {R N F H : Nat}
theorem pu_wayN (t : pu_TX c n ps tape mo) (h : pu_PK c n s e ps mo) : (f_X4_wayHere ps = some (-1) ∧ f_X12_wayNow mo = some (-1)) ∨ ∃ k, k < 9 ∧ f_X4_wayHere ps = some (nI k) ∧ f_X12_wayNow mo = some (nI k) ∧ ps_kind ps = 1 := by
  have st : ∀ (i : Nat), i < 9 → ∀ F : Nat, ∃ b : Bool, f_X4_wayHere_b2 ps (F + 1) (nI i) = (if b = true then some (nI i) else f_X4_wayHere_b2 ps F (nI (i + 1))) ∧ f_X12_isWord mo (11 + i) = some (pu_bI b) ∧ (b = true → ps_kind ps = 1) := by
    intro i hi F
    obtain ⟨b, b1, b2, b3⟩ := pu_isw t h (ix := 11 + i) (by omega)
    refine ⟨b, ?_, b2, b3⟩
    have wt : f_X4_wayText (nI i) = some (11 + i) := by
      have : ∀ i, i < 9 → f_X4_wayText (nI i) = some (11 + i) := by decide +kernel
      exact this i hi
    rw [f_X4_wayHere_b2, if_neg (show ¬ (9 : Int32) ≤ nI i from nI_ge (a := i) (b := 9) hi (by omega)), wt, pu_sb, if_pos (show 11 + i < kb_N by show 11 + i < 33; omega), b1, pu_sb, pu_ifb, nI_1]
  rw [f_X4_wayHere, f_X12_wayNow]
  obtain ⟨b0, p0, r0, q0⟩ := st 0 (by omega) 4095
  rw [show f_X4_wayHere_b2 ps 4096 0 = f_X4_wayHere_b2 ps (4095 + 1) (nI 0) from rfl, p0, r0, pu_sb, pu_ifb]
  cases b0
  rotate_left
  · exact Or.inr ⟨0, by omega, rfl, rfl, q0 rfl⟩
  rw [pu_ff, pu_ff]
  obtain ⟨b1, p1, r1, q1⟩ := st 1 (by omega) 4094
  rw [show f_X4_wayHere_b2 ps 4095 (nI (0 + 1)) = f_X4_wayHere_b2 ps (4094 + 1) (nI 1) from rfl, p1, r1, pu_sb, pu_ifb]
  cases b1
  rotate_left
  · exact Or.inr ⟨1, by omega, rfl, rfl, q1 rfl⟩
  rw [pu_ff, pu_ff]
  obtain ⟨b2, p2, r2, q2⟩ := st 2 (by omega) 4093
  rw [show f_X4_wayHere_b2 ps 4094 (nI (1 + 1)) = f_X4_wayHere_b2 ps (4093 + 1) (nI 2) from rfl, p2, r2, pu_sb, pu_ifb]
  cases b2
  rotate_left
  · exact Or.inr ⟨2, by omega, rfl, rfl, q2 rfl⟩
  rw [pu_ff, pu_ff]
  obtain ⟨b3, p3, r3, q3⟩ := st 3 (by omega) 4092
  rw [show f_X4_wayHere_b2 ps 4093 (nI (2 + 1)) = f_X4_wayHere_b2 ps (4092 + 1) (nI 3) from rfl, p3, r3, pu_sb, pu_ifb]
  cases b3
  rotate_left
  · exact Or.inr ⟨3, by omega, rfl, rfl, q3 rfl⟩
  rw [pu_ff, pu_ff]
  obtain ⟨b4, p4, r4, q4⟩ := st 4 (by omega) 4091
  rw [show f_X4_wayHere_b2 ps 4092 (nI (3 + 1)) = f_X4_wayHere_b2 ps (4091 + 1) (nI 4) from rfl, p4, r4, pu_sb, pu_ifb]
  cases b4
  rotate_left
  · exact Or.inr ⟨4, by omega, rfl, rfl, q4 rfl⟩
  rw [pu_ff, pu_ff]
  obtain ⟨b5, p5, r5, q5⟩ := st 5 (by omega) 4090
  rw [show f_X4_wayHere_b2 ps 4091 (nI (4 + 1)) = f_X4_wayHere_b2 ps (4090 + 1) (nI 5) from rfl, p5, r5, pu_sb, pu_ifb]
  cases b5
  rotate_left
  · exact Or.inr ⟨5, by omega, rfl, rfl, q5 rfl⟩
  rw [pu_ff, pu_ff]
  obtain ⟨b6, p6, r6, q6⟩ := st 6 (by omega) 4089
  rw [show f_X4_wayHere_b2 ps 4090 (nI (5 + 1)) = f_X4_wayHere_b2 ps (4089 + 1) (nI 6) from rfl, p6, r6, pu_sb, pu_ifb]
  cases b6
  rotate_left
  · exact Or.inr ⟨6, by omega, rfl, rfl, q6 rfl⟩
  rw [pu_ff, pu_ff]
  obtain ⟨b7, p7, r7, q7⟩ := st 7 (by omega) 4088
  rw [show f_X4_wayHere_b2 ps 4089 (nI (6 + 1)) = f_X4_wayHere_b2 ps (4088 + 1) (nI 7) from rfl, p7, r7, pu_sb, pu_ifb]
  cases b7
  rotate_left
  · exact Or.inr ⟨7, by omega, rfl, rfl, q7 rfl⟩
  rw [pu_ff, pu_ff]
  obtain ⟨b8, p8, r8, q8⟩ := st 8 (by omega) 4087
  rw [show f_X4_wayHere_b2 ps 4088 (nI (7 + 1)) = f_X4_wayHere_b2 ps (4087 + 1) (nI 8) from rfl, p8, r8, pu_sb, pu_ifb]
  cases b8
  rotate_left
  · exact Or.inr ⟨8, by omega, rfl, rfl, q8 rfl⟩
  rw [pu_ff, pu_ff]
  refine Or.inl ⟨?_, rfl⟩
  rw [show f_X4_wayHere_b2 ps 4087 (nI (8 + 1)) = f_X4_wayHere_b2 ps (4086 + 1) (nI 9) from rfl, f_X4_wayHere_b2, if_pos (show (9 : Int32) ≤ nI 9 by decide)]
theorem pu_isName (t : pu_TX c n ps tape mo) (h : pu_PK c n s e ps mo) : ∃ b : Bool, f_X4_isName ps = some (pu_bI b) ∧ f_X12_isName mo = some (pu_bI b) ∧ (b = true → ps_kind ps = 1) := by
  have k1 := h.k1
  by_cases hk : ps_kind ps = 1
  rotate_left
  · refine ⟨false, ?_, ?_, fun q => by cases q⟩
    · rw [f_X4_isName, if_neg hk]; rfl
    · rw [f_X12_isName, if_neg (fun q => hk (k1.mpr q))]; rfl
  rw [f_X4_isName, f_X12_isName, if_pos hk, if_pos (k1.mp hk)]
  rcases pu_wayN t h with ⟨w1, w2⟩ | ⟨k, hk9, w1, w2, _⟩
  rotate_left
  · rw [w1, w2, pu_sb, pu_sb, if_neg (pu_ne1 (by omega)), if_neg (pu_ne1 (by omega))]
    exact ⟨false, rfl, rfl, fun q => by cases q⟩
  rw [w1, w2, pu_sb, pu_sb, if_pos rfl, if_pos rfl]
  obtain ⟨b0, x0, y0, _⟩ := pu_isw t h (ix := 0) (by omega)
  obtain ⟨b1, x1, y1, _⟩ := pu_isw t h (ix := 10) (by omega)
  obtain ⟨b2, x2, y2, _⟩ := pu_isw t h (ix := 20) (by omega)
  obtain ⟨b3, x3, y3, _⟩ := pu_isw t h (ix := 21) (by omega)
  obtain ⟨b4, x4, y4, _⟩ := pu_isw t h (ix := 22) (by omega)
  obtain ⟨b5, x5, y5, _⟩ := pu_isw t h (ix := 23) (by omega)
  obtain ⟨b6, x6, y6, _⟩ := pu_isw t h (ix := 24) (by omega)
  simp only [x0, y0, x1, y1, x2, y2, x3, y3, x4, y4, x5, y5, x6, y6, pu_sb, pu_ifb, f_X4_isName_b83, f_X12_isName_b83]
  refine ⟨!b0 && !b1 && !b2 && !b3 && !b4 && !b5 && !b6, ?_, ?_, fun _ => hk⟩
  · cases b0 <;> cases b1 <;> cases b2 <;> cases b3 <;> cases b4 <;> cases b5 <;> cases b6 <;> rfl
  · cases b0 <;> cases b1 <;> cases b2 <;> cases b3 <;> cases b4 <;> cases b5 <;> cases b6 <;> rfl
theorem pu_findN {K : Nat} (hK : K ≤ 12) (hn : bu_names bu = nI K) (w : Int64) : (f_X11_find bu w = some (-1) ∧ ∀ k, k < K → ¬ bu_name bu k = w) ∨ ∃ k, k < K ∧ f_X11_find bu w = some (nI k) ∧ bu_name bu k = w := by
  refine pu_for (fun m i (_ : Unit) => f_X11_find_b2 bu m w i) K (fun i _ => ∀ k, k < i → ¬ bu_name bu k = w) (fun o => (o = some (-1) ∧ ∀ k, k < K → ¬ bu_name bu k = w) ∨ ∃ k, k < K ∧ o = some (nI k) ∧ bu_name bu k = w) ?_ ?_ K 0 () 4096 (by omega) (by omega) (fun k hk => by omega)
  · intro m i _ hi hI
    have e1 : f_X11_find_b2 bu (m + 1) w (nI i) = (if bu_name bu i = w then some (nI i) else f_X11_find_b2 bu m w (nI (i + 1))) := by
      rw [f_X11_find_b2, hn, if_neg (nI_ge hi (by omega)), if_pos (pu_inn (show i < 12 by omega) (by omega)), nI_clamp (by omega), nI_1]
      simp only [lg_cmp_eq]
    by_cases q : bu_name bu i = w
    · refine Or.inr (Or.inr ⟨i, hi, ?_, q⟩)
      show f_X11_find_b2 bu (m + 1) w (nI i) = _
      rw [e1, if_pos q]
    · refine Or.inl ⟨(), ?_, fun k hk => ?_⟩
      · show f_X11_find_b2 bu (m + 1) w (nI i) = _
        rw [e1, if_neg q]
      · by_cases ek : k = i
        · subst ek; exact q
        · exact hI k (by omega)
  · intro m _ hI
    refine Or.inl ⟨?_, hI⟩
    show f_X11_find_b2 bu (m + 1) w (nI K) = _
    rw [f_X11_find_b2, hn, if_pos (nI_le (Nat.le_refl _) (by omega))]
theorem pu_ruleNamed (hK : R ≤ 4) (hn : pl_ruleCount pl = nI R) (w : Int64) : (f_X5_ruleNamed pl w = some (-1) ∧ ∀ k, k < R → ¬ ru_name (pl_rules pl) k = w) ∨ ∃ k, k < R ∧ f_X5_ruleNamed pl w = some (nI k) ∧ ru_name (pl_rules pl) k = w := by
  refine pu_for (fun m i (_ : Unit) => f_X5_ruleNamed_b2 pl m w i) R (fun i _ => ∀ k, k < i → ¬ ru_name (pl_rules pl) k = w) (fun o => (o = some (-1) ∧ ∀ k, k < R → ¬ ru_name (pl_rules pl) k = w) ∨ ∃ k, k < R ∧ o = some (nI k) ∧ ru_name (pl_rules pl) k = w) ?_ ?_ R 0 () 4096 (by omega) (by omega) (fun k hk => by omega)
  · intro m i _ hi hI
    have e1 : f_X5_ruleNamed_b2 pl (m + 1) w (nI i) = (if ru_name (pl_rules pl) i = w then some (nI i) else f_X5_ruleNamed_b2 pl m w (nI (i + 1))) := by
      rw [f_X5_ruleNamed_b2, hn, if_neg (nI_ge hi (by omega)), if_pos (pu_inn (show i < 4 by omega) (by omega)), nI_clamp (by omega), nI_1]
      simp only [lg_cmp_eq]
    by_cases q : ru_name (pl_rules pl) i = w
    · refine Or.inr (Or.inr ⟨i, hi, ?_, q⟩)
      show f_X5_ruleNamed_b2 pl (m + 1) w (nI i) = _
      rw [e1, if_pos q]
    · refine Or.inl ⟨(), ?_, fun k hk => ?_⟩
      · show f_X5_ruleNamed_b2 pl (m + 1) w (nI i) = _
        rw [e1, if_neg q]
      · by_cases ek : k = i
        · subst ek; exact q
        · exact hI k (by omega)
  · intro m _ hI
    refine Or.inl ⟨?_, hI⟩
    show f_X5_ruleNamed_b2 pl (m + 1) w (nI R) = _
    rw [f_X5_ruleNamed_b2, hn, if_pos (nI_le (Nat.le_refl _) (by omega))]
theorem pu_riderNamed (hK : N ≤ 8) (hn : pl_riderCount pl = nI N) (w : Int64) : (f_X5_riderNamed pl w = some (-1) ∧ ∀ k, k < N → ¬ qr_name (pl_riders pl) k = w) ∨ ∃ k, k < N ∧ f_X5_riderNamed pl w = some (nI k) ∧ qr_name (pl_riders pl) k = w := by
  refine pu_for (fun m i (_ : Unit) => f_X5_riderNamed_b2 pl m w i) N (fun i _ => ∀ k, k < i → ¬ qr_name (pl_riders pl) k = w) (fun o => (o = some (-1) ∧ ∀ k, k < N → ¬ qr_name (pl_riders pl) k = w) ∨ ∃ k, k < N ∧ o = some (nI k) ∧ qr_name (pl_riders pl) k = w) ?_ ?_ N 0 () 4096 (by omega) (by omega) (fun k hk => by omega)
  · intro m i _ hi hI
    have e1 : f_X5_riderNamed_b2 pl (m + 1) w (nI i) = (if qr_name (pl_riders pl) i = w then some (nI i) else f_X5_riderNamed_b2 pl m w (nI (i + 1))) := by
      rw [f_X5_riderNamed_b2, hn, if_neg (nI_ge hi (by omega)), if_pos (pu_inn (show i < 8 by omega) (by omega)), nI_clamp (by omega), nI_1]
      simp only [lg_cmp_eq]
    by_cases q : qr_name (pl_riders pl) i = w
    · refine Or.inr (Or.inr ⟨i, hi, ?_, q⟩)
      show f_X5_riderNamed_b2 pl (m + 1) w (nI i) = _
      rw [e1, if_pos q]
    · refine Or.inl ⟨(), ?_, fun k hk => ?_⟩
      · show f_X5_riderNamed_b2 pl (m + 1) w (nI i) = _
        rw [e1, if_neg q]
      · by_cases ek : k = i
        · subst ek; exact q
        · exact hI k (by omega)
  · intro m _ hI
    refine Or.inl ⟨?_, hI⟩
    show f_X5_riderNamed_b2 pl (m + 1) w (nI N) = _
    rw [f_X5_riderNamed_b2, hn, if_pos (nI_le (Nat.le_refl _) (by omega))]
/-- the cabin as told -/
def pu_CB (cb : CabT) (bu : BusT) : Prop := (∃ x, 1 ≤ x ∧ x ≤ 5 ∧ cb_rows cb = nI x ∧ bu_rows bu = nI x) ∧ (∃ x, x < 3 ∧ cb_form cb = nI x ∧ bu_form bu = nI x) ∧ (∃ x, x < (cb_rows cb).toNatClampNeg ∧ cb_door cb = nI x ∧ bu_door bu = nI x) ∧ (∃ x, 1 ≤ x ∧ x ≤ 9 ∧ cb_pace cb = nI x ∧ bu_pace bu = nI x) ∧ (∃ x, x ≤ 9 ∧ cb_rise cb = nI x ∧ bu_rise bu = nI x) ∧ ((cb_sun cb = 0 ∧ bu_sun bu = 0) ∨ (cb_sun cb = 1 ∧ bu_sun bu = 1) ∨ (cb_sun cb = 2 ∧ bu_sun bu = -1)) ∧ (cb_seats cb = pu_mk (pu_seat (cb_rows cb).toNatClampNeg (cb_form cb).toNatClampNeg) 20) ∧ (∀ s, s < 20 → cb_beside cb s = if pu_seat (cb_rows cb).toNatClampNeg (cb_form cb).toNatClampNeg s && pu_b2 (cb_form cb).toNatClampNeg s then nI (s ^^^ 1) else -2)
theorem pu_CB.rows {cb : CabT} {bu : BusT} (h : pu_CB cb bu) : ∃ x, 1 ≤ x ∧ x ≤ 5 ∧ cb_rows cb = nI x ∧ bu_rows bu = nI x := h.1
theorem pu_CB.form {cb : CabT} {bu : BusT} (h : pu_CB cb bu) : ∃ x, x < 3 ∧ cb_form cb = nI x ∧ bu_form bu = nI x := h.2.1
theorem pu_CB.door {cb : CabT} {bu : BusT} (h : pu_CB cb bu) : ∃ x, x < (cb_rows cb).toNatClampNeg ∧ cb_door cb = nI x ∧ bu_door bu = nI x := h.2.2.1
theorem pu_CB.pace {cb : CabT} {bu : BusT} (h : pu_CB cb bu) : ∃ x, 1 ≤ x ∧ x ≤ 9 ∧ cb_pace cb = nI x ∧ bu_pace bu = nI x := h.2.2.2.1
theorem pu_CB.rise {cb : CabT} {bu : BusT} (h : pu_CB cb bu) : ∃ x, x ≤ 9 ∧ cb_rise cb = nI x ∧ bu_rise bu = nI x := h.2.2.2.2.1
theorem pu_CB.sun {cb : CabT} {bu : BusT} (h : pu_CB cb bu) : (cb_sun cb = 0 ∧ bu_sun bu = 0) ∨ (cb_sun cb = 1 ∧ bu_sun bu = 1) ∨ (cb_sun cb = 2 ∧ bu_sun bu = -1) := h.2.2.2.2.2.1
theorem pu_CB.seats {cb : CabT} {bu : BusT} (h : pu_CB cb bu) : cb_seats cb = pu_mk (pu_seat (cb_rows cb).toNatClampNeg (cb_form cb).toNatClampNeg) 20 := h.2.2.2.2.2.2.1
theorem pu_CB.bes {cb : CabT} {bu : BusT} (h : pu_CB cb bu) : ∀ s, s < 20 → cb_beside cb s = if pu_seat (cb_rows cb).toNatClampNeg (cb_form cb).toNatClampNeg s && pu_b2 (cb_form cb).toNatClampNeg s then nI (s ^^^ 1) else -2 := h.2.2.2.2.2.2.2
/-- a rider as told -/
def pu_R1 (qr : RidersT) (bu : BusT) (R : Nat) (r : Nat) : Prop := (∃ a b, a ≤ 10 ∧ a < b ∧ b ≤ 11 ∧ qr_on qr r = nI a ∧ bu_on bu r = nI a ∧ qr_off qr r = nI b ∧ bu_off bu r = nI b) ∧ (∃ i, i < R ∧ qr_rule qr r = nI i ∧ bu_rule bu r = nI i) ∧ (∃ x, x < 10 ∧ qr_looks qr r = nI x ∧ bu_looks bu r = nI x) ∧ (∃ x, x ≤ 99 ∧ qr_age qr r = nI x ∧ bu_age bu r = nI x) ∧ (kb_01 (qr_hasBag qr r) ∧ bu_hasBag bu r = qr_hasBag qr r) ∧ (kb_01 (qr_isProud qr r) ∧ bu_isProud bu r = qr_isProud qr r) ∧ ((qr_held qr r = -2 ∧ bu_holds bu r = -1) ∨ ∃ h, h < 20 ∧ qr_held qr r = nI h ∧ bu_holds bu r = nI h)
theorem pu_R1.on {qr : RidersT} {bu : BusT} {R : Nat} {r : Nat} (h : pu_R1 qr bu R r) : ∃ a b, a ≤ 10 ∧ a < b ∧ b ≤ 11 ∧ qr_on qr r = nI a ∧ bu_on bu r = nI a ∧ qr_off qr r = nI b ∧ bu_off bu r = nI b := h.1
theorem pu_R1.rule {qr : RidersT} {bu : BusT} {R : Nat} {r : Nat} (h : pu_R1 qr bu R r) : ∃ i, i < R ∧ qr_rule qr r = nI i ∧ bu_rule bu r = nI i := h.2.1
theorem pu_R1.looks {qr : RidersT} {bu : BusT} {R : Nat} {r : Nat} (h : pu_R1 qr bu R r) : ∃ x, x < 10 ∧ qr_looks qr r = nI x ∧ bu_looks bu r = nI x := h.2.2.1
theorem pu_R1.age {qr : RidersT} {bu : BusT} {R : Nat} {r : Nat} (h : pu_R1 qr bu R r) : ∃ x, x ≤ 99 ∧ qr_age qr r = nI x ∧ bu_age bu r = nI x := h.2.2.2.1
theorem pu_R1.bag {qr : RidersT} {bu : BusT} {R : Nat} {r : Nat} (h : pu_R1 qr bu R r) : kb_01 (qr_hasBag qr r) ∧ bu_hasBag bu r = qr_hasBag qr r := h.2.2.2.2.1
theorem pu_R1.pro {qr : RidersT} {bu : BusT} {R : Nat} {r : Nat} (h : pu_R1 qr bu R r) : kb_01 (qr_isProud qr r) ∧ bu_isProud bu r = qr_isProud qr r := h.2.2.2.2.2.1
theorem pu_R1.held {qr : RidersT} {bu : BusT} {R : Nat} {r : Nat} (h : pu_R1 qr bu R r) : (qr_held qr r = -2 ∧ bu_holds bu r = -1) ∨ ∃ h, h < 20 ∧ qr_held qr r = nI h ∧ bu_holds bu r = nI h := h.2.2.2.2.2.2
/-- what has been read -/
def pu_RD (pl : PlanT) (bu : BusT) (R : Nat) (N : Nat) (F : Nat) (H : Nat) : Prop := ((pl_hasCabin pl = 0 ∧ bu_rows bu = 0) ∨ (pl_hasCabin pl = 1 ∧ pu_CB (pl_cab pl) bu)) ∧ (pl_ruleCount pl = nI R ∧ bu_rules bu = nI R ∧ R ≤ 4) ∧ (pl_riderCount pl = nI N ∧ bu_riders bu = nI N ∧ N ≤ 8) ∧ (pl_friendCount pl = nI F ∧ bu_friends bu = nI F ∧ F ≤ 3) ∧ (pl_holderCount pl = nI H ∧ bu_holders bu = nI H ∧ H ≤ 4) ∧ (bu_names bu = nI (R + N)) ∧ (∀ i, i < R → ∃ m, 1 ≤ m ∧ m ≤ 4 ∧ ru_count (pl_rules pl) i = nI m ∧ bu_waysMany bu i = nI m ∧ ∀ j, j < m → ∃ k, k < 9 ∧ ru_wanted (pl_rules pl) i j = nI k ∧ bu_way bu (4 * i + j) = nI k) ∧ (∀ r, r < N → pu_R1 (pl_riders pl) bu R r) ∧ (∀ r, r < N → ∀ q, bt (qr_friends (pl_riders pl) r) q = true → q < N) ∧ (∀ k, k < F → ∃ a b, a < N ∧ b < N ∧ bu_friendA bu k = nI a ∧ bu_friendB bu k = nI b) ∧ (∀ r, r < N → ∀ q, q < N → (bt (qr_friends (pl_riders pl) r) q = true ↔ ∃ k, k < F ∧ ((bu_friendA bu k = nI r ∧ bu_friendB bu k = nI q) ∨ (bu_friendA bu k = nI q ∧ bu_friendB bu k = nI r)))) ∧ (∀ i, i < R → ∃ k, k < R + N ∧ bu_name bu k = ru_name (pl_rules pl) i ∧ bu_nameSort bu k = 0 ∧ bu_nameNumber bu k = nI i) ∧ (∀ r, r < N → ∃ k, k < R + N ∧ bu_name bu k = qr_name (pl_riders pl) r ∧ bu_nameSort bu k = 1 ∧ bu_nameNumber bu k = nI r) ∧ (∀ k, k < R + N → (bu_nameSort bu k = 0 ∧ ∃ i, i < R ∧ bu_nameNumber bu k = nI i ∧ bu_name bu k = ru_name (pl_rules pl) i) ∨ (bu_nameSort bu k = 1 ∧ ∃ r, r < N ∧ bu_nameNumber bu k = nI r ∧ bu_name bu k = qr_name (pl_riders pl) r)) ∧ (∀ k, k < R + N → ∀ j, j < R + N → bu_name bu k = bu_name bu j → k = j)
theorem pu_RD.cab {pl : PlanT} {bu : BusT} {R : Nat} {N : Nat} {F : Nat} {H : Nat} (h : pu_RD pl bu R N F H) : (pl_hasCabin pl = 0 ∧ bu_rows bu = 0) ∨ (pl_hasCabin pl = 1 ∧ pu_CB (pl_cab pl) bu) := h.1
theorem pu_RD.rc {pl : PlanT} {bu : BusT} {R : Nat} {N : Nat} {F : Nat} {H : Nat} (h : pu_RD pl bu R N F H) : pl_ruleCount pl = nI R ∧ bu_rules bu = nI R ∧ R ≤ 4 := h.2.1
theorem pu_RD.nc {pl : PlanT} {bu : BusT} {R : Nat} {N : Nat} {F : Nat} {H : Nat} (h : pu_RD pl bu R N F H) : pl_riderCount pl = nI N ∧ bu_riders bu = nI N ∧ N ≤ 8 := h.2.2.1
theorem pu_RD.fc {pl : PlanT} {bu : BusT} {R : Nat} {N : Nat} {F : Nat} {H : Nat} (h : pu_RD pl bu R N F H) : pl_friendCount pl = nI F ∧ bu_friends bu = nI F ∧ F ≤ 3 := h.2.2.2.1
theorem pu_RD.hc {pl : PlanT} {bu : BusT} {R : Nat} {N : Nat} {F : Nat} {H : Nat} (h : pu_RD pl bu R N F H) : pl_holderCount pl = nI H ∧ bu_holders bu = nI H ∧ H ≤ 4 := h.2.2.2.2.1
theorem pu_RD.nm {pl : PlanT} {bu : BusT} {R : Nat} {N : Nat} {F : Nat} {H : Nat} (h : pu_RD pl bu R N F H) : bu_names bu = nI (R + N) := h.2.2.2.2.2.1
theorem pu_RD.wy {pl : PlanT} {bu : BusT} {R : Nat} {N : Nat} {F : Nat} {H : Nat} (h : pu_RD pl bu R N F H) : ∀ i, i < R → ∃ m, 1 ≤ m ∧ m ≤ 4 ∧ ru_count (pl_rules pl) i = nI m ∧ bu_waysMany bu i = nI m ∧ ∀ j, j < m → ∃ k, k < 9 ∧ ru_wanted (pl_rules pl) i j = nI k ∧ bu_way bu (4 * i + j) = nI k := h.2.2.2.2.2.2.1
theorem pu_RD.rd {pl : PlanT} {bu : BusT} {R : Nat} {N : Nat} {F : Nat} {H : Nat} (h : pu_RD pl bu R N F H) : ∀ r, r < N → pu_R1 (pl_riders pl) bu R r := h.2.2.2.2.2.2.2.1
theorem pu_RD.fb {pl : PlanT} {bu : BusT} {R : Nat} {N : Nat} {F : Nat} {H : Nat} (h : pu_RD pl bu R N F H) : ∀ r, r < N → ∀ q, bt (qr_friends (pl_riders pl) r) q = true → q < N := h.2.2.2.2.2.2.2.2.1
theorem pu_RD.fr {pl : PlanT} {bu : BusT} {R : Nat} {N : Nat} {F : Nat} {H : Nat} (h : pu_RD pl bu R N F H) : ∀ k, k < F → ∃ a b, a < N ∧ b < N ∧ bu_friendA bu k = nI a ∧ bu_friendB bu k = nI b := h.2.2.2.2.2.2.2.2.2.1
theorem pu_RD.ff {pl : PlanT} {bu : BusT} {R : Nat} {N : Nat} {F : Nat} {H : Nat} (h : pu_RD pl bu R N F H) : ∀ r, r < N → ∀ q, q < N → (bt (qr_friends (pl_riders pl) r) q = true ↔ ∃ k, k < F ∧ ((bu_friendA bu k = nI r ∧ bu_friendB bu k = nI q) ∨ (bu_friendA bu k = nI q ∧ bu_friendB bu k = nI r))) := h.2.2.2.2.2.2.2.2.2.2.1
theorem pu_RD.n1 {pl : PlanT} {bu : BusT} {R : Nat} {N : Nat} {F : Nat} {H : Nat} (h : pu_RD pl bu R N F H) : ∀ i, i < R → ∃ k, k < R + N ∧ bu_name bu k = ru_name (pl_rules pl) i ∧ bu_nameSort bu k = 0 ∧ bu_nameNumber bu k = nI i := h.2.2.2.2.2.2.2.2.2.2.2.1
theorem pu_RD.n2 {pl : PlanT} {bu : BusT} {R : Nat} {N : Nat} {F : Nat} {H : Nat} (h : pu_RD pl bu R N F H) : ∀ r, r < N → ∃ k, k < R + N ∧ bu_name bu k = qr_name (pl_riders pl) r ∧ bu_nameSort bu k = 1 ∧ bu_nameNumber bu k = nI r := h.2.2.2.2.2.2.2.2.2.2.2.2.1
theorem pu_RD.n3 {pl : PlanT} {bu : BusT} {R : Nat} {N : Nat} {F : Nat} {H : Nat} (h : pu_RD pl bu R N F H) : ∀ k, k < R + N → (bu_nameSort bu k = 0 ∧ ∃ i, i < R ∧ bu_nameNumber bu k = nI i ∧ bu_name bu k = ru_name (pl_rules pl) i) ∨ (bu_nameSort bu k = 1 ∧ ∃ r, r < N ∧ bu_nameNumber bu k = nI r ∧ bu_name bu k = qr_name (pl_riders pl) r) := h.2.2.2.2.2.2.2.2.2.2.2.2.2.1
theorem pu_RD.n4 {pl : PlanT} {bu : BusT} {R : Nat} {N : Nat} {F : Nat} {H : Nat} (h : pu_RD pl bu R N F H) : ∀ k, k < R + N → ∀ j, j < R + N → bu_name bu k = bu_name bu j → k = j := h.2.2.2.2.2.2.2.2.2.2.2.2.2.2
/-- a name among the rules -/
theorem pu_nR (h : pu_RD pl bu R N F H) (w : Int64) : (∃ i k, i < R ∧ k < R + N ∧ f_X5_ruleNamed pl w = some (nI i) ∧ f_X11_find bu w = some (nI k) ∧ bu_nameSort bu k = 0 ∧ bu_nameNumber bu k = nI i) ∨ (f_X5_ruleNamed pl w = some (-1) ∧ (f_X11_find bu w = some (-1) ∨ ∃ k, k < R + N ∧ f_X11_find bu w = some (nI k) ∧ bu_nameSort bu k = 1)) := by
  have hR := h.rc.2.2
  have hN := h.nc.2.2
  rcases pu_ruleNamed hR h.rc.1 w with ⟨a1, a2⟩ | ⟨i, a1, a2, a3⟩
  · refine Or.inr ⟨a1, ?_⟩
    rcases pu_findN (by omega) h.nm w with ⟨b1, _⟩ | ⟨k, b1, b2, b3⟩
    · exact Or.inl b1
    · rcases h.n3 k b1 with ⟨_, j, d1, _, d3⟩ | ⟨d, _⟩
      · exact absurd (d3.symm.trans b3) (a2 j d1)
      · exact Or.inr ⟨k, b1, b2, d⟩
  · obtain ⟨k', d1, d2, d3, d4⟩ := h.n1 i a1
    rcases pu_findN (by omega) h.nm w with ⟨_, b2⟩ | ⟨k, b1, b2, b3⟩
    · exact absurd (d2.trans a3) (b2 k' d1)
    · have ek := h.n4 k b1 k' d1 (b3.trans (d2.trans a3).symm)
      subst ek
      exact Or.inl ⟨i, k, a1, b1, a2, b2, d3, d4⟩
/-- a name among the riders -/
theorem pu_nQ (h : pu_RD pl bu R N F H) (w : Int64) : (∃ i k, i < N ∧ k < R + N ∧ f_X5_riderNamed pl w = some (nI i) ∧ f_X11_find bu w = some (nI k) ∧ bu_nameSort bu k = 1 ∧ bu_nameNumber bu k = nI i) ∨ (f_X5_riderNamed pl w = some (-1) ∧ (f_X11_find bu w = some (-1) ∨ ∃ k, k < R + N ∧ f_X11_find bu w = some (nI k) ∧ bu_nameSort bu k = 0)) := by
  have hR := h.rc.2.2
  have hN := h.nc.2.2
  rcases pu_riderNamed hN h.nc.1 w with ⟨a1, a2⟩ | ⟨i, a1, a2, a3⟩
  · refine Or.inr ⟨a1, ?_⟩
    rcases pu_findN (by omega) h.nm w with ⟨b1, _⟩ | ⟨k, b1, b2, b3⟩
    · exact Or.inl b1
    · rcases h.n3 k b1 with ⟨d, _⟩ | ⟨_, j, d1, _, d3⟩
      · exact Or.inr ⟨k, b1, b2, d⟩
      · exact absurd (d3.symm.trans b3) (a2 j d1)
  · obtain ⟨k', d1, d2, d3, d4⟩ := h.n2 i a1
    rcases pu_findN (by omega) h.nm w with ⟨_, b2⟩ | ⟨k, b1, b2, b3⟩
    · exact absurd (d2.trans a3) (b2 k' d1)
    · have ek := h.n4 k b1 k' d1 (b3.trans (d2.trans a3).symm)
      subst ek
      exact Or.inl ⟨i, k, a1, b1, a2, b2, d3, d4⟩
end PW

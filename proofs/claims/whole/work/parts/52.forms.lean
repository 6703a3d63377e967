/-! forms of seats: layout, beats, unbeaten; rows: full, fewest -/
section PW
variable {pl : PlanT} {bu : BusT} {rd : RideT} {w : WT} {tp : TopT}
theorem pu_total (h : pu_GP pl) (hB : pu_RB pl bu) (mo : MOT) {form k : Nat} (hf : form < 3) (hk : k < 4) : ∃ v, f_X0_total (pl_cab pl) (nI form) (nI k) = some v ∧ f_X12_layoutOf mo bu (nI form) (nI k) = some v := by
  have hr := h.rows.2
  have hd := h.door
  rw [f_X0_total, f_X12_layoutOf]
  refine pu_for2 (fun n i (a : Int32) => f_X0_total_b5 (pl_cab pl) n (nI form) (nI k) a i) (fun n i (c : Int32) => f_X12_layoutOf_b5 mo bu n (nI form) (nI k) c i) (4 * vRows pl) (fun _ a c => a = c) (fun o o2 => ∃ v, o = some v ∧ o2 = some v) ?_ ?_ (4 * vRows pl) 0 0 0 4096 (by omega) (by omega) rfl
  · intro n i a c hi e
    subst e
    refine Or.inl ?_
    have hm : i % 4 < 4 := Nat.mod_lt _ (by omega)
    have ex := pu_x20 i (by omega)
    show ∃ a' c', f_X0_total_b5 (pl_cab pl) (n + 1) (nI form) (nI k) a (nI i) = _ ∧ f_X12_layoutOf_b5 mo bu (n + 1) (nI form) (nI k) a (nI i) = _ ∧ _
    rw [f_X0_total_b5, h.rows4, if_neg (nI_ge hi (by omega)), f_X12_layoutOf_b5, hB.rows, h.rows4, if_neg (nI_ge hi (by omega)), pu_rem4 (by omega), pu_and3 (by omega), pu_isIn form hf _ hm, pu_isSeatOf form hf _ hm, pu_sb, pu_sb, pu_ifb, pu_ifb, nI_1]
    cases hin : pu_in form (i % 4)
    · rw [pu_ff, pu_ff]; exact ⟨a, a, rfl, rfl, rfl⟩
    · rw [pu_tt, pu_tt, f_X0_part]
      simp only [f_X12_layoutOf_b67, f_X12_layoutOf_b52, f_X12_layoutOf_b70, nI_1]
      rcases (show k = 0 ∨ k = 1 ∨ k = 2 ∨ k = 3 by omega) with rfl | rfl | rfl | rfl
      · exact ⟨a + 1, a + 1, rfl, rfl, rfl⟩
      · rw [pu_rem4 (by omega), pu_isWin _ hm, pu_isWinM _ hm]
        cases pu_win (i % 4)
        · exact ⟨a + 0, a, rfl, rfl, Int32.add_zero a⟩
        · exact ⟨a + 1, a + 1, rfl, rfl, rfl⟩
      · rw [pu_rem4 (by omega), pu_isPaired form hf _ hm, pu_besM hf (by omega)]
        have eb : pu_b2 form i = pu_in form (i % 4 ^^^ 1) := by rw [pu_b2, ex.2.2.1]
        rw [hin, Bool.true_and, eb]
        cases pu_in form (i % 4 ^^^ 1)
        · exact ⟨a + 1, a + 1, rfl, rfl, rfl⟩
        · refine ⟨a + 0, a, rfl, ?_, Int32.add_zero a⟩
          show (if nI (i ^^^ 1) = (-1 : Int32) then _ else f_X12_layoutOf_b5 mo bu n (nI form) (nI 2) a (nI (i + 1))) = _
          rw [if_neg (pu_ne1 (by omega))]
      · rw [pu_walk h (by omega), pu_shr2 (by omega), hB.door, hd.1, pu_farE, pu_gap (by omega) (by omega), hB.pace]
        exact ⟨a + vWalk pl i, a + vWalk pl i, rfl, rfl, rfl⟩
  · intro n a c e
    subst e
    refine ⟨a, ?_, ?_⟩
    · show f_X0_total_b5 (pl_cab pl) (n + 1) (nI form) (nI k) a (nI _) = _
      rw [f_X0_total_b5, h.rows4, if_pos (nI_le (Nat.le_refl _) (by omega))]
    · show f_X12_layoutOf_b5 mo bu (n + 1) (nI form) (nI k) a (nI _) = _
      rw [f_X12_layoutOf_b5, hB.rows, h.rows4, if_pos (nI_le (Nat.le_refl _) (by omega))]
theorem pu_better (h : pu_GP pl) (hB : pu_RB pl bu) (mo : MOT) {a b : Nat} (ha : a < 3) (hb : b < 3) : ∃ q : Bool, f_X0_isBetter (pl_cab pl) (nI a) (nI b) = some (pu_bI q) ∧ f_X12_doesBeat mo bu (nI a) (nI b) = some (pu_bI q) ∧ (a = b → q = false) := by
  rw [f_X0_isBetter, f_X12_doesBeat]
  have e4 : ∀ i, i < 4 → ¬ (4 : Int32) ≤ nI i := fun i hi => (nI_ge (a := i) (b := 4) hi (by omega) : ¬ nI 4 ≤ nI i)
  refine pu_for2 (fun n i (q : Bool) => f_X0_isBetter_b5 (pl_cab pl) n (nI a) (nI b) (pu_bI q) i) (fun n i (q : Bool) => f_X12_doesBeat_b5 mo bu n (nI a) (nI b) (pu_bI q) i) 4 (fun _ x y => x = y ∧ (a = b → x = false)) (fun o o2 => ∃ q : Bool, o = some (pu_bI q) ∧ o2 = some (pu_bI q) ∧ (a = b → q = false)) ?_ ?_ 4 0 false false 4096 (by omega) (by omega) ⟨rfl, fun _ => rfl⟩
  · intro n i x y hi hI
    obtain ⟨e, hab⟩ := hI
    subst e
    obtain ⟨v1, t1, m1⟩ := pu_total h hB mo ha hi
    obtain ⟨v2, t2, m2⟩ := pu_total h hB mo hb hi
    have key : ∀ d : Int32, (a = b → d = 0) → (∃ x' y' : Bool, f_X0_isBetter_b39 (pl_cab pl) (f_X0_isBetter_b5 (pl_cab pl) n) (nI a) (nI b) (pu_bI x) (nI i) d = f_X0_isBetter_b5 (pl_cab pl) n (nI a) (nI b) (pu_bI x') (nI (i + 1)) ∧ f_X12_doesBeat_b39 mo bu (f_X12_doesBeat_b5 mo bu n) (nI a) (nI b) (pu_bI x) (nI i) d = f_X12_doesBeat_b5 mo bu n (nI a) (nI b) (pu_bI y') (nI (i + 1)) ∧ x' = y' ∧ (a = b → x' = false)) ∨ ∃ q : Bool, f_X0_isBetter_b39 (pl_cab pl) (f_X0_isBetter_b5 (pl_cab pl) n) (nI a) (nI b) (pu_bI x) (nI i) d = some (pu_bI q) ∧ f_X12_doesBeat_b39 mo bu (f_X12_doesBeat_b5 mo bu n) (nI a) (nI b) (pu_bI x) (nI i) d = some (pu_bI q) ∧ (a = b → q = false) := by
      intro d hd
      rw [f_X0_isBetter_b39, f_X12_doesBeat_b39, f_X0_isBetter_b55, f_X12_doesBeat_b55, nI_1, pu_ifb, pu_ifb]
      by_cases c1 : 0 ≤ d
      · rw [if_pos c1, if_pos c1]
        refine Or.inl ?_
        cases x
        · rw [pu_ff, pu_ff]
          by_cases c2 : d ≤ 0
          · rw [if_pos c2, if_pos c2]; exact ⟨false, false, rfl, rfl, rfl, fun _ => rfl⟩
          · rw [if_neg c2, if_neg c2]
            exact ⟨true, true, rfl, rfl, rfl, fun e => absurd (by rw [hd e]; decide) c2⟩
        · rw [pu_tt, pu_tt]
          exact ⟨true, true, rfl, rfl, rfl, hab⟩
      · rw [if_neg c1, if_neg c1]
        exact Or.inr ⟨false, rfl, rfl, fun _ => rfl⟩
    have d0 : a = b → v1 - v2 = 0 := fun e => by
      subst e
      have : v1 = v2 := Option.some.inj (t1.symm.trans t2)
      rw [this, Int32.sub_self]
    show (∃ x' y' : Bool, f_X0_isBetter_b5 (pl_cab pl) (n + 1) (nI a) (nI b) (pu_bI x) (nI i) = _ ∧ f_X12_doesBeat_b5 mo bu (n + 1) (nI a) (nI b) (pu_bI x) (nI i) = _ ∧ _) ∨ ∃ q : Bool, f_X0_isBetter_b5 (pl_cab pl) (n + 1) (nI a) (nI b) (pu_bI x) (nI i) = _ ∧ f_X12_doesBeat_b5 mo bu (n + 1) (nI a) (nI b) (pu_bI x) (nI i) = _ ∧ _
    rw [f_X0_isBetter_b5, if_neg (e4 i hi), t1, pu_sb, t2, pu_sb, f_X12_doesBeat_b5, if_neg (e4 i hi), m1, pu_sb, m2, pu_sb]
    by_cases c3 : nI i = (3 : Int32)
    · rw [if_pos c3, if_pos c3]
      exact key _ (fun e => by rw [d0 e]; decide)
    · rw [if_neg c3, if_neg c3]
      exact key _ d0
  · intro n x y hI
    obtain ⟨e, hab⟩ := hI
    subst e
    have e44 : (4 : Int32) ≤ nI 4 := by decide
    refine ⟨x, ?_, ?_, hab⟩
    · show f_X0_isBetter_b5 (pl_cab pl) (n + 1) (nI a) (nI b) (pu_bI x) (nI 4) = _
      rw [f_X0_isBetter_b5, if_pos e44, if_pos (pu_bI01 x)]
    · show f_X12_doesBeat_b5 mo bu (n + 1) (nI a) (nI b) (pu_bI x) (nI 4) = _
      rw [f_X12_doesBeat_b5, if_pos e44, if_pos (pu_bI01 x)]
/-- x is one of 0 .. n - 1, or none of them -/
theorem pu_ixC (x : Int32) {n : Nat} (hn : n < 2 ^ 30) : (∃ j, j < n ∧ x = nI j) ∨ (x < 0 ∨ nI n ≤ x) := by
  rcases pk_ix x (n := n) (by omega) with q | q | q
  · exact Or.inr (Or.inl q)
  · exact Or.inr (Or.inr q)
  · exact Or.inl q
/-- the reference's in(x, 0, n) -/
theorem pu_inM (x : Int32) {n : Nat} (hn : n < 2 ^ 30) : ((∃ j, j < n + 1 ∧ x = nI j) ∧ f_X12_in x (0 : Int32) (nI n) = some 1) ∨ ((x < 0 ∨ nI (n + 1) ≤ x) ∧ f_X12_in x (0 : Int32) (nI n) = some 0) := by
  rw [f_X12_in]
  rcases pk_ix x (n := n + 1) (by omega) with q | q | ⟨j, hj, rfl⟩
  · rw [if_pos q]; exact Or.inr ⟨Or.inl q, rfl⟩
  · refine Or.inr ⟨Or.inr q, ?_⟩
    by_cases c : x < 0
    · rw [if_pos c]; rfl
    · rw [if_neg c, if_pos (fa_trans (nI_lt (show n < n + 1 by omega) (by omega)) q)]; rfl
  · rw [if_neg (nI_pos (by omega)), if_neg (nI_nlt (by omega) (by omega))]
    exact Or.inl ⟨⟨j, hj, rfl⟩, rfl⟩
theorem pu_formX (mo : MOT) (x : Int32) : (∃ j, j < 3 ∧ x = nI j ∧ f_X10_isForm x = some 1 ∧ f_X12_isForm mo x = some 1) ∨ (f_X10_isForm x = some 0 ∧ f_X12_isForm mo x = some 0) := by
  rw [f_X10_isForm, f_X12_isForm]
  rcases pu_inM x (n := 2) (by omega) with ⟨⟨j, hj, rfl⟩, e⟩ | ⟨q, e⟩
  · have e' : f_X12_in (nI j) (0 : Int32) (2 : Int32) = some 1 := e
    rw [e', pu_sb, if_neg pu_10, if_neg (nI_pos (by omega)), if_neg (show ¬ (3 : Int32) ≤ nI j from nI_ge (a := j) (b := 3) hj (by omega))]
    exact Or.inl ⟨j, hj, rfl, rfl, rfl⟩
  · have e' : f_X12_in x (0 : Int32) (2 : Int32) = some 0 := e
    rw [e', pu_sb, if_pos rfl]
    refine Or.inr ⟨?_, rfl⟩
    by_cases c : x < 0
    · rw [if_pos c]; rfl
    · have q3 : (3 : Int32) ≤ x := q.resolve_left c
      rw [if_neg c, if_pos q3]; rfl
theorem pu_layout (h : pu_GP pl) (hB : pu_RB pl bu) (hb : tp_hasBus tp = 1) (mo : MOT) (x y : Int32) : pu_An tp mo (f_X10_layout tp pl x y) (f_X12_layout mo bu x y) := by
  rw [f_X10_layout, f_X12_layout, f_X12_layout_b5, hb, if_neg pu_10, f_X10_layout_b23, f_X12_layout_b35]
  rcases pu_formX (mo_set_thrown mo 0) x with ⟨f, hf, rfl, e1, e2⟩ | ⟨e1, e2⟩
  · rw [e1, e2, pu_sb, pu_sb, if_neg pu_10, if_neg pu_10]
    rcases pu_inM y (n := 3) (by omega) with ⟨⟨k, hk, rfl⟩, e⟩ | ⟨q, e⟩
    · have e' : f_X12_in (nI k) (0 : Int32) (3 : Int32) = some 1 := e
      obtain ⟨v, t1, t2⟩ := pu_total h hB (mo_set_thrown mo 0) hf hk
      rw [e', pu_sb, if_neg pu_10, if_neg (nI_pos (by omega)), if_pos (show nI k < (4 : Int32) from nI_lt (a := k) (b := 4) hk (by omega)), t1, t2, pu_sb, pu_sb]
      exact ⟨v, 0, by decide, rfl, rfl⟩
    · have e' : f_X12_in y (0 : Int32) (3 : Int32) = some 0 := e
      rw [e', pu_sb, if_pos rfl]
      by_cases c : y < 0
      · rw [if_pos c]; exact ⟨_, 1, by decide, rfl, rfl⟩
      · have q4 : (4 : Int32) ≤ y := q.resolve_left c
        rw [if_neg c, if_neg (fun z => Int32.lt_irrefl (fa_trans z q4))]
        exact ⟨_, 1, by decide, rfl, rfl⟩
  · rw [e1, e2, pu_sb, pu_sb, if_pos rfl, if_pos rfl]
    exact ⟨_, 1, by decide, rfl, rfl⟩
theorem pu_beats (h : pu_GP pl) (hB : pu_RB pl bu) (hb : tp_hasBus tp = 1) (mo : MOT) (x y : Int32) : pu_An tp mo (f_X10_beats tp pl x y) (f_X12_beats mo bu x y) := by
  rw [f_X10_beats, f_X12_beats, f_X12_beats_b5, hb, if_neg pu_10, f_X10_beats_b26, f_X12_beats_b47]
  rcases pu_formX (mo_set_thrown mo 0) x with ⟨f, hf, rfl, e1, e2⟩ | ⟨e1, e2⟩
  · rw [e1, e2, pu_sb, pu_sb, if_neg pu_10, if_neg pu_10]
    rcases pu_formX (mo_set_thrown mo 0) y with ⟨g, hg, rfl, e3, e4⟩ | ⟨e3, e4⟩
    · rw [e3, e4, pu_sb, pu_sb, if_neg pu_10, if_neg pu_10]
      by_cases c : nI f = nI g
      · rw [if_pos c, if_pos c]; exact ⟨_, 1, by decide, rfl, rfl⟩
      · obtain ⟨q, t1, t2, _⟩ := pu_better h hB (mo_set_thrown mo 0) hf hg
        rw [if_neg c, if_neg c, t1, t2, pu_sb, pu_sb, pu_ifb, pu_ifb]
        cases q
        · exact ⟨0, 0, by decide, rfl, rfl⟩
        · exact ⟨1, 0, by decide, rfl, rfl⟩
    · rw [e3, e4, pu_sb, pu_sb, if_pos rfl, if_pos rfl]
      exact ⟨_, 1, by decide, rfl, rfl⟩
  · rw [e1, e2, pu_sb, pu_sb, if_pos rfl, if_pos rfl]
    exact ⟨_, 1, by decide, rfl, rfl⟩
theorem pu_unbeaten (h : pu_GP pl) (hB : pu_RB pl bu) (hb : tp_hasBus tp = 1) (mo : MOT) : pu_An tp mo (f_X10_unbeaten tp pl) (f_X12_unbeaten mo bu) := by
  have hx : ∃ B : Nat → Nat → Bool, ∀ a c, a < 3 → c < 3 → f_X0_isBetter (pl_cab pl) (nI a) (nI c) = some (pu_bI (B a c)) ∧ f_X12_doesBeat (mo_set_thrown mo 0) bu (nI a) (nI c) = some (pu_bI (B a c)) ∧ (a = c → B a c = false) := by
    refine ⟨fun a c => decide (f_X0_isBetter (pl_cab pl) (nI a) (nI c) = some 1), fun a c ha hc => ?_⟩
    obtain ⟨q, t1, t2, t3⟩ := pu_better h hB (mo_set_thrown mo 0) ha hc
    show _ = some (pu_bI (decide (f_X0_isBetter (pl_cab pl) (nI a) (nI c) = some 1))) ∧ _ = some (pu_bI (decide (f_X0_isBetter (pl_cab pl) (nI a) (nI c) = some 1))) ∧ (a = c → decide (f_X0_isBetter (pl_cab pl) (nI a) (nI c) = some 1) = false)
    rw [t1, t2]
    cases q
    · exact ⟨rfl, rfl, fun _ => rfl⟩
    · exact ⟨rfl, rfl, fun e => absurd (t3 e) (by decide)⟩
  obtain ⟨B, hBt⟩ := hx
  have g3 : ∀ i, i < 3 → ¬ (3 : Int32) ≤ nI i := fun i hi => (nI_ge (a := i) (b := 3) hi (by omega) : ¬ nI 3 ≤ nI i)
  have e33 : (3 : Int32) ≤ nI 3 := by decide
  generalize eP : (fun f => !(B 0 f || B 1 f || B 2 f)) = P
  -- the class: form by form
  have inC : ∀ (k17 : Int32 → Int32 → TopT → Option (Int32 × TopT)) (v : Int32) (f : Nat), f < 3 → f_X10_unbeaten_b27 pl k17 4096 v (nI f) 0 0 tp = k17 (if P f then v ||| ((1 : Int32) <<< (nI f &&& 31)) else v) (nI (f + 1)) tp := by
    intro k17 v f hf
    refine pu_for (fun n i (q : Bool) => f_X10_unbeaten_b27 pl k17 n v (nI f) (pu_bI q) i tp) 3 (fun i q => q = ((decide (0 < i) && B 0 f) || (decide (1 < i) && B 1 f) || (decide (2 < i) && B 2 f))) (fun o => o = k17 (if P f then v ||| ((1 : Int32) <<< (nI f &&& 31)) else v) (nI (f + 1)) tp) ?_ ?_ 3 0 false 4096 (by omega) (by omega) rfl
    · intro n i q hi e
      refine Or.inl ?_
      show ∃ a', f_X10_unbeaten_b27 pl k17 (n + 1) v (nI f) (pu_bI q) (nI i) tp = _ ∧ _
      rw [f_X10_unbeaten_b27, if_neg (g3 i hi), (hBt i f hi hf).1, pu_sb, pu_ifb, pu_ifb, f_X10_unbeaten_b53, nI_1]
      have e2 : (q || B i f) = ((decide (0 < i + 1) && B 0 f) || (decide (1 < i + 1) && B 1 f) || (decide (2 < i + 1) && B 2 f)) := by
        rw [e]
        rcases (show i = 0 ∨ i = 1 ∨ i = 2 by omega) with rfl | rfl | rfl
        · simp
        · simp
        · simp
      cases q
      · rw [pu_ff]
        cases c : B i f
        · rw [pu_ff]; exact ⟨false, rfl, by rw [← e2, c]; rfl⟩
        · rw [pu_tt]; exact ⟨true, rfl, by rw [← e2, c]; rfl⟩
      · rw [pu_tt]; exact ⟨true, rfl, by rw [← e2]; rfl⟩
    · intro n q e
      show f_X10_unbeaten_b27 pl k17 (n + 1) v (nI f) (pu_bI q) (nI 3) tp = _
      rw [f_X10_unbeaten_b27, if_pos e33, pu_ifb, nI_1]
      have : P f = !q := by rw [← eP, e]; rfl
      rw [this]
      cases q <;> rfl
  have eC : f_X10_unbeaten tp pl = some (pu_mk P 3, tp_set_latestTrouble tp 0) := by
    rw [f_X10_unbeaten, hb, if_neg pu_10]
    exact pu_mask (fun n i a => f_X10_unbeaten_b17 pl n a i tp) (fun m => some (m, tp_set_latestTrouble tp 0)) 3 P (fun n i a hi => by
      show f_X10_unbeaten_b17 pl (n + 1) a (nI i) tp = _
      rw [f_X10_unbeaten_b17, if_neg (g3 i hi), inC _ a i hi]) (fun n a => by
      show f_X10_unbeaten_b17 pl (n + 1) a (nI 3) tp = _
      rw [f_X10_unbeaten_b17, if_pos e33]
      rfl) (by omega)
  -- the reference: who beats whom, taken out
  have inM : ∀ (k23 : Int32 → Int32 → MOT → Option (Int32 × MOT)) (v : Int32) (a : Nat), a < 3 → ∃ v2, f_X12_unbeaten_b30 bu k23 4096 v (nI a) 0 (mo_set_thrown mo 0) = k23 v2 (nI (a + 1)) (mo_set_thrown mo 0) ∧ ∀ j, j < 32 → bt v2 j = (bt v j && !(decide (j < 3) && B a j)) := by
    intro k23 v a ha
    refine pu_for (fun n i (u : Int32) => f_X12_unbeaten_b30 bu k23 n u (nI a) i (mo_set_thrown mo 0)) 3 (fun i u => ∀ j, j < 32 → bt u j = (bt v j && !(decide (j < i) && B a j))) (fun o => ∃ v2, o = k23 v2 (nI (a + 1)) (mo_set_thrown mo 0) ∧ ∀ j, j < 32 → bt v2 j = (bt v j && !(decide (j < 3) && B a j))) ?_ ?_ 3 0 v 4096 (by omega) (by omega) (fun j _ => by rw [decide_eq_false (by omega)]; simp)
    · intro n i u hi hI
      refine Or.inl ?_
      show ∃ a', f_X12_unbeaten_b30 bu k23 (n + 1) u (nI a) (nI i) (mo_set_thrown mo 0) = _ ∧ _
      have keep : B a i = false → ∀ j, j < 32 → bt u j = (bt v j && !(decide (j < i + 1) && B a j)) := fun hz j hj => by
        rw [hI j hj]
        by_cases e : j = i
        · subst e; rw [hz, Bool.and_false, Bool.and_false]
        · have : decide (j < i + 1) = decide (j < i) := by
            by_cases q : j < i
            · rw [decide_eq_true q, decide_eq_true (by omega)]
            · rw [decide_eq_false q, decide_eq_false (by omega)]
          rw [this]
      rw [f_X12_unbeaten_b30, if_neg (g3 i hi), (hBt a i ha hi).2.1, pu_sb, pu_ifb, nI_1]
      by_cases c : nI a = nI i
      · rw [if_pos c]
        rw [nI_eq (by omega) (by omega)] at c
        exact ⟨u, rfl, keep ((hBt a i ha hi).2.2 c)⟩
      · rw [if_neg c]
        cases hq : B a i
        · rw [pu_ff]; exact ⟨u, rfl, keep hq⟩
        · rw [pu_tt]
          refine ⟨_, rfl, fun j hj => ?_⟩
          rw [pu_clr u (by omega) hj, hI j hj]
          by_cases e : j = i
          · subst e; rw [decide_eq_true rfl, decide_eq_true (show j < j + 1 by omega), hq]; simp
          · have : decide (j < i + 1) = decide (j < i) := by
              by_cases q : j < i
              · rw [decide_eq_true q, decide_eq_true (by omega)]
              · rw [decide_eq_false q, decide_eq_false (by omega)]
            rw [this, decide_eq_false e]
            simp
    · intro n u hI
      show ∃ v2, f_X12_unbeaten_b30 bu k23 (n + 1) u (nI a) (nI 3) (mo_set_thrown mo 0) = _ ∧ _
      rw [f_X12_unbeaten_b30, if_pos e33, nI_1]
      exact ⟨u, rfl, hI⟩
  have eM : f_X12_unbeaten mo bu = some (pu_mk P 3, pu_mt mo 0) := by
    rw [f_X12_unbeaten, f_X12_unbeaten_b5]
    refine pu_for (fun n i (u : Int32) => f_X12_unbeaten_b23 bu n u i (mo_set_thrown mo 0)) 3 (fun i u => ∀ j, j < 32 → bt u j = (decide (j < 3) && !((decide (0 < i) && B 0 j) || (decide (1 < i) && B 1 j) || (decide (2 < i) && B 2 j)))) (fun o => o = some (pu_mk P 3, pu_mt mo 0)) ?_ ?_ 3 0 7 4096 (by omega) (by omega) (by
      intro j hj
      have : ∀ j, j < 32 → bt 7 j = decide (j < 3) := by decide +kernel
      rw [this j hj]; simp)
    · intro n i u hi hI
      refine Or.inl ?_
      obtain ⟨v2, e1, e2⟩ := inM (f_X12_unbeaten_b23 bu n) u i hi
      refine ⟨v2, ?_, fun j hj => ?_⟩
      · show f_X12_unbeaten_b23 bu (n + 1) u (nI i) (mo_set_thrown mo 0) = _
        rw [f_X12_unbeaten_b23, if_neg (g3 i hi)]
        exact e1
      · rw [e2 j hj, hI j hj]
        rcases (show i = 0 ∨ i = 1 ∨ i = 2 by omega) with rfl | rfl | rfl
        · cases decide (j < 3) <;> cases B 0 j <;> simp
        · cases decide (j < 3) <;> cases B 0 j <;> cases B 1 j <;> simp
        · cases decide (j < 3) <;> cases B 0 j <;> cases B 1 j <;> cases B 2 j <;> simp
    · intro n u hI
      show f_X12_unbeaten_b23 bu (n + 1) u (nI 3) (mo_set_thrown mo 0) = _
      have eu : u = pu_mk P 3 := b_ext fun j hj => by
        rw [hI j hj, pu_mk_bt P 3 (by omega), ← eP]
        simp
      rw [f_X12_unbeaten_b23, if_pos e33, eu]
      rfl
  exact ⟨pu_mk P 3, 0, by decide, eC, eM⟩
theorem pu_placesX (x : Int32) : (∃ j, 1 ≤ j ∧ j ≤ 40 ∧ x = nI j ∧ f_X10_isPlaces x = some 1 ∧ f_X12_in x (1 : Int32) (40 : Int32) = some 1) ∨ (f_X10_isPlaces x = some 0 ∧ f_X12_in x (1 : Int32) (40 : Int32) = some 0) := by
  rw [f_X10_isPlaces, f_X12_in]
  by_cases c1 : x < (1 : Int32)
  · rw [if_pos c1, if_pos c1]; exact Or.inr ⟨rfl, rfl⟩
  · rw [if_neg c1, if_neg c1]
    by_cases c2 : (40 : Int32) < x
    · rw [if_pos c2, if_pos c2]; exact Or.inr ⟨rfl, rfl⟩
    · rw [if_neg c2, if_neg c2]
      have hx : ¬ x < 0 := fun z => c1 (fa_trans z (by decide))
      obtain ⟨j, hj, rfl⟩ := nI_of hx
      rw [show (1 : Int32) = nI 1 from rfl, nI_ltI (by omega) (by omega)] at c1
      rw [show (40 : Int32) = nI 40 from rfl, nI_ltI (by omega) (by omega)] at c2
      exact Or.inl ⟨j, by omega, by omega, rfl, rfl, rfl⟩
theorem pu_full (mo : MOT) (x : Int32) : pu_An tp mo (f_X10_full tp x) (f_X12_full mo x) := by
  rw [f_X10_full, f_X12_full, f_X12_full_b5]
  rcases pu_placesX x with ⟨j, _, _, rfl, e1, e2⟩ | ⟨e1, e2⟩
  · rw [e1, e2, pu_sb, pu_sb, if_neg pu_10, if_neg pu_10]; exact ⟨_, 0, by decide, rfl, rfl⟩
  · rw [e1, e2, pu_sb, pu_sb, if_pos rfl, if_pos rfl]; exact ⟨_, 2, by decide, rfl, rfl⟩
theorem pu_fewest (mo : MOT) (x : Int32) : pu_An tp mo (f_X10_fewest tp x) (f_X12_fewest mo x) := by
  rw [f_X10_fewest, f_X12_fewest, f_X12_fewest_b5]
  rcases pu_placesX x with ⟨j, _, _, rfl, e1, e2⟩ | ⟨e1, e2⟩
  · rw [e1, e2, pu_sb, pu_sb, if_neg pu_10, if_neg pu_10]; exact ⟨_, 0, by decide, rfl, rfl⟩
  · rw [e1, e2, pu_sb, pu_sb, if_pos rfl, if_pos rfl]; exact ⟨_, 2, by decide, rfl, rfl⟩
end PW

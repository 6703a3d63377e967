/-! dealt: the count over all hands -/
section PQ
variable {pl : PlanT} {bu : BusT} {rd : RideT} {tp : TopT}
/-- a hand out of its number -/
def pu_dc : Nat → Nat → List Nat
  | 0, _ => []
  | n + 1, c => pu_dc n (c / 8) ++ [c % 8]
theorem pu_cd_snoc (l : List Nat) (x : Nat) : pu_cd (l ++ [x]) = 8 * pu_cd l + x := by
  unfold pu_cd; rw [List.foldl_append]; rfl
theorem pu_dc_cd : ∀ (n : Nat) (l : List Nat), l.length = n → (∀ x, x ∈ l → x < 8) → pu_dc n (pu_cd l) = l := by
  intro n
  induction n with
  | zero => intro l hl _; rw [List.eq_nil_of_length_eq_zero hl]; rfl
  | succ n ih =>
    intro l hl hx
    have hne : l ≠ [] := fun e => by rw [e] at hl; exact absurd hl (by simp)
    have e := List.dropLast_concat_getLast hne
    have h8 := hx _ (List.getLast_mem hne)
    have hd : l.dropLast.length = n := by rw [List.length_dropLast, hl]; rfl
    generalize l.getLast hne = x at e h8
    rw [← e, pu_cd_snoc, pu_dc, show (8 * pu_cd l.dropLast + x) / 8 = pu_cd l.dropLast by omega, show (8 * pu_cd l.dropLast + x) % 8 = x by omega, ih l.dropLast hd (fun y hy => hx y (List.dropLast_subset l hy))]
/-- how many of these hands are so -/
def pu_cnt (P : List Nat → Bool) (n : Nat) : List Nat → Nat
  | [] => 0
  | c :: cs => (if P (pu_dc n c) then 1 else 0) + pu_cnt P n cs
theorem pu_cntP (P : List Nat → Bool) (n : Nat) {a b : List Nat} (h : a.Perm b) : pu_cnt P n a = pu_cnt P n b := by
  induction h with
  | nil => rfl
  | cons x _ ih => rw [pu_cnt, pu_cnt, ih]
  | swap x y l => rw [pu_cnt, pu_cnt, pu_cnt, pu_cnt]; omega
  | trans _ _ h1 h2 => exact Eq.trans h1 h2
theorem pu_cntA (P : List Nat → Bool) (n : Nat) (a : List Nat) (c : Nat) : pu_cnt P n (a ++ [c]) = pu_cnt P n a + (if P (pu_dc n c) then 1 else 0) := by
  induction a with
  | nil => show (if P (pu_dc n c) = true then 1 else 0) + 0 = 0 + (if P (pu_dc n c) = true then 1 else 0); omega
  | cons x a ih => rw [List.cons_append, pu_cnt, pu_cnt, ih]; omega
def pu_fcn (n : Nat) : Nat := [1, 1, 2, 6, 24, 120, 720].getD n 0
theorem pu_fcn6 : ∀ n, n < 7 → pu_fcn n ≤ 720 := by decide
theorem pu_tab {n : Nat} (h1 : 1 ≤ n) (h6 : n ≤ 6) : (pu_seq n (pu_fcn n) (List.range 6)).Perm ((List.range (pu_fcn n)).map (fun k => pu_cd (pu_sg n k (List.range n)))) := by
  have h : n = 1 ∨ n = 2 ∨ n = 3 ∨ n = 4 ∨ n = 5 ∨ n = 6 := by omega
  rcases h with rfl | rfl | rfl | rfl | rfl | rfl
  · exact List.isPerm_iff.mp pu_tab1
  · exact List.isPerm_iff.mp pu_tab2
  · exact List.isPerm_iff.mp pu_tab3
  · exact List.isPerm_iff.mp pu_tab4
  · exact List.isPerm_iff.mp pu_tab5
  · exact List.isPerm_iff.mp pu_tab6
theorem pu_okn {n : Nat} (h1 : 1 ≤ n) (h6 : n ≤ 6) : pu_ok n (pu_fcn n) (List.range 6) = true := by
  have h : n = 1 ∨ n = 2 ∨ n = 3 ∨ n = 4 ∨ n = 5 ∨ n = 6 := by omega
  rcases h with rfl | rfl | rfl | rfl | rfl | rfl
  · exact pu_ok1
  · exact pu_ok2
  · exact pu_ok3
  · exact pu_ok4
  · exact pu_ok5
  · exact pu_ok6
/-- a hand that is in order: six places, the first n below n -/
def pu_HO (n : Nat) (l : List Nat) : Prop := l.length = 6 ∧ ∀ j, j < n → l.getD j 0 < n
theorem pu_nxS {n t : Nat} (h1 : 1 ≤ n) (h6 : n ≤ 6) {l : List Nat} (ho : pu_ok n (t + 1) l = true) {z : DealsT} (hz : pu_HR n z (pu_D0 l)) : ∃ e, f_X1_dealNext z (nI n) = some e ∧ e = de_set_hand z (de_hand e) ∧ pu_HR n e (pu_D0 (pu_nx n l)) ∧ pu_HO n (pu_nx n l) ∧ pu_ok n t (pu_nx n l) = true := by
  rw [pu_ok, Bool.and_eq_true] at ho
  obtain ⟨o1, o2⟩ := ho
  rcases pu_nextR h6 h1 hz with ⟨_, b⟩ | ⟨e, e', a, b, c, k, k'⟩
  · rw [b] at o1; exact absurd (show false = true from o1) (by decide)
  · rw [b] at o1
    have o3 : ∀ j, j < n → (de_hand e' j).toNatClampNeg < n ∧ de_hand e' j = nI (de_hand e' j).toNatClampNeg := by
      intro j hj
      have := List.all_eq_true.mp o1 j (List.mem_range.mpr hj)
      rw [Bool.and_eq_true] at this
      exact ⟨of_decide_eq_true this.1, of_decide_eq_true this.2⟩
    have en : pu_nx n l = (List.range 6).map (fun j => (de_hand e' j).toNatClampNeg) := by rw [pu_nx, b]
    have eg : ∀ j, j < 6 → (pu_nx n l).getD j 0 = (de_hand e' j).toNatClampNeg := by
      intro j hj
      rw [en, List.getD_eq_getElem?_getD, List.getElem?_map, List.getElem?_range hj]; rfl
    refine ⟨e, a, k, ?_, ⟨?_, ?_⟩, o2⟩
    · intro j hj
      show de_hand e j = nI ((pu_nx n l).getD j 0)
      rw [eg j (by omega), c j hj]
      exact (o3 j hj).2
    · rw [en, List.length_map, List.length_range]
    · intro j hj
      rw [eg j (by omega)]
      exact (o3 j hj).1
/-- the looks of this hand -/
def pu_LH (pl : PlanT) (l : List Nat) : Nat → Int32 := fun j => qr_looks (pl_riders pl) (l.getD j 0)
/-- a hand of riders that there are -/
def pu_LX (pl : PlanT) (l : List Nat) : Prop := ∀ j, j < vN pl → l.getD j 0 < vN pl
theorem pu_tk {n : Nat} (h6 : n ≤ 6) {l : List Nat} (h : pu_HO n l) : pu_dc n (pu_cd (l.take n)) = l.take n ∧ ∀ j, j < n → (l.take n).getD j 0 = l.getD j 0 := by
  have hl := h.1
  have hg : ∀ j, j < n → (l.take n).getD j 0 = l.getD j 0 := by
    intro j hj
    rw [List.getD_eq_getElem?_getD, List.getD_eq_getElem?_getD, List.getElem?_take, if_pos hj]
  refine ⟨pu_dc_cd n _ (by rw [List.length_take]; omega) ?_, hg⟩
  intro x hx
  obtain ⟨j, hj, e⟩ := List.getElem_of_mem hx
  have hjn : j < n := by rw [List.length_take] at hj; omega
  have := hg j hjn
  rw [List.getD_eq_getElem?_getD, List.getElem?_eq_getElem hj] at this
  have h2 := h.2 j hjn
  rw [← this] at h2
  have h3 : x < n := by rw [← e]; exact h2
  omega
/-- the looks are laid as dealt -/
theorem pu_62 (h : pu_GP pl) (k45 : Int32 → Int32 → Int32 → DealsT → RideT → Option (DealsT × RideT)) (v3 v4 : Int32) {n : Nat} (h6 : n ≤ 6) {l : List Nat} (ho : pu_HO n l) {z : DealsT} (hz : pu_HR n z (pu_D0 l)) (rd : RideT) : ∃ lk : Nat → Int32, f_X1_countAll_b62 pl k45 4096 (nI n) v3 v4 (0 : Int32) z rd = f_X1_countAll_b105 pl k45 4096 (nI n) v3 v4 (0 : Int32) z (rd_set_scene rd (sc_set_looks (rd_scene rd) lk)) ∧ (∀ j, j < n → lk j = pu_LH pl l j) ∧ lk 8 = sc_looks (rd_scene rd) 8 := by
  refine pu_for (fun m i a => f_X1_countAll_b62 pl k45 m (nI n) v3 v4 i z a) n (fun i a => ∃ lk : Nat → Int32, a = rd_set_scene rd (sc_set_looks (rd_scene rd) lk) ∧ (∀ j, j < i → lk j = pu_LH pl l j) ∧ lk 8 = sc_looks (rd_scene rd) 8) (fun o => ∃ lk : Nat → Int32, o = f_X1_countAll_b105 pl k45 4096 (nI n) v3 v4 (0 : Int32) z (rd_set_scene rd (sc_set_looks (rd_scene rd) lk)) ∧ (∀ j, j < n → lk j = pu_LH pl l j) ∧ lk 8 = sc_looks (rd_scene rd) 8) ?_ ?_ n 0 rd 4096 (by omega) (by omega) ⟨sc_looks (rd_scene rd), rfl, fun j hj => by omega, rfl⟩
  · intro m i a hi hI
    obtain ⟨lk, ea, e1, e2⟩ := hI
    have eh : de_hand z i = nI (l.getD i 0) := hz i hi
    have hl := ho.2 i hi
    refine Or.inl ⟨rd_set_scene rd (sc_set_looks (rd_scene rd) (upd lk i (pu_LH pl l i))), ?_, upd lk i (pu_LH pl l i), rfl, pu_upI (P := fun j x => x = pu_LH pl l j) rfl e1, ?_⟩
    · show f_X1_countAll_b62 pl k45 (m + 1) (nI n) v3 v4 (nI i) z a = f_X1_countAll_b62 pl k45 m (nI n) v3 v4 (nI (i + 1)) z _
      rw [f_X1_countAll_b62]
      simp only [if_neg (nI_ge (a := i) (b := n) hi (by omega)), if_pos (pu_inn (c := i) (N := 6) (by omega) (by omega)), nI_clamp (show i < 2 ^ 31 by omega), eh, if_pos (pu_inn (c := l.getD i 0) (N := 8) (by omega) (by omega)), if_pos (pu_inn (c := i) (N := 9) (by omega) (by omega)), nI_clamp (show l.getD i 0 < 2 ^ 31 by omega), f_X1_countAll_b96, nI_1, ea]
      rfl
    · rw [pu_upN _ _ (by omega)]; exact e2
  · intro m a hI
    obtain ⟨lk, ea, e1, e2⟩ := hI
    refine ⟨lk, ?_, e1, e2⟩
    show f_X1_countAll_b62 pl k45 (m + 1) (nI n) v3 v4 (nI n) z a = _
    rw [f_X1_countAll_b62, if_pos (nI_le (Nat.le_refl _) (by omega)), ea]
/-- the tally of one run -/
theorem pu_tally (h : pu_GP pl) (rd2 : RideT) (z : DealsT) (s0 : Int32) : ∃ z', f_X1_tally z rd2 (nI (vN pl)) s0 = some z' ∧ de_hand z' = de_hand z ∧ de_counted z' = de_counted z ∧ (∀ r, r < vN pl → de_told z' r = (if s0 = 0 then de_told z r else pu_SV rd2 r)) ∧ ∀ r, r < vN pl → de_asMuch z' r = (if pu_SV rd2 r < (if s0 = 0 then de_told z r else pu_SV rd2 r) then de_asMuch z r else de_asMuch z r + 1) := by
  have hn := h.n31
  refine pu_for (fun m i a => f_X1_tally_b2 rd2 m (nI (vN pl)) s0 i a) (vN pl) (fun i a => de_hand a = de_hand z ∧ de_counted a = de_counted z ∧ (∀ r, i ≤ r → r < vN pl → de_told a r = de_told z r ∧ de_asMuch a r = de_asMuch z r) ∧ (∀ r, r < i → de_told a r = (if s0 = 0 then de_told z r else pu_SV rd2 r)) ∧ ∀ r, r < i → de_asMuch a r = (if pu_SV rd2 r < (if s0 = 0 then de_told z r else pu_SV rd2 r) then de_asMuch z r else de_asMuch z r + 1)) (fun o => ∃ z', o = some z' ∧ de_hand z' = de_hand z ∧ de_counted z' = de_counted z ∧ (∀ r, r < vN pl → de_told z' r = (if s0 = 0 then de_told z r else pu_SV rd2 r)) ∧ ∀ r, r < vN pl → de_asMuch z' r = (if pu_SV rd2 r < (if s0 = 0 then de_told z r else pu_SV rd2 r) then de_asMuch z r else de_asMuch z r + 1)) ?_ ?_ (vN pl) 0 z 4096 (by omega) (by omega) ⟨rfl, rfl, fun r _ _ => ⟨rfl, rfl⟩, fun r hr => by omega, fun r hr => by omega⟩
  · intro m i a hi hI
    obtain ⟨i1, i2, i3, i4, i5⟩ := hI
    have i31 := (i3 i (Nat.le_refl _) hi).1
    have i32 := (i3 i (Nat.le_refl _) hi).2
    have e31 : ∀ (k2 : Int32 → Int32 → Int32 → DealsT → Option DealsT), f_X1_tally_b2 rd2 (m + 1) (nI (vN pl)) s0 (nI i) a = f_X1_tally_b31 rd2 (f_X1_tally_b2 rd2 m) (nI (vN pl)) s0 (nI i) (pu_SV rd2 i) a := by
      intro _
      rw [f_X1_tally_b2, if_neg (nI_ge hi (by omega)), if_pos (pu_inn (show i < 8 by omega) (by omega)), nI_clamp (by omega), pu_shunC h rd2 hi, pu_sb]
      unfold pu_SV
      by_cases c : rd_turn rd2 i = 0
      · rw [if_pos c, if_pos c]
      · rw [if_neg c, if_neg c]
    have e45 : ∀ (b : DealsT), f_X1_tally_b45 rd2 (f_X1_tally_b2 rd2 m) (nI (vN pl)) s0 (nI i) (pu_SV rd2 i) b = f_X1_tally_b2 rd2 m (nI (vN pl)) s0 (nI (i + 1)) (if pu_SV rd2 i < de_told b i then b else de_set_asMuch b (upd (de_asMuch b) i (de_asMuch b i + 1))) := by
      intro b
      simp only [f_X1_tally_b45, f_X1_tally_b66, if_pos (pu_inn (c := i) (N := 8) (show i < 8 by omega) (by omega)), nI_clamp (show i < 2 ^ 31 by omega), nI_1]
      by_cases c : pu_SV rd2 i < de_told b i
      · rw [if_pos c, if_pos c]
      · rw [if_neg c, if_neg c]
    have fin : ∀ (b : DealsT), de_hand b = de_hand z → de_counted b = de_counted z → (∀ r, i + 1 ≤ r → r < vN pl → de_told b r = de_told z r) → (∀ r, r < i + 1 → de_told b r = (if s0 = 0 then de_told z r else pu_SV rd2 r)) → de_asMuch b = de_asMuch a →
        ∃ a', f_X1_tally_b45 rd2 (f_X1_tally_b2 rd2 m) (nI (vN pl)) s0 (nI i) (pu_SV rd2 i) b = f_X1_tally_b2 rd2 m (nI (vN pl)) s0 (nI (i + 1)) a' ∧ de_hand a' = de_hand z ∧ de_counted a' = de_counted z ∧ (∀ r, i + 1 ≤ r → r < vN pl → de_told a' r = de_told z r ∧ de_asMuch a' r = de_asMuch z r) ∧ (∀ r, r < i + 1 → de_told a' r = (if s0 = 0 then de_told z r else pu_SV rd2 r)) ∧ ∀ r, r < i + 1 → de_asMuch a' r = (if pu_SV rd2 r < (if s0 = 0 then de_told z r else pu_SV rd2 r) then de_asMuch z r else de_asMuch z r + 1) := by
      intro b b1 b2 b3 b4 b5
      refine ⟨_, e45 b, ?_⟩
      have b4i := b4 i (by omega)
      by_cases c : pu_SV rd2 i < de_told b i
      · rw [if_pos c]
        refine ⟨b1, b2, fun r h1 h2 => ⟨b3 r h1 h2, by rw [b5]; exact (i3 r (by omega) h2).2⟩, b4, fun r hr => ?_⟩
        rw [b5]
        by_cases e : r = i
        · subst e
          rw [b4i] at c
          rw [if_pos c]; exact i32
        · exact i5 r (by omega)
      · rw [if_neg c]
        refine ⟨b1, b2, fun r h1 h2 => ⟨b3 r h1 h2, ?_⟩, b4, fun r hr => ?_⟩
        · show upd (de_asMuch b) i (de_asMuch b i + 1) r = de_asMuch z r
          rw [pu_upN _ _ (by omega), b5]; exact (i3 r (by omega) h2).2
        · show upd (de_asMuch b) i (de_asMuch b i + 1) r = _
          by_cases e : r = i
          · subst e
            rw [b4i] at c
            rw [if_neg c, pu_upS, b5, i32]
          · rw [pu_upN _ _ e, b5]; exact i5 r (by omega)
    by_cases cs : s0 = 0
    · obtain ⟨a', f1, f2⟩ := fin a i1 i2 (fun r h1 h2 => (i3 r (by omega) h2).1) (fun r hr => by
        by_cases e : r = i
        · subst e; rw [if_pos cs]; exact i31
        · exact i4 r (by omega)) rfl
      refine Or.inl ⟨a', ?_, f2⟩
      show f_X1_tally_b2 rd2 (m + 1) (nI (vN pl)) s0 (nI i) a = _
      rw [e31 (fun _ _ _ _ => none), f_X1_tally_b31, if_pos cs]
      exact f1
    · obtain ⟨a', f1, f2⟩ := fin (de_set_told a (upd (de_told a) i (pu_SV rd2 i))) i1 i2 (fun r h1 h2 => by
          show upd (de_told a) i (pu_SV rd2 i) r = _
          rw [pu_upN _ _ (by omega)]; exact (i3 r (by omega) h2).1) (fun r hr => by
          show upd (de_told a) i (pu_SV rd2 i) r = _
          by_cases e : r = i
          · subst e; rw [pu_upS, if_neg cs]
          · rw [pu_upN _ _ e]; exact i4 r (by omega)) rfl
      refine Or.inl ⟨a', ?_, f2⟩
      show f_X1_tally_b2 rd2 (m + 1) (nI (vN pl)) s0 (nI i) a = _
      rw [e31 (fun _ _ _ _ => none), f_X1_tally_b31, if_neg cs, if_pos (pu_inn (show i < 8 by omega) (by omega)), nI_clamp (by omega)]
      exact f1
  · intro m a hI
    obtain ⟨i1, i2, _, i4, i5⟩ := hI
    refine ⟨a, ?_, i1, i2, i4, i5⟩
    show f_X1_tally_b2 rd2 (m + 1) (nI (vN pl)) s0 (nI (vN pl)) a = _
    rw [f_X1_tally_b2, if_pos (nI_le (Nat.le_refl _) (by omega))]
/-- is one shunned as much in this hand -/
def pu_AM (V : List Nat → Nat → Int32) (n r : Nat) (l : List Nat) : Bool := decide (¬ V l r < V (List.range n) r)
/-- all deals of the class -/
theorem pu_45 (h : pu_GP pl) (h1 : 1 ≤ vN pl) (h6 : vN pl ≤ 6) {V : List Nat → Nat → Int32} (hV : ∀ l, pu_LX pl l → pu_VV pl bu (pu_LH pl l) (V l)) {N : Nat} (hN : N ≤ 720) : ∀ (t k : Nat) (l : List Nat) (z : DealsT) (rd : RideT) (fuel : Nat), k + t = N → t < fuel → pu_HO (vN pl) l → pu_ok (vN pl) t l = true → pu_HR (vN pl) z (pu_D0 l) → (k = 0 → l.take (vN pl) = List.range (vN pl)) → (0 < k → ∀ r, r < vN pl → de_told z r = V (List.range (vN pl)) r) →
    ∃ z' rd', f_X1_countAll_b45 pl fuel (nI (vN pl)) (nI N) (nI k) z rd = some (z', rd') ∧ de_counted z' = 1 ∧ (0 < N → ∀ r, r < vN pl → de_told z' r = V (List.range (vN pl)) r) ∧ ∀ r, r < vN pl → de_asMuch z' r = de_asMuch z r + nI (pu_cnt (pu_AM V (vN pl) r) (vN pl) (pu_seq (vN pl) t l)) := by
  intro t
  induction t with
  | zero =>
    intro k l z rd fuel hk hf _ _ _ _ hT
    cases fuel with
    | zero => omega
    | succ fuel =>
      have e : k = N := by omega
      subst e
      refine ⟨de_set_counted z 1, rd, ?_, rfl, hT, fun r _ => ?_⟩
      · rw [f_X1_countAll_b45, if_pos (nI_le (Nat.le_refl _) (by omega))]; rfl
      · show de_asMuch z r = de_asMuch z r + 0
        rw [Int32.add_zero]
  | succ t ih =>
    intro k l z rd fuel hk hf hO ho hz h0 hT
    cases fuel with
    | zero => omega
    | succ fuel =>
      obtain ⟨rd1, c1, g1⟩ := pu_begC h rd
      obtain ⟨lk, c2, c3, c4⟩ := pu_62 h (f_X1_countAll_b45 pl fuel) (nI N) (nI k) h6 hO hz rd1
      obtain ⟨tk1, tk2⟩ := pu_tk h6 hO
      obtain ⟨rd2, c5, c6⟩ := (hV (l.take (vN pl)) (fun j hj => by rw [tk2 j hj]; exact hO.2 j hj)).1 (rd_set_scene rd1 (sc_set_looks (rd_scene rd1) lk)) (sc_looks (rd_scene rd1)) g1 (Eq.trans c4 g1.l8) (fun r hr => by
        show lk r = qr_looks (pl_riders pl) ((l.take (vN pl)).getD r 0)
        rw [c3 r hr, tk2 r hr]; rfl)
      have key : ∀ s0 : Int32, (s0 = 0 → 0 < k) → (¬ s0 = 0 → k = 0) → ∃ z' rd', f_X1_countAll_b145 pl (f_X1_countAll_b45 pl fuel) (nI (vN pl)) (nI N) (nI k) s0 (nI (vN pl)) z rd2 = some (z', rd') ∧ de_counted z' = 1 ∧ (0 < N → ∀ r, r < vN pl → de_told z' r = V (List.range (vN pl)) r) ∧ ∀ r, r < vN pl → de_asMuch z' r = de_asMuch z r + nI (pu_cnt (pu_AM V (vN pl) r) (vN pl) (pu_seq (vN pl) (t + 1) l)) := by
        intro s0 q1 q2
        obtain ⟨z1, t1, t2, _, t4, t5⟩ := pu_tally h rd2 z s0
        have hT1 : ∀ r, r < vN pl → (if s0 = 0 then de_told z r else pu_SV rd2 r) = V (List.range (vN pl)) r := by
          intro r hr
          by_cases cs : s0 = 0
          · rw [if_pos cs]; exact hT (q1 cs) r hr
          · rw [if_neg cs, c6 r hr, h0 (q2 cs)]
        have hz1 : pu_HR (vN pl) z1 (pu_D0 l) := fun j hj => by rw [t2]; exact hz j hj
        obtain ⟨e, n1, n2, n3, n4, n5⟩ := pu_nxS h1 h6 ho hz1
        obtain ⟨z', rd', i1, i2, i3, i4⟩ := ih (k + 1) (pu_nx (vN pl) l) e rd2 fuel (by omega) (by omega) n4 n5 n3 (fun q => by omega) (fun _ r hr => by
          rw [n2]
          show de_told z1 r = _
          rw [t4 r hr, hT1 r hr])
        refine ⟨z', rd', ?_, i2, i3, fun r hr => ?_⟩
        · rw [f_X1_countAll_b145, t1, pu_sb, f_X1_countAll_b148, n1, pu_sb, f_X1_countAll_b153, nI_1]
          exact i1
        · have ea : de_asMuch e r = de_asMuch z1 r := by rw [n2]; rfl
          rw [i4 r hr, ea, t5 r hr, hT1 r hr, c6 r hr, pu_seq, pu_cnt, tk1]
          by_cases cc : V (l.take (vN pl)) r < V (List.range (vN pl)) r
          · rw [if_pos cc, if_neg (show ¬ pu_AM V (vN pl) r (l.take (vN pl)) = true from fun q => of_decide_eq_true q cc), Nat.zero_add]
          · rw [if_neg cc, if_pos (show pu_AM V (vN pl) r (l.take (vN pl)) = true from decide_eq_true cc), ← nI_add, Int32.add_assoc]; rfl
      rw [f_X1_countAll_b45, if_neg (nI_ge (by omega) (by omega)), c1, pu_sb, f_X1_countAll_b59, c2, c5]
      by_cases ck : k = 0
      · rw [if_pos (show nI k = 0 by rw [ck]; rfl)]
        exact key 1 (fun q => absurd q (by decide)) (fun _ => ck)
      · rw [if_neg (nI_ne0 (by omega) (by omega))]
        exact key 0 (fun _ => by omega) (fun q => absurd rfl q)
/-- the cache of the deals -/
def pu_DC (pl : PlanT) (bu : BusT) (de : DealsT) : Prop := de_counted de = 0 ∨ ∃ V : List Nat → Nat → Int32, (∀ l, pu_LX pl l → pu_VV pl bu (pu_LH pl l) (V l)) ∧ ∀ r, r < vN pl → de_told de r = V (List.range (vN pl)) r ∧ de_asMuch de r = nI (pu_cnt (pu_AM V (vN pl) r) (vN pl) (pu_seq (vN pl) (pu_fcn (vN pl)) (List.range 6)))
theorem pu_HO0 : ∀ n, n < 7 → pu_HO n (List.range 6) ∧ (List.range 6).take n = List.range n := by
  have a : ∀ n, n < 7 → (List.range 6).length = 6 ∧ ∀ j, j < n → (List.range 6).getD j 0 < n := by decide
  have b : ∀ n, n < 7 → (List.range 6).take n = List.range n := by decide
  exact fun n hn => ⟨a n hn, b n hn⟩
theorem pu_D06 : ∀ j, j < 6 → nI ((List.range 6).getD j 0) = nI j := by decide
theorem pu_countAll (h : pu_GP pl) (hB : pu_RB pl bu) (h1 : 1 ≤ vN pl) (h6 : vN pl ≤ 6) (mo : MOT) (w : WT) (who : WhoT) (look : LookT) (looks : LooksT) (de : DealsT) (rd : RideT) : ∃ de' rd', f_X1_countAll de rd pl = some (de', rd') ∧ de_counted de' = 1 ∧ pu_DC pl bu de' := by
  have hex : ∀ l : List Nat, ∃ V : Nat → Int32, pu_LX pl l → pu_VV pl bu (pu_LH pl l) V := fun l => by
    by_cases c : pu_LX pl l
    · obtain ⟨V, hV⟩ := pu_VVex h hB mo w who look looks rd (pu_LH pl l) (fun r hr => h.looks _ (c r hr))
      exact ⟨V, fun _ => hV⟩
    · exact ⟨fun _ => 0, fun q => absurd q c⟩
  obtain ⟨V, hV⟩ := Classical.skolem.mp hex
  obtain ⟨ho, ht⟩ := pu_HO0 (vN pl) (by omega)
  obtain ⟨N, k1, k2, _, k4⟩ := pu_fact h hB mo h6
  have eN : N = pu_fcn (vN pl) := k4
  subst eN
  have hpos : 0 < pu_fcn (vN pl) := by
    have : ∀ n, n < 7 → 0 < pu_fcn n := by decide
    exact this _ (by omega)
  have e0 : (if (6 : Int32) < (pl_riderCount pl) then (6 : Int32) else (pl_riderCount pl)) = nI (vN pl) := by
    rw [h.riders.1, if_neg (show ¬ (6 : Int32) < nI (vN pl) from nI_nlt (a := 6) (b := vN pl) h6 (by omega))]
  rw [f_X1_countAll, e0]
  refine pu_for (fun m i (a : DealsT) => f_X1_countAll_b12 pl m (nI (vN pl)) i a rd) (vN pl) (fun i a => (∀ j, j < i → de_hand a j = nI j) ∧ ∀ j, j < i → de_asMuch a j = 0) (fun o => ∃ de' rd', o = some (de', rd') ∧ de_counted de' = 1 ∧ pu_DC pl bu de') ?_ ?_ (vN pl) 0 de 4096 (by omega) (by omega) ⟨fun j hj => by omega, fun j hj => by omega⟩
  · intro m i a hi hI
    refine Or.inl ⟨de_set_asMuch (de_set_hand a (upd (de_hand a) i (nI i))) (upd (de_asMuch a) i 0), ?_, pu_upI (P := fun j x => x = nI j) rfl hI.1, pu_upI (P := fun j x => x = (0 : Int32)) rfl hI.2⟩
    show f_X1_countAll_b12 pl (m + 1) (nI (vN pl)) (nI i) a rd = _
    rw [f_X1_countAll_b12, if_neg (nI_ge hi (by omega)), if_pos (pu_inn (show i < 6 by omega) (by omega)), nI_clamp (by omega), f_X1_countAll_b24, if_pos (pu_inn (show i < 8 by omega) (by omega)), nI_clamp (by omega), f_X1_countAll_b31, nI_1]
    rfl
  · intro m a hI
    obtain ⟨z', rd', i1, i2, i3, i4⟩ := pu_45 h h1 h6 hV k1 (pu_fcn (vN pl)) 0 (List.range 6) a rd 4096 (by omega) (by omega) ho (pu_okn h1 h6) (fun j hj => Eq.trans (hI.1 j hj) (pu_D06 j (by omega)).symm) (fun _ => ht) (fun q => by omega)
    refine ⟨z', rd', ?_, i2, Or.inr ⟨V, hV, fun r hr => ⟨i3 hpos r hr, ?_⟩⟩⟩
    · show f_X1_countAll_b12 pl (m + 1) (nI (vN pl)) (nI (vN pl)) a rd = _
      rw [f_X1_countAll_b12, if_pos (nI_le (Nat.le_refl _) (by omega)), k2, pu_sb]
      exact i1
    · rw [i4 r hr, hI.2 r hr, Int32.zero_add]
end PQ

/-! dealt: the reference's count, and both -/
section PR
variable {pl : PlanT} {bu : BusT} {rd : RideT} {tp : TopT}
theorem pu_sgM : ∀ (m k : Nat) (av : List Nat), av.length = m → (pu_sg m k av).length = m ∧ ∀ x, x ∈ pu_sg m k av → x ∈ av := by
  intro m
  induction m with
  | zero => intro k av _; exact ⟨rfl, fun x hx => absurd hx (by rw [pu_sg]; exact List.not_mem_nil)⟩
  | succ m ih =>
    intro k av hl
    have hi : k % (m + 1) < av.length := by rw [hl]; exact Nat.mod_lt _ (by omega)
    obtain ⟨a, b⟩ := ih (k / (m + 1)) (av.eraseIdx (k % (m + 1))) (by rw [List.length_eraseIdx, if_pos hi, hl]; rfl)
    refine ⟨by rw [pu_sg, List.length_cons, a], fun x hx => ?_⟩
    rw [pu_sg] at hx
    rcases List.mem_cons.mp hx with rfl | hx
    · rw [List.getD_eq_getElem?_getD, List.getElem?_eq_getElem hi]; exact List.getElem_mem hi
    · exact List.mem_of_mem_eraseIdx (b x hx)
theorem pu_fr0 : ∀ n, n < 9 → pu_fr 0 0 n = List.range n := by decide +kernel
theorem pu_getIn {l : List Nat} {n j : Nat} (hl : l.length = n) (hx : ∀ x, x ∈ l → x < n) (hj : j < n) : l.getD j 0 < n := by
  rw [List.getD_eq_getElem?_getD, List.getElem?_eq_getElem (by omega)]
  exact hx _ (List.getElem_mem (by omega))
theorem pu_18 (h : pu_GP pl) (hB : pu_RB pl bu) (h6 : vN pl ≤ 6) {V : List Nat → Nat → Int32} (hV : ∀ l, pu_LX pl l → pu_VV pl bu (pu_LH pl l) (V l)) (mo : MOT) {r : Nat} (hr : r < vN pl) : ∀ (t k : Nat) (w : WT) (looks : LooksT) (who : WhoT) (look : LookT) (fuel : Nat), k + t = pu_fcn (vN pl) → t < fuel →
    ∃ w2 looks2 who2 look2, f_X12_dealtOf_b18 mo bu fuel (nI r) (V (List.range (vN pl)) r) (nI (pu_cnt (pu_AM V (vN pl) r) (vN pl) ((List.range k).map (fun k => pu_cd (pu_sg (vN pl) k (List.range (vN pl))))))) (nI k) w looks who look = some (nI (pu_cnt (pu_AM V (vN pl) r) (vN pl) ((List.range (pu_fcn (vN pl))).map (fun k => pu_cd (pu_sg (vN pl) k (List.range (vN pl)))))), w2, looks2, who2, look2) := by
  obtain ⟨N, k1, _, k3, k4⟩ := pu_fact h hB mo h6
  have eN : N = pu_fcn (vN pl) := k4
  subst eN
  intro t
  induction t with
  | zero => intro k w looks who look fuel hk hf; cases fuel with
    | zero => omega
    | succ fuel =>
      have e : k = pu_fcn (vN pl) := by omega
      subst e
      refine ⟨w, looks, who, look, ?_⟩
      rw [f_X12_dealtOf_b18, k3, pu_sb, if_pos (nI_le (Nat.le_refl _) (by omega))]
  | succ t ih => intro k w looks who look fuel hk hf; cases fuel with
    | zero => omega
    | succ fuel =>
      have e0 : pu_fr 0 0 (vN pl) = List.range (vN pl) := pu_fr0 _ (by omega)
      obtain ⟨z, a1, _, a3⟩ := pu_dA7 mo (n := vN pl) (by omega) (Eq.trans hB.riders h.riders.1) (vN pl) k 0 4096 0 looks (by omega) (by rw [e0, List.length_range]) (by omega) (by omega)
      rw [e0] at a3
      obtain ⟨s1, s2⟩ := pu_sgM (vN pl) k (List.range (vN pl)) List.length_range
      have s3 : ∀ x, x ∈ pu_sg (vN pl) k (List.range (vN pl)) → x < vN pl := fun x hx => List.mem_range.mp (s2 x hx)
      obtain ⟨w2, who2, look2, b1⟩ := (hV (pu_sg (vN pl) k (List.range (vN pl))) (fun j hj => pu_getIn s1 s3 hj)).2 mo w z who look (fun j hj => by
        have := a3 j hj
        rw [Nat.zero_add] at this
        rw [this, hB.looks _ (pu_getIn s1 s3 hj)]; rfl) r hr
      obtain ⟨w3, looks3, who3, look3, c1⟩ := ih (k + 1) w2 z who2 look2 fuel (by omega) (by omega)
      refine ⟨w3, looks3, who3, look3, ?_⟩
      rw [f_X12_dealtOf_b18, k3, pu_sb, if_neg (nI_ge (by omega) (by omega)), f_X12_dealsAnew, show f_X12_dealsAnew_b7 mo bu 4096 (nI k) (0 : Int32) (0 : Int32) looks = some z from a1, pu_sb, f_X12_dealtOf_b33, b1, pu_sb]
      rw [List.range_succ, List.map_append, List.map_cons, List.map_nil, pu_cntA, pu_dc_cd (vN pl) _ s1 (fun x hx => by have := s3 x hx; omega)] at c1
      by_cases cc : V (pu_sg (vN pl) k (List.range (vN pl))) r < V (List.range (vN pl)) r
      · rw [if_neg (show ¬ pu_AM V (vN pl) r (pu_sg (vN pl) k (List.range (vN pl))) = true from fun q => of_decide_eq_true q cc), Nat.add_zero] at c1
        rw [if_pos cc, Int32.add_zero, nI_1]
        exact c1
      · rw [if_pos (show pu_AM V (vN pl) r (pu_sg (vN pl) k (List.range (vN pl))) = true from decide_eq_true cc)] at c1
        rw [if_neg cc, nI_1, nI_1]
        exact c1
/-- the looks come back -/
theorem pu_61 (h : pu_GP pl) (hB : pu_RB pl bu) (v : Int32) (z0 : MOT) (looks : LooksT) (who : WhoT) (look : LookT) (w : WT) : ∃ looks', f_X12_dealt_b61 bu 4096 v 0 z0 looks who look w = (if v = (-1 : Int32) then (f_X12_refused z0 (5 : Int32)).bind fun r8 => some (r8.1, r8.2, looks', who, look, w) else (f_X12_done z0 v).bind fun r7 => some (r7.1, r7.2, looks', who, look, w)) ∧ ∀ r, r < vN pl → yLooks_r looks' r = qr_looks (pl_riders pl) r := by
  have hn := h.n31
  have en : bu_riders bu = nI (vN pl) := Eq.trans hB.riders h.riders.1
  refine pu_for (fun m i a => f_X12_dealt_b61 bu m v i z0 a who look w) (vN pl) (fun i a => ∀ r, r < i → yLooks_r a r = qr_looks (pl_riders pl) r) (fun o => ∃ looks', o = (if v = (-1 : Int32) then (f_X12_refused z0 (5 : Int32)).bind fun r8 => some (r8.1, r8.2, looks', who, look, w) else (f_X12_done z0 v).bind fun r7 => some (r7.1, r7.2, looks', who, look, w)) ∧ ∀ r, r < vN pl → yLooks_r looks' r = qr_looks (pl_riders pl) r) ?_ ?_ (vN pl) 0 looks 4096 (by omega) (by omega) (fun r hr => by omega)
  · intro m i a hi hI
    refine Or.inl ⟨yLooks_set_r a (upd (yLooks_r a) i (bu_looks bu i)), ?_, pu_upI (P := fun j x => x = qr_looks (pl_riders pl) j) (hB.looks i hi) hI⟩
    show f_X12_dealt_b61 bu (m + 1) v (nI i) z0 a who look w = _
    rw [f_X12_dealt_b61, en, if_neg (nI_ge hi (by omega)), if_pos (pu_inn (show i < 8 by omega) (by omega)), if_pos (pu_inn (show i < 8 by omega) (by omega)), nI_clamp (by omega), f_X12_dealt_b87, nI_1]
  · intro m a hI
    refine ⟨a, ?_, hI⟩
    show f_X12_dealt_b61 bu (m + 1) v (nI (vN pl)) z0 a who look w = _
    rw [f_X12_dealt_b61, en, if_pos (nI_le (Nat.le_refl _) (by omega))]
theorem pu_dealt (h : pu_GP pl) (hB : pu_RB pl bu) {looks : LooksT} (hL : pu_RL pl rd (yLooks_r looks)) (hK : pu_LK pl rd) (hb : tp_hasBus tp = 1) (mo : MOT) {de : DealsT} (hD : pu_DC pl bu de) (rdA : RideT) (who : WhoT) (look : LookT) (other : WT) (x : Int32) :
    ∃ v t de' rd' looks' who' look' other', ¬ t = (4 : Int32) ∧ f_X10_dealt tp pl de rdA x = some (v, tp_set_latestTrouble tp t, de', rd') ∧ f_X12_dealt mo looks who look bu other x = some (v, pu_mt mo t, looks', who', look', other') ∧ pu_DC pl bu de' ∧ pu_RL pl rd (yLooks_r looks') := by
  have hn := h.n31
  have en : bu_riders bu = nI (vN pl) := Eq.trans hB.riders h.riders.1
  rw [f_X10_dealt, f_X12_dealt, f_X12_dealt_b5]
  rcases pu_riderX h hB hb (mo_set_thrown mo 0) x with ⟨r, hr, rfl, e1, e2⟩ | ⟨e1, e2⟩
  rotate_left
  · rw [e1, e2, pu_sb, pu_sb, if_pos rfl, if_pos rfl]
    exact ⟨_, 1, de, rdA, looks, who, look, other, by decide, rfl, rfl, hD, hL⟩
  rw [e1, e2, pu_sb, pu_sb, if_neg pu_10, if_neg pu_10, en, h.riders.1]
  have e6 : (nI (vN pl) ≤ (6 : Int32)) ↔ vN pl ≤ 6 := nI_leI (a := vN pl) (b := 6) (by omega) (by omega)
  by_cases c6 : vN pl ≤ 6
  rotate_left
  · rw [if_neg (fun e => c6 (e6.mp e)), if_neg (fun e => c6 (e6.mp e))]
    exact ⟨_, 3, de, rdA, looks, who, look, other, by decide, rfl, rfl, hD, hL⟩
  rw [if_pos (e6.mpr c6), if_pos (e6.mpr c6)]
  have h1 : 1 ≤ vN pl := by omega
  -- after the count
  have key : ∀ (de' : DealsT) (rd' : RideT), ¬ de_counted de' = 0 → pu_DC pl bu de' → ∃ v t looks' who' look' other', ¬ t = (4 : Int32) ∧ f_X10_dealt_b53 pl (nI r) tp de' rd' = some (v, tp_set_latestTrouble tp t, de', rd') ∧ ((f_X12_dealtOf (mo_set_thrown mo 0) other looks who look bu (nI r)).bind fun r4 => f_X12_dealt_b51 bu r4.1 (mo_set_thrown mo 0) r4.2.2.1 r4.2.2.2.1 r4.2.2.2.2 r4.2.1) = some (v, pu_mt mo t, looks', who', look', other') ∧ pu_RL pl rd (yLooks_r looks') := by
    intro de' rd' hc hD'
    rcases hD' with q | ⟨V, hV, hTA⟩
    · exact absurd q hc
    obtain ⟨q1, q2⟩ := hTA r hr
    have lr : ∀ j, j < vN pl → yLooks_r looks j = pu_LH pl (List.range (vN pl)) j := by
      intro j hj
      rw [hL.1 j hj, hK j hj]
      show _ = qr_looks (pl_riders pl) ((List.range (vN pl)).getD j 0)
      rw [List.getD_eq_getElem?_getD, List.getElem?_range hj]; rfl
    obtain ⟨w2, who2, look2, b1⟩ := (hV (List.range (vN pl)) (fun j hj => pu_getIn List.length_range (fun x hx => List.mem_range.mp hx) hj)).2 (mo_set_thrown mo 0) other looks who look lr r hr
    rw [f_X12_dealtOf, b1, pu_sb, f_X12_dealtOf_b6, f_X10_dealt_b53]
    simp only [if_pos (pu_inn (c := r) (N := 8) (by omega) (by omega)), nI_clamp (show r < 2 ^ 31 by omega)]
    rw [q1]
    by_cases cm : V (List.range (vN pl)) r = (-1 : Int32)
    · rw [if_pos cm, if_pos cm]
      obtain ⟨looks', l1, l2⟩ := pu_61 h hB (-1 : Int32) (mo_set_thrown mo 0) looks who2 look2 w2
      refine ⟨_, 5, looks', who2, look2, w2, by decide, rfl, ?_, fun j hj => by rw [l2 j hj, hK j hj], hL.2.1, fun j hj => by rw [l2 j hj]; exact h.looks j hj⟩
      rw [pu_sb, f_X12_dealt_b51]
      rw [l1, if_pos rfl]
      rfl
    · rw [if_neg cm, if_neg cm]
      obtain ⟨w3, looks3, who3, look3, d1⟩ := pu_18 h hB c6 hV (mo_set_thrown mo 0) hr (pu_fcn (vN pl)) 0 w2 looks who2 look2 4096 (by omega) (by have := pu_fcn6 (vN pl) (by omega); omega)
      rw [show f_X12_dealtOf_b18 (mo_set_thrown mo 0) bu 4096 (nI r) (V (List.range (vN pl)) r) (0 : Int32) (0 : Int32) w2 looks who2 look2 = _ from d1, pu_sb, f_X12_dealt_b51]
      rw [← pu_cntP _ _ (pu_tab h1 c6)]
      obtain ⟨looks', l1, l2⟩ := pu_61 h hB (nI (pu_cnt (pu_AM V (vN pl) r) (vN pl) (pu_seq (vN pl) (pu_fcn (vN pl)) (List.range 6)))) (mo_set_thrown mo 0) looks3 who3 look3 w3
      have hle : ∀ cs : List Nat, pu_cnt (pu_AM V (vN pl) r) (vN pl) cs ≤ cs.length := by
        intro cs
        induction cs with
        | nil => exact Nat.le_refl _
        | cons c cs ih =>
          rw [pu_cnt, List.length_cons]
          by_cases q : pu_AM V (vN pl) r (pu_dc (vN pl) c) = true
          · rw [if_pos q]; omega
          · rw [if_neg q]; omega
      have hsq : ∀ t l, (pu_seq (vN pl) t l).length = t := by
        intro t
        induction t with
        | zero => intro l; rfl
        | succ t ih => intro l; rw [pu_seq, List.length_cons, ih]
      have h720 := pu_fcn6 (vN pl) (by omega)
      have := hle (pu_seq (vN pl) (pu_fcn (vN pl)) (List.range 6))
      rw [hsq] at this
      refine ⟨nI (pu_cnt (pu_AM V (vN pl) r) (vN pl) (pu_seq (vN pl) (pu_fcn (vN pl)) (List.range 6))), 0, looks', who3, look3, w3, by decide, ?_, ?_, fun j hj => by rw [l2 j hj, hK j hj], hL.2.1, fun j hj => by rw [l2 j hj]; exact h.looks j hj⟩
      rotate_left
      · exact Eq.trans l1 (by rw [if_neg (pu_ne1 (by omega))]; rfl)
      · rw [q2]; rfl
  by_cases cc : de_counted de = 0
  · obtain ⟨de', rd', f1, f2, f3⟩ := pu_countAll h hB h1 c6 mo other who look looks de rdA
    obtain ⟨v, t, looks', who', look', other', g1, g2, g3, g4⟩ := key de' rd' (by rw [f2]; decide) f3
    rw [if_pos cc, f1, pu_sb, g2, g3]
    exact ⟨v, t, de', rd', looks', who', look', other', g1, rfl, rfl, f3, g4⟩
  · obtain ⟨v, t, looks', who', look', other', g1, g2, g3, g4⟩ := key de rdA cc hD
    rw [if_neg cc, g2, g3]
    exact ⟨v, t, de, rdA, looks', who', look', other', g1, rfl, rfl, hD, g4⟩
end PR

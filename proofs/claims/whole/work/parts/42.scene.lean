/-! two loops side by side -/
theorem pu_for2 {α β γ δ : Type} (F : Nat → Int32 → α → Option β) (G : Nat → Int32 → γ → Option δ) (N : Nat) (I : Nat → α → γ → Prop) (Q : Option β → Option δ → Prop)
    (hs : ∀ n i a c, i < N → I i a c → (∃ a' c', F (n + 1) (nI i) a = F n (nI (i + 1)) a' ∧ G (n + 1) (nI i) c = G n (nI (i + 1)) c' ∧ I (i + 1) a' c') ∨ Q (F (n + 1) (nI i) a) (G (n + 1) (nI i) c))
    (he : ∀ n a c, I N a c → Q (F (n + 1) (nI N) a) (G (n + 1) (nI N) c)) : ∀ (k i : Nat) (a : α) (c : γ) (fuel : Nat), i + k = N → k < fuel → I i a c → Q (F fuel (nI i) a) (G fuel (nI i) c)
  | 0, i, a, c, fuel + 1, h, _, hI => by
    have e : i = N := by omega
    rw [e] at hI ⊢
    exact he fuel a c hI
  | k + 1, i, a, c, fuel + 1, h, hf, hI => by
    rcases hs fuel i a c (by omega) hI with ⟨a', c', e, e2, h2⟩ | h2
    · rw [e, e2]
      exact pu_for2 F G N I Q hs he k (i + 1) a' c' fuel (by omega) (by omega) h2
    · exact h2
  | 0, _, _, _, 0, _, hf, _ => absurd hf (by omega)
  | _ + 1, _, _, _, 0, _, hf, _ => absurd hf (by omega)
/-- who is seen where, by class and reference -/
def pu_RS (pl : PlanT) (sc : SceneT) (who look : Nat → Int32) : Prop := ∀ s, s < 20 → (sc_sitter sc s = -2 ∧ who s = -2) ∨ (∃ q, q < vN pl ∧ sc_sitter sc s = nI q ∧ who s = nI q ∧ look s = sc_looks sc q) ∨ (sc_sitter sc s = nI 8 ∧ who s = nI 99 ∧ look s = sc_looks sc 8)
def pu_RF (pl : PlanT) (rider fr : Int32) : Prop := (∃ r, r < vN pl ∧ rider = nI r ∧ fr = qr_friends (pl_riders pl) r) ∨ (rider = -2 ∧ fr = 0)
def pu_far (i s : Nat) : Nat := 2 * (if i / 4 < s / 4 then s / 4 - i / 4 else i / 4 - s / 4) + (if i % 4 < s % 4 then s % 4 - i % 4 else i % 4 - s % 4)
theorem pu_farOf : ∀ i, i < 20 → ∀ s, s < 20 → f_X12_farOf (nI i) (nI s) = some (nI (pu_far i s)) := by decide +kernel
theorem pu_farC : ∀ i, i < 20 → ∀ s, s < 20 → ((2 : Int32) * (if 0 ≤ nI i / (4 : Int32) - nI s / (4 : Int32) then nI i / (4 : Int32) - nI s / (4 : Int32) else -(nI i / (4 : Int32) - nI s / (4 : Int32)))) + (if 0 ≤ (nI i - nI i / (4 : Int32) * (4 : Int32)) - (nI s - nI s / (4 : Int32) * (4 : Int32)) then (nI i - nI i / (4 : Int32) * (4 : Int32)) - (nI s - nI s / (4 : Int32) * (4 : Int32)) else -((nI i - nI i / (4 : Int32) * (4 : Int32)) - (nI s - nI s / (4 : Int32) * (4 : Int32)))) = nI (pu_far i s) := by decide +kernel
theorem pu_RS.none {pl : PlanT} {sc : SceneT} {who look : Nat → Int32} (h : pu_RS pl sc who look) (hn : vN pl < 9) {s : Nat} (hs : s < 20) : (sc_sitter sc s = -2) = (who s = -2) := by
  rcases h s hs with ⟨a, b⟩ | ⟨q, hq, a, b, c⟩ | ⟨a, b, c⟩
  · rw [a, b]
  · rw [a, b]
  · rw [a, b]
    exact propext ⟨fun h => absurd h (by decide), fun h => absurd h (by decide)⟩
theorem pu_nearStep (sc : SceneT) (cb : CabT) (n : Nat) (least : Int32) {i s : Nat} (hi : i < 20) (hs : s < 20) (hn : ¬ sc_sitter sc i = -2) : f_X9_nearest_b5 sc cb (n + 1) (nI s) least (nI i) = if least ≤ nI (pu_far i s) then f_X9_nearest_b5 sc cb n (nI s) least (nI (i + 1)) else f_X9_nearest_b5 sc cb n (nI s) (nI (pu_far i s)) (nI (i + 1)) := by
  have e := pu_farC i hi s hs
  rw [f_X9_nearest_b5, if_neg (pu_ge20 hi), if_pos (pu_inn hi (by omega)), nI_clamp (by omega), if_neg hn]
  unfold f_X9_nearest_b54 f_X9_nearest_b68 f_X9_nearest_b83
  rw [nI_1]
  by_cases hR : 0 ≤ nI i / (4 : Int32) - nI s / (4 : Int32)
  · rw [if_pos hR] at e ⊢
    by_cases hA : 0 ≤ (nI i - nI i / (4 : Int32) * (4 : Int32)) - (nI s - nI s / (4 : Int32) * (4 : Int32))
    · rw [if_pos hA] at e ⊢
      rw [e]
    · rw [if_neg hA] at e ⊢
      rw [e]
  · rw [if_neg hR] at e ⊢
    by_cases hA : 0 ≤ (nI i - nI i / (4 : Int32) * (4 : Int32)) - (nI s - nI s / (4 : Int32) * (4 : Int32))
    · rw [if_pos hA] at e ⊢
      rw [e]
    · rw [if_neg hA] at e ⊢
      rw [e]
theorem pu_near {pl : PlanT} (bu : BusT) (mo : MOT) {sc : SceneT} {who : WhoT} {look : LookT} (hn : vN pl < 9) (hS : pu_RS pl sc (yWho_r who) (yLook_r look)) (cb : CabT) {s : Nat} (hs : s < 20) : ∃ v, f_X9_nearest sc cb (nI s) = some v ∧ f_X12_good_b98 mo who look bu 4096 (nI s) (99 : Int32) (0 : Int32) = some v := by
  rw [f_X9_nearest]
  refine pu_for2 (fun n i a => f_X9_nearest_b5 sc cb n (nI s) a i) (fun n i a => f_X12_good_b98 mo who look bu n (nI s) a i) 20 (fun _ a c => a = c) (fun o q => ∃ v, o = some v ∧ q = some v) ?_ ?_ 20 0 99 99 4096 (by omega) (by omega) rfl
  · intro n i a c hi e
    subst e
    refine Or.inl ?_
    show ∃ a' c', f_X9_nearest_b5 sc cb (n + 1) (nI s) a (nI i) = _ ∧ f_X12_good_b98 mo who look bu (n + 1) (nI s) a (nI i) = _ ∧ _
    by_cases hz : sc_sitter sc i = -2
    · have hw : yWho_r who i = -2 := by rw [← hS.none hn hi]; exact hz
      refine ⟨a, a, ?_, ?_, rfl⟩
      · rw [f_X9_nearest_b5, if_neg (pu_ge20 hi), if_pos (pu_inn hi (by omega)), nI_clamp (by omega), if_pos hz, nI_1]
      · rw [f_X12_good_b98, if_neg (pu_ge20 hi), if_pos (pu_inn hi (by omega)), nI_clamp (by omega), if_pos hw, nI_1]
    · have hw : ¬ yWho_r who i = -2 := by rw [← hS.none hn hi]; exact hz
      have e2 : f_X12_good_b98 mo who look bu (n + 1) (nI s) a (nI i) = if a ≤ nI (pu_far i s) then f_X12_good_b98 mo who look bu n (nI s) a (nI (i + 1)) else f_X12_good_b98 mo who look bu n (nI s) (nI (pu_far i s)) (nI (i + 1)) := by
        rw [f_X12_good_b98, if_neg (pu_ge20 hi), if_pos (pu_inn hi (by omega)), nI_clamp (by omega), if_neg hw, pu_farOf i hi s hs, nI_1]
        rfl
      rw [pu_nearStep sc cb n a hi hs hz, e2]
      by_cases q : a ≤ nI (pu_far i s)
      · exact ⟨a, a, if_pos q, if_pos q, rfl⟩
      · exact ⟨_, _, if_neg q, if_neg q, rfl⟩
  · intro n a c e
    subst e
    refine ⟨a, ?_, ?_⟩
    · show f_X9_nearest_b5 sc cb (n + 1) (nI s) a (nI 20) = _
      rw [f_X9_nearest_b5, if_pos pu_le20]
    · show f_X12_good_b98 mo who look bu (n + 1) (nI s) a (nI 20) = _
      rw [f_X12_good_b98, if_pos pu_le20]
/-- what stands beside a seat, as class and reference have it -/
def pu_RO (pl : PlanT) (sc : SceneT) (look : Nat → Int32) (who : Nat → Int32) (r1 s0 v5 : Int32) : Prop := (r1 = -2 ∧ s0 = 0) ∨ (s0 = 1 ∧ ∃ b, b < 20 ∧ v5 = nI b ∧ ((∃ q, q < vN pl ∧ r1 = nI q ∧ who b = nI q ∧ look b = sc_looks sc q) ∨ (r1 = nI 8 ∧ who b = nI 99 ∧ look b = sc_looks sc 8)))
noncomputable def pu_wsel (sc : SceneT) (cb : CabT) (r1 : Int32) (k : Nat) (x1 x2 x3 : Int32) : Option Int32 := match k with
  | 0 => if r1 = (-2 : Int32) then some 1 else some 0
  | 1 => (f_X9_nearest sc cb x1).bind fun r5 => some r5
  | 2 => (f_X0_isWindow (x1 - x1 / (4 : Int32) * (4 : Int32))).bind fun r7 => if r7 = 0 then some 0 else some 1
  | 3 => (f_X0_isAisle (cb_form cb) (x1 - x1 / (4 : Int32) * (4 : Int32))).bind fun r10 => if r10 = 0 then some 0 else some 1
  | 4 => some (-(x1 / (4 : Int32)))
  | 5 => some (x1 / (4 : Int32))
  | 6 => (f_X0_isSunny cb x1).bind fun r15 => if r15 = 0 then some 1 else some 0
  | 7 => if r1 = (-2 : Int32) then some (-5) else if kb_in? r1 9 then (f_X10_gap x2 ((sc_looks sc) r1.toNatClampNeg)).bind fun r20 => some (-r20) else none
  | _ => if r1 = (-2 : Int32) then some 0 else (f_X10_holdsBit x3 r1).bind fun r22 => if r22 = 0 then some 0 else some 1
noncomputable def pu_gsel (mo : MOT) (who : WhoT) (look : LookT) (bu : BusT) (k : Nat) (v2 v3 v4 v5 s0 : Int32) : Option Int32 := match k with
  | 0 => if s0 = 0 then some 1 else some 0
  | 1 => f_X12_good_b98 mo who look bu 4096 v2 99 0
  | 2 => (f_X12_isWindow (v2 &&& (3 : Int32))).bind fun r13 => if r13 = 0 then some 0 else some 1
  | 3 => (f_X12_isAisleOf (bu_form bu) (v2 &&& (3 : Int32))).bind fun r16 => if r16 = 0 then some 0 else some 1
  | 4 => some (-(v2 >>> ((2 : Int32) &&& 31)))
  | 5 => some (v2 >>> ((2 : Int32) &&& 31))
  | 6 => if bu_sun bu = (-1 : Int32) then some 1 else if ((v2 &&& (3 : Int32)) >>> ((1 : Int32) &&& 31)) = bu_sun bu then some 0 else some 1
  | 7 => if s0 = 0 then some (-5) else if kb_in? v5 20 then (f_X12_far v4 ((yLook_r look) v5.toNatClampNeg)).bind fun r26 => some (-r26) else none
  | _ => if s0 = 0 then some 0 else if v3 = (-2 : Int32) then some 0 else if kb_in? v5 20 then (if ((yWho_r who) v5.toNatClampNeg) = (99 : Int32) then some 0 else if kb_in? v5 20 then (f_X11_areFriends bu v3 ((yWho_r who) v5.toNatClampNeg)).bind fun r32 => if r32 = 0 then some 0 else some 1 else none) else none
theorem pu_worthS (sc : SceneT) (cb : CabT) (s own fr : Int32) : ∀ k, k < 9 → f_X9_worth sc cb (nI k) s own fr = (f_X9_besideOf sc cb s).bind fun r1 => pu_wsel sc cb r1 k s own fr
  | 0, _ => by
    rw [f_X9_worth]
    refine congrArg (Option.bind (f_X9_besideOf sc cb s)) (funext fun r1 => ?_)
    rw [if_pos (by decide)]
    rfl
  | 1, _ => by
    rw [f_X9_worth]
    refine congrArg (Option.bind (f_X9_besideOf sc cb s)) (funext fun r1 => ?_)
    rw [if_neg (by decide), if_pos (by decide)]
    rfl
  | 2, _ => by
    rw [f_X9_worth]
    refine congrArg (Option.bind (f_X9_besideOf sc cb s)) (funext fun r1 => ?_)
    rw [if_neg (by decide), if_neg (by decide), if_pos (by decide)]
    rfl
  | 3, _ => by
    rw [f_X9_worth]
    refine congrArg (Option.bind (f_X9_besideOf sc cb s)) (funext fun r1 => ?_)
    rw [if_neg (by decide), if_neg (by decide), if_neg (by decide), if_pos (by decide)]
    rfl
  | 4, _ => by
    rw [f_X9_worth]
    refine congrArg (Option.bind (f_X9_besideOf sc cb s)) (funext fun r1 => ?_)
    rw [if_neg (by decide), if_neg (by decide), if_neg (by decide), if_neg (by decide), if_pos (by decide)]
    rfl
  | 5, _ => by
    rw [f_X9_worth]
    refine congrArg (Option.bind (f_X9_besideOf sc cb s)) (funext fun r1 => ?_)
    rw [if_neg (by decide), if_neg (by decide), if_neg (by decide), if_neg (by decide), if_neg (by decide), if_pos (by decide)]
    rfl
  | 6, _ => by
    rw [f_X9_worth]
    refine congrArg (Option.bind (f_X9_besideOf sc cb s)) (funext fun r1 => ?_)
    rw [if_neg (by decide), if_neg (by decide), if_neg (by decide), if_neg (by decide), if_neg (by decide), if_neg (by decide), if_pos (by decide)]
    rfl
  | 7, _ => by
    rw [f_X9_worth]
    refine congrArg (Option.bind (f_X9_besideOf sc cb s)) (funext fun r1 => ?_)
    rw [if_neg (by decide), if_neg (by decide), if_neg (by decide), if_neg (by decide), if_neg (by decide), if_neg (by decide), if_neg (by decide), if_pos (by decide)]
    rfl
  | 8, _ => by
    rw [f_X9_worth]
    refine congrArg (Option.bind (f_X9_besideOf sc cb s)) (funext fun r1 => ?_)
    rw [if_neg (by decide), if_neg (by decide), if_neg (by decide), if_neg (by decide), if_neg (by decide), if_neg (by decide), if_neg (by decide), if_neg (by decide)]
    rfl
  | k + 9, h => absurd h (by omega)
theorem pu_goodS (mo : MOT) (who : WhoT) (look : LookT) (bu : BusT) (v2 v3 v4 v5 s0 : Int32) : ∀ k, k < 9 → f_X12_good_b30 mo who look bu (nI k) v2 v3 v4 v5 s0 = pu_gsel mo who look bu k v2 v3 v4 v5 s0
  | 0, _ => by
    rw [f_X12_good_b30, if_pos (by decide)]
    rfl
  | 1, _ => by
    rw [f_X12_good_b30, if_neg (by decide), if_pos (by decide)]
    rfl
  | 2, _ => by
    rw [f_X12_good_b30, if_neg (by decide), if_neg (by decide), if_pos (by decide)]
    rfl
  | 3, _ => by
    rw [f_X12_good_b30, if_neg (by decide), if_neg (by decide), if_neg (by decide), if_pos (by decide)]
    rfl
  | 4, _ => by
    rw [f_X12_good_b30, if_neg (by decide), if_neg (by decide), if_neg (by decide), if_neg (by decide), if_pos (by decide)]
    rfl
  | 5, _ => by
    rw [f_X12_good_b30, if_neg (by decide), if_neg (by decide), if_neg (by decide), if_neg (by decide), if_neg (by decide), if_pos (by decide)]
    rfl
  | 6, _ => by
    rw [f_X12_good_b30, if_neg (by decide), if_neg (by decide), if_neg (by decide), if_neg (by decide), if_neg (by decide), if_neg (by decide), if_pos (by decide)]
    rfl
  | 7, _ => by
    rw [f_X12_good_b30, if_neg (by decide), if_neg (by decide), if_neg (by decide), if_neg (by decide), if_neg (by decide), if_neg (by decide), if_neg (by decide), if_pos (by decide)]
    rfl
  | 8, _ => by
    rw [f_X12_good_b30, if_neg (by decide), if_neg (by decide), if_neg (by decide), if_neg (by decide), if_neg (by decide), if_neg (by decide), if_neg (by decide), if_neg (by decide)]
    rfl
  | k + 9, h => absurd h (by omega)
theorem pu_sel {pl : PlanT} {bu : BusT} (h : pu_GP pl) (hB : pu_RB pl bu) (mo : MOT) {sc : SceneT} {who : WhoT} {look : LookT} (hS : pu_RS pl sc (yWho_r who) (yLook_r look)) {rider fr : Int32} (hF : pu_RF pl rider fr) (own : Int32) {s : Nat} (hs : s < 20) {r1 s0 v5 : Int32} (hO : pu_RO pl sc (yLook_r look) (yWho_r who) r1 s0 v5) : ∀ k, k < 9 → ∃ v, pu_wsel sc (pl_cab pl) r1 k (nI s) own fr = some v ∧ pu_gsel mo who look bu k (nI s) rider own v5 s0 = some v
  | 0, _ => by
    rcases hO with ⟨rfl, rfl⟩ | ⟨rfl, b, hb, rfl, hO⟩
    · exact ⟨1, rfl, rfl⟩
    · have hr : ¬ r1 = -2 := by
        rcases hO with ⟨q, hq, rfl, _⟩ | ⟨rfl, _⟩
        · exact pu_ne2 (by have := h.n31; omega)
        · exact pu_ne2 (by omega)
      refine ⟨0, ?_, rfl⟩
      show (if r1 = (-2 : Int32) then some (1 : Int32) else some 0) = _
      rw [if_neg hr]
  | 1, _ => by
    obtain ⟨v, e1, e2⟩ := pu_near bu mo h.n31 hS (pl_cab pl) hs
    refine ⟨v, ?_, e2⟩
    show (f_X9_nearest sc (pl_cab pl) (nI s)).bind _ = _
    rw [e1]; rfl
  | 2, _ => by
    refine ⟨pu_bI (pu_win (s % 4)), ?_, ?_⟩
    · show (f_X0_isWindow _).bind _ = _
      rw [pu_rem4 (by omega), pu_isWin _ (Nat.mod_lt _ (by omega))]
      cases pu_win (s % 4) <;> rfl
    · show (f_X12_isWindow _).bind _ = _
      rw [pu_and3 (by omega), pu_isWinM _ (Nat.mod_lt _ (by omega))]
      cases pu_win (s % 4) <;> rfl
  | 3, _ => by
    refine ⟨pu_bI (pu_ais (vForm pl) (s % 4)), ?_, ?_⟩
    · show (f_X0_isAisle _ _).bind _ = _
      rw [pu_rem4 (by omega), h.form.1, pu_isAis _ h.form.2 _ (Nat.mod_lt _ (by omega))]
      cases pu_ais (vForm pl) (s % 4) <;> rfl
    · show (f_X12_isAisleOf _ _).bind _ = _
      rw [pu_and3 (by omega), hB.form, h.form.1, pu_isAisM _ h.form.2 _ (Nat.mod_lt _ (by omega))]
      cases pu_ais (vForm pl) (s % 4) <;> rfl
  | 4, _ => by
    refine ⟨-nI (s / 4), ?_, ?_⟩
    · show some (-(nI s / (4 : Int32))) = _
      rw [pu_div4 (by omega)]
    · show some (-(nI s >>> ((2 : Int32) &&& 31))) = _
      rw [pu_shr2 (by omega)]
  | 5, _ => by
    refine ⟨nI (s / 4), ?_, ?_⟩
    · show some (nI s / (4 : Int32)) = _
      rw [pu_div4 (by omega)]
    · show some (nI s >>> ((2 : Int32) &&& 31)) = _
      rw [pu_shr2 (by omega)]
  | 6, _ => by
    have hm : s % 4 < 4 := Nat.mod_lt _ (by omega)
    show ∃ v, (f_X0_isSunny (pl_cab pl) (nI s)).bind _ = _ ∧ (if bu_sun bu = (-1 : Int32) then _ else _) = _
    rw [f_X0_isSunny, pu_rem4 (by omega), pu_and3 (by omega), pu_shr1 (by omega)]
    unfold f_X0_isSunny_b16
    generalize s % 4 = t at hm ⊢
    have hsun := hB.sun
    rcases h.sun with e | e | e
    · rw [e] at hsun ⊢
      rcases hsun with ⟨a, _⟩ | ⟨_, a⟩
      · exact absurd a (by decide)
      rw [a]
      exact (by decide +kernel : ∀ t, t < 4 → ∃ v, ((if (2 : Int32) ≤ nI t then (if (0 : Int32) = (1 : Int32) then some (1 : Int32) else some 0) else (if (0 : Int32) = (0 : Int32) then some (1 : Int32) else some 0)).bind fun r15 => if r15 = 0 then some (1 : Int32) else some 0) = some v ∧ (if (0 : Int32) = (-1 : Int32) then some (1 : Int32) else if nI (t / 2) = (0 : Int32) then some 0 else some 1) = some v) t hm
    · rw [e] at hsun ⊢
      rcases hsun with ⟨a, _⟩ | ⟨_, a⟩
      · exact absurd a (by decide)
      rw [a]
      exact (by decide +kernel : ∀ t, t < 4 → ∃ v, ((if (2 : Int32) ≤ nI t then (if (1 : Int32) = (1 : Int32) then some (1 : Int32) else some 0) else (if (1 : Int32) = (0 : Int32) then some (1 : Int32) else some 0)).bind fun r15 => if r15 = 0 then some (1 : Int32) else some 0) = some v ∧ (if (1 : Int32) = (-1 : Int32) then some (1 : Int32) else if nI (t / 2) = (1 : Int32) then some 0 else some 1) = some v) t hm
    · rw [e] at hsun ⊢
      rcases hsun with ⟨_, a⟩ | ⟨a, _⟩
      · rw [a]
        exact (by decide +kernel : ∀ t, t < 4 → ∃ v, ((if (2 : Int32) ≤ nI t then (if (2 : Int32) = (1 : Int32) then some (1 : Int32) else some 0) else (if (2 : Int32) = (0 : Int32) then some (1 : Int32) else some 0)).bind fun r15 => if r15 = 0 then some (1 : Int32) else some 0) = some v ∧ (if (-1 : Int32) = (-1 : Int32) then some (1 : Int32) else if nI (t / 2) = (-1 : Int32) then some 0 else some 1) = some v) t hm
      · exact absurd rfl a
  | 7, _ => by
    rcases hO with ⟨rfl, rfl⟩ | ⟨rfl, b, hb, rfl, hO⟩
    · exact ⟨-5, rfl, rfl⟩
    · have hr : ∃ q, q < 9 ∧ r1 = nI q ∧ yLook_r look b = sc_looks sc q := by
        rcases hO with ⟨q, hq, e, _, e2⟩ | ⟨e, _, e2⟩
        · exact ⟨q, by have := h.n31; omega, e, e2⟩
        · exact ⟨8, by omega, e, e2⟩
      obtain ⟨q, hq, rfl, e2⟩ := hr
      show ∃ v, (if nI q = (-2 : Int32) then some (-5) else if kb_in? (nI q) 9 then (f_X10_gap own ((sc_looks sc) (nI q).toNatClampNeg)).bind (fun r20 => some (-r20)) else none) = some v ∧ (if (1 : Int32) = 0 then some (-5) else if kb_in? (nI b) 20 then (f_X12_far own ((yLook_r look) (nI b).toNatClampNeg)).bind (fun r26 => some (-r26)) else none) = some v
      rw [if_neg (pu_ne2 (by omega)), if_pos (pu_inn hq (by omega)), if_neg (by decide), if_pos (pu_inn hb (by omega)), nI_clamp (by omega), nI_clamp (by omega), e2]
      unfold f_X12_far f_X10_gap
      by_cases hle : sc_looks sc q ≤ own
      · rw [if_pos hle]; exact ⟨_, rfl, rfl⟩
      · rw [if_neg hle]; exact ⟨_, rfl, rfl⟩
  | 8, _ => by
    rcases hO with ⟨rfl, rfl⟩ | ⟨rfl, b, hb, rfl, hO⟩
    · exact ⟨0, rfl, rfl⟩
    · show ∃ v, (if r1 = (-2 : Int32) then some 0 else (f_X10_holdsBit fr r1).bind (fun r22 => if r22 = 0 then some 0 else some 1)) = some v ∧ (if (1 : Int32) = 0 then some 0 else if rider = (-2 : Int32) then some 0 else if kb_in? (nI b) 20 then (if ((yWho_r who) (nI b).toNatClampNeg) = (99 : Int32) then some 0 else if kb_in? (nI b) 20 then (f_X11_areFriends bu rider ((yWho_r who) (nI b).toNatClampNeg)).bind (fun r32 => if r32 = 0 then some 0 else some 1) else none) else none) = some v
      have hb1 : ¬ (1 : Int32) = 0 := by decide
      rw [if_neg hb1, if_pos (pu_inn hb (by omega)), if_pos (pu_inn hb (by omega)), nI_clamp (by omega)]
      rcases hO with ⟨q, hq, rfl, e3, e2⟩ | ⟨rfl, e3, e2⟩
      · have hn := h.n31
        rw [if_neg (pu_ne2 (by omega)), pu_hb fr (by omega), e3]
        rcases hF with ⟨r, hr, rfl, rfl⟩ | ⟨rfl, rfl⟩
        · rw [if_neg (pu_ne2 (by omega)), if_neg (fun e => by rw [show (99 : Int32) = nI 99 from rfl, nI_eq (by omega) (by omega)] at e; omega), hB.fri r hr q hq]
          cases bt (qr_friends (pl_riders pl) r) q
          · exact ⟨0, rfl, rfl⟩
          · exact ⟨1, rfl, rfl⟩
        · rw [b_0]; exact ⟨0, rfl, rfl⟩
      · rw [if_neg (pu_ne2 (by omega)), pu_hb fr (by omega), e3]
        have h8 : bt fr 8 = false := by
          rcases hF with ⟨r, hr, _, rfl⟩ | ⟨_, rfl⟩
          · cases hh : bt (qr_friends (pl_riders pl) r) 8
            · rfl
            · have := h.fri r hr 8 hh
              have := h.riders.2.2
              omega
          · exact b_0 8
        rw [h8]
        refine ⟨0, rfl, ?_⟩
        by_cases hz : rider = -2
        · rw [if_pos hz]
        · rw [if_neg hz, if_pos (by decide)]
  | k + 9, hk => absurd hk (by omega)
theorem pu_worth {pl : PlanT} {bu : BusT} (h : pu_GP pl) (hB : pu_RB pl bu) (mo : MOT) {sc : SceneT} {who : WhoT} {look : LookT} (hS : pu_RS pl sc (yWho_r who) (yLook_r look)) {rider fr : Int32} (hF : pu_RF pl rider fr) (own : Int32) {s k : Nat} (hk : k < 9) (hs : s < 20) (hv : vSeat pl s = true) : ∃ v, f_X9_worth sc (pl_cab pl) (nI k) (nI s) own fr = some v ∧ f_X12_good mo who look bu (nI k) (nI s) rider own = some v := by
  have ex := pu_x20 s hs
  rw [pu_worthS sc _ _ _ _ k hk, pu_besC h sc hs hv, f_X12_good, pu_besideM h hB mo hs]
  cases q : vB2 pl s
  · obtain ⟨v, e1, e2⟩ := pu_sel h hB mo hS hF own hs (r1 := -2) (s0 := 0) (v5 := -1) (Or.inl ⟨rfl, rfl⟩) k hk
    refine ⟨v, e1, ?_⟩
    rw [pu_ff, pu_sb, if_pos rfl, f_X12_good_b29, pu_goodS _ _ _ _ _ _ _ _ _ k hk]
    exact e2
  · rcases hS (s ^^^ 1) ex.1 with ⟨a, b⟩ | hq
    · obtain ⟨v, e1, e2⟩ := pu_sel h hB mo hS hF own hs (r1 := -2) (s0 := 0) (v5 := nI (s ^^^ 1)) (Or.inl ⟨rfl, rfl⟩) k hk
      refine ⟨v, ?_, ?_⟩
      · show pu_wsel sc (pl_cab pl) (sc_sitter sc (s ^^^ 1)) k (nI s) own fr = _
        rw [a]; exact e1
      · show (if nI (s ^^^ 1) = (-1 : Int32) then _ else if kb_in? (nI (s ^^^ 1)) 20 then (if ((yWho_r who) (nI (s ^^^ 1)).toNatClampNeg) = (-2 : Int32) then _ else _) else none) = _
        rw [if_neg (pu_ne1 (by omega)), if_pos (pu_inn ex.1 (by omega)), nI_clamp (by omega), if_pos b, f_X12_good_b29, pu_goodS _ _ _ _ _ _ _ _ _ k hk]
        exact e2
    · have hw : ¬ yWho_r who (s ^^^ 1) = -2 := by
        have hn := h.n31
        rcases hq with ⟨q, hq, _, e, _⟩ | ⟨_, e, _⟩
        · rw [e]; exact pu_ne2 (by omega)
        · rw [e]; exact pu_ne2 (by omega)
      obtain ⟨v, e1, e2⟩ := pu_sel h hB mo hS hF own hs (r1 := sc_sitter sc (s ^^^ 1)) (s0 := 1) (v5 := nI (s ^^^ 1)) (Or.inr ⟨rfl, _, ex.1, rfl, hq⟩) k hk
      refine ⟨v, e1, ?_⟩
      show (if nI (s ^^^ 1) = (-1 : Int32) then _ else if kb_in? (nI (s ^^^ 1)) 20 then (if ((yWho_r who) (nI (s ^^^ 1)).toNatClampNeg) = (-2 : Int32) then _ else _) else none) = _
      rw [if_neg (pu_ne1 (by omega)), if_pos (pu_inn ex.1 (by omega)), nI_clamp (by omega), if_neg hw, pu_goodS _ _ _ _ _ _ _ _ _ k hk]
      exact e2
/-! looks are told as 0 to 9: so every way's worth is above -100, at which the class begins -/
def pu_lk (x : Int32) : Prop := ∃ k, k < 10 ∧ x = nI k
/-- who sits has such looks -/
def pu_LS (sc : SceneT) : Prop := ∀ s, s < 20 → sc_sitter sc s = -2 ∨ ∃ q, q < 9 ∧ sc_sitter sc s = nI q ∧ pu_lk (sc_looks sc q)
theorem pu_LSof {pl : PlanT} {sc : SceneT} {who look : Nat → Int32} (hS : pu_RS pl sc who look) (hn : vN pl < 9) (h8 : sc_looks sc 8 = 5) (hb : ∀ q, q < vN pl → pu_lk (sc_looks sc q)) : pu_LS sc := by
  intro s hs
  rcases hS s hs with ⟨a, _⟩ | ⟨q, hq, a, _⟩ | ⟨a, _⟩
  · exact Or.inl a
  · exact Or.inr ⟨q, by omega, a, hb q hq⟩
  · exact Or.inr ⟨8, by omega, a, 5, by omega, h8.trans rfl⟩
theorem pu_farL : ∀ i, i < 20 → ∀ s, s < 20 → pu_far i s < 100 := by decide +kernel
theorem pu_lowN : ∀ m, m < 100 → ¬ nI m ≤ (-100 : Int32) := by decide +kernel
theorem pu_lowF : ∀ s, s < 20 → ¬ -nI (s / 4) ≤ (-100 : Int32) := by decide +kernel
theorem pu_lowG : ∀ a, a < 10 → ∀ b, b < 10 → ¬ -(nI a - nI b) ≤ (-100 : Int32) := by decide +kernel
theorem pu_nearLow (sc : SceneT) (cb : CabT) {s : Nat} (hs : s < 20) : ∃ m, m < 100 ∧ f_X9_nearest sc cb (nI s) = some (nI m) := by
  rw [f_X9_nearest]
  refine pu_for (fun n i a => f_X9_nearest_b5 sc cb n (nI s) a i) 20 (fun _ a => ∃ m, m < 100 ∧ a = nI m) (fun o => ∃ m, m < 100 ∧ o = some (nI m)) ?_ ?_ 20 0 99 4096 (by omega) (by omega) ⟨99, by omega, rfl⟩
  · intro n i a hi hI
    refine Or.inl ?_
    show ∃ a', f_X9_nearest_b5 sc cb (n + 1) (nI s) a (nI i) = _ ∧ _
    by_cases hz : sc_sitter sc i = -2
    · refine ⟨a, ?_, hI⟩
      rw [f_X9_nearest_b5, if_neg (pu_ge20 hi), if_pos (pu_inn hi (by omega)), nI_clamp (by omega), if_pos hz, nI_1]
    · rw [pu_nearStep sc cb n a hi hs hz]
      by_cases q : a ≤ nI (pu_far i s)
      · exact ⟨a, if_pos q, hI⟩
      · exact ⟨_, if_neg q, pu_far i s, pu_farL i hi s hs, rfl⟩
  · intro n a hI
    obtain ⟨m, hm, e⟩ := hI
    subst e
    refine ⟨m, hm, ?_⟩
    show f_X9_nearest_b5 sc cb (n + 1) (nI s) (nI m) (nI 20) = _
    rw [f_X9_nearest_b5, if_pos pu_le20]
theorem pu_low01 {o : Option Int32} {x y v : Int32} (hx : ¬ x ≤ (-100 : Int32)) (hy : ¬ y ≤ (-100 : Int32)) (e : (o.bind fun r => if r = 0 then some x else some y) = some v) : ¬ v ≤ (-100 : Int32) := by
  cases o with
  | none =>
    have e : (none : Option Int32) = some v := e
    cases e
  | some r =>
    have e : (if r = 0 then some x else some y) = some v := e
    by_cases c : r = 0
    · rw [if_pos c] at e
      rw [← Option.some.inj e]; exact hx
    · rw [if_neg c] at e
      rw [← Option.some.inj e]; exact hy
theorem pu_wselLow {sc : SceneT} {cb : CabT} {own fr r1 : Int32} (ho : pu_lk own) {s : Nat} (hs : s < 20) (hr : r1 = -2 ∨ ∃ q, q < 9 ∧ r1 = nI q ∧ pu_lk (sc_looks sc q)) {v : Int32} : ∀ k, k < 9 → pu_wsel sc cb r1 k (nI s) own fr = some v → ¬ v ≤ (-100 : Int32)
  | 0, _, e => by
    have e : (if r1 = (-2 : Int32) then some (1 : Int32) else some 0) = some v := e
    by_cases c : r1 = -2
    · rw [if_pos c] at e
      rw [← Option.some.inj e]; decide
    · rw [if_neg c] at e
      rw [← Option.some.inj e]; decide
  | 1, _, e => by
    obtain ⟨m, hm, e1⟩ := pu_nearLow sc cb hs
    have e : (f_X9_nearest sc cb (nI s)).bind (fun r5 => some r5) = some v := e
    rw [e1, pu_sb] at e
    rw [← Option.some.inj e]
    exact pu_lowN m hm
  | 2, _, e => by
    have e : ((f_X0_isWindow (nI s - nI s / (4 : Int32) * (4 : Int32))).bind fun r7 => if r7 = 0 then some (0 : Int32) else some 1) = some v := e
    exact pu_low01 (by decide) (by decide) e
  | 3, _, e => by
    have e : ((f_X0_isAisle (cb_form cb) (nI s - nI s / (4 : Int32) * (4 : Int32))).bind fun r10 => if r10 = 0 then some (0 : Int32) else some 1) = some v := e
    exact pu_low01 (by decide) (by decide) e
  | 4, _, e => by
    have e : some (-(nI s / (4 : Int32))) = some v := e
    rw [pu_div4 (by omega)] at e
    rw [← Option.some.inj e]
    exact pu_lowF s hs
  | 5, _, e => by
    have e : some (nI s / (4 : Int32)) = some v := e
    rw [pu_div4 (by omega)] at e
    rw [← Option.some.inj e]
    exact pu_lowN (s / 4) (by omega)
  | 6, _, e => by
    have e : ((f_X0_isSunny cb (nI s)).bind fun r15 => if r15 = 0 then some (1 : Int32) else some 0) = some v := e
    exact pu_low01 (by decide) (by decide) e
  | 7, _, e => by
    have e : (if r1 = (-2 : Int32) then some (-5 : Int32) else if kb_in? r1 9 then (f_X10_gap own ((sc_looks sc) r1.toNatClampNeg)).bind (fun r20 => some (-r20)) else none) = some v := e
    rcases hr with c | ⟨q, hq, c, b, hb, eb⟩
    · rw [if_pos c] at e
      rw [← Option.some.inj e]; decide
    · obtain ⟨a, ha, ea⟩ := ho
      rw [c, if_neg (pu_ne2 (by omega)), if_pos (pu_inn hq (by omega)), nI_clamp (by omega), eb, ea] at e
      by_cases c2 : nI b ≤ nI a
      · rw [f_X10_gap, if_pos c2, pu_sb] at e
        rw [← Option.some.inj e]
        exact pu_lowG a ha b hb
      · rw [f_X10_gap, if_neg c2, pu_sb] at e
        rw [← Option.some.inj e]
        exact pu_lowG b hb a ha
  | 8, _, e => by
    have e : (if r1 = (-2 : Int32) then some (0 : Int32) else (f_X10_holdsBit fr r1).bind (fun r22 => if r22 = 0 then some 0 else some 1)) = some v := e
    by_cases c : r1 = -2
    · rw [if_pos c] at e
      rw [← Option.some.inj e]; decide
    · rw [if_neg c] at e
      exact pu_low01 (by decide) (by decide) e
  | k + 9, hk, _ => absurd hk (by omega)
theorem pu_worthLow {pl : PlanT} (h : pu_GP pl) {sc : SceneT} (hLS : pu_LS sc) {own fr : Int32} (ho : pu_lk own) {s k : Nat} (hk : k < 9) (hs : s < 20) (hv : vSeat pl s = true) {v : Int32} (e : f_X9_worth sc (pl_cab pl) (nI k) (nI s) own fr = some v) : ¬ v ≤ (-100 : Int32) := by
  rw [pu_worthS sc _ _ _ _ k hk, pu_besC h sc hs hv, pu_sb] at e
  have ex := pu_x20 s hs
  refine pu_wselLow ho hs ?_ k hk e
  cases q : vB2 pl s
  · exact Or.inl rfl
  · exact hLS (s ^^^ 1) ex.1
/-- the best by one way -/
theorem pu_bestIn {pl : PlanT} {bu : BusT} (h : pu_GP pl) (hB : pu_RB pl bu) (mo : MOT) {sc : SceneT} {who : WhoT} {look : LookT} (hS : pu_RS pl sc (yWho_r who) (yLook_r look)) (hLS : pu_LS sc) {rider fr : Int32} (hF : pu_RF pl rider fr) (own : Int32) (ho : pu_lk own) {ri j : Nat} (hri : ri < vR pl) (hj : j < vWays pl ri) {lf : Int32} (hl : ∀ s, bt lf s = true → vSeat pl s = true)
    (k7 : Nat → Int32 → Int32 → Int32 → Int32 → Option Int32) (k6 : Int32 → Int32 → Int32 → Int32 → Int32 → Option Int32) : ∃ m, f_X9_best_b26 sc (pl_cab pl) (pl_rules pl) k7 4096 ri own fr lf (nI j) 0 (-100) 0 = k7 ri own fr m (nI (j + 1)) ∧ f_X12_best_b31 mo who look bu k6 4096 (nI ri) rider own lf (nI j) (-2147483648) 0 0 = k6 (nI ri) rider own m (nI (j + 1)) ∧ (∀ s, bt m s = true → bt lf s = true) ∧ (¬ lf = 0 → ¬ m = 0) := by
  have hw := h.ways ri hri
  have hR := h.rules.2
  obtain ⟨kd, hkd, ekd⟩ := h.want ri hri j hj
  have ekm := hB.want ri hri j hj
  refine pu_for2 (fun n i (a : Int32 × Int32) => f_X9_best_b26 sc (pl_cab pl) (pl_rules pl) k7 n ri own fr lf (nI j) a.1 a.2 i) (fun n i (a : Int32 × Int32) => f_X12_best_b31 mo who look bu k6 n (nI ri) rider own lf (nI j) a.2 a.1 i) 20
    (fun i a c => a.1 = c.1 ∧ ((∃ s, s < i ∧ bt lf s = true) → a.2 = c.2) ∧ ((¬ ∃ s, s < i ∧ bt lf s = true) → a.2 = -100 ∧ c.2 = -2147483648) ∧ (∀ s, bt a.1 s = true → s < i ∧ bt lf s = true) ∧ ((∃ s, s < i ∧ bt lf s = true) → ¬ a.1 = 0)) (fun o q => ∃ m, o = k7 ri own fr m (nI (j + 1)) ∧ q = k6 (nI ri) rider own m (nI (j + 1)) ∧ (∀ s, bt m s = true → bt lf s = true) ∧ (¬ lf = 0 → ¬ m = 0)) ?_ ?_ 20 0 (0, -100) (0, -2147483648) 4096 (by omega) (by omega) ⟨rfl, fun hs => (by obtain ⟨s, hs, _⟩ := hs; omega), fun _ => ⟨rfl, rfl⟩, fun s hs => (by rw [b_0] at hs; cases hs), fun hs => (by obtain ⟨s, hs, _⟩ := hs; omega)⟩
  · intro n i a c hi hI
    obtain ⟨e, hE, hN, hI1, hI2⟩ := hI
    obtain ⟨kept, top⟩ := a
    obtain ⟨kept2, top2⟩ := c
    have e : kept = kept2 := e
    subst e
    have hE : (∃ s, s < i ∧ bt lf s = true) → top = top2 := hE
    have hN : (¬ ∃ s, s < i ∧ bt lf s = true) → top = -100 ∧ top2 = -2147483648 := hN
    have hI1 : ∀ s, bt kept s = true → s < i ∧ bt lf s = true := hI1
    have hI2 : (∃ s, s < i ∧ bt lf s = true) → ¬ kept = 0 := hI2
    refine Or.inl ?_
    show ∃ a' c', f_X9_best_b26 sc (pl_cab pl) (pl_rules pl) k7 (n + 1) ri own fr lf (nI j) kept top (nI i) = _ ∧ f_X12_best_b31 mo who look bu k6 (n + 1) (nI ri) rider own lf (nI j) top2 kept (nI i) = _ ∧ _
    rw [f_X9_best_b26, if_neg (pu_ge20 hi), pu_hb lf (by omega), f_X12_best_b31, if_neg (pu_ge20 hi), pu_has lf (by omega), nI_1]
    cases q : bt lf i
    · have ex : (∃ s, s < i + 1 ∧ bt lf s = true) → ∃ s, s < i ∧ bt lf s = true := fun ⟨s, hs, hs2⟩ => by
        rcases Nat.lt_or_ge s i with z | z
        · exact ⟨s, z, hs2⟩
        · rw [show s = i by omega, q] at hs2; cases hs2
      exact ⟨(kept, top), (kept, top2), rfl, rfl, rfl, fun hs => hE (ex hs), fun hn => hN (fun ⟨s, hs, hb⟩ => hn ⟨s, by omega, hb⟩), fun s hs => ⟨by have := (hI1 s hs).1; omega, (hI1 s hs).2⟩, fun hs => hI2 (ex hs)⟩
    · obtain ⟨v, e1, e2⟩ := pu_worth h hB mo hS hF own hkd hi (hl i q)
      have hv : ¬ v ≤ (-100 : Int32) := pu_worthLow h hLS ho hkd hi (hl i q) e1
      have en : ∀ x : Int32, ¬ (x ||| ((1 : Int32) <<< (nI i &&& 31))) = 0 := fun x e => by
        have := b_or x ((1 : Int32) <<< (nI i &&& 31)) i
        rw [e, b_0, pu_sh1 i (by omega), decide_eq_true rfl, Bool.or_true] at this
        cases this
      have eb : ∀ x : Int32, (∀ s, bt x s = true → s < i ∧ bt lf s = true) → ∀ s, bt (x ||| ((1 : Int32) <<< (nI i &&& 31))) s = true → s < i + 1 ∧ bt lf s = true := fun x hx s hs => by
        rw [b_or, pu_sh1 i (by omega), Bool.or_eq_true, decide_eq_true_iff] at hs
        rcases hs with hs | rfl
        · exact ⟨by have := (hx s hs).1; omega, (hx s hs).2⟩
        · exact ⟨by omega, q⟩
      rw [pu_sb, pu_sb, pu_ifb, pu_ifb, pu_tt, pu_tt, if_pos (pu_inn (by omega) (by omega)), nI_clamp (by omega), ekd, e1, show (4 : Int32) * nI ri = nI (4 * ri) from pk_mul 4 ri, nI_add, if_pos (pu_inn (by omega) (by omega)), nI_clamp (by omega), ekm, ekd, e2]
      show ∃ a' c', (if v ≤ top then f_X9_best_b77 sc (pl_cab pl) (pl_rules pl) k7 _ ri own fr lf (nI j) kept top (nI i) v else f_X9_best_b77 sc (pl_cab pl) (pl_rules pl) k7 _ ri own fr lf (nI j) 0 v (nI i) v) = _ ∧ (if v ≤ top2 then f_X12_best_b86 mo who look bu k6 _ (nI ri) rider own lf (nI j) top2 kept (nI i) v else f_X12_best_b86 mo who look bu k6 _ (nI ri) rider own lf (nI j) top2 0 (nI i) v) = _ ∧ _
      unfold f_X9_best_b77 f_X12_best_b86
      rw [nI_1]
      have i1 : ∃ s, s < i + 1 ∧ bt lf s = true := ⟨i, by omega, q⟩
      have b0 : ∀ s, bt 0 s = true → s < i ∧ bt lf s = true := fun s hs => (by rw [b_0] at hs; cases hs)
      by_cases h4 : ∃ s, s < i ∧ bt lf s = true
      · have et : top = top2 := hE h4
        subst et
        by_cases h1 : v ≤ top
        · rw [if_pos h1, if_pos h1]
          by_cases h2 : v = top
          · subst h2
            rw [if_pos rfl, if_pos h1]
            exact ⟨(_, _), (_, _), rfl, rfl, rfl, fun _ => rfl, fun hn => absurd i1 hn, eb kept hI1, fun _ => en kept⟩
          · rw [if_neg h2, if_neg (fun h3 => h2 (Int32.le_antisymm h1 h3))]
            exact ⟨(kept, top), (kept, top), rfl, rfl, rfl, fun _ => rfl, fun hn => absurd i1 hn, fun s hs => ⟨by have := (hI1 s hs).1; omega, (hI1 s hs).2⟩, fun _ => hI2 h4⟩
        · rw [if_neg h1, if_neg h1, if_pos rfl, if_pos (Int32.le_of_lt (Int32.not_le.mp h1))]
          exact ⟨(_, _), (_, _), rfl, rfl, rfl, fun _ => rfl, fun hn => absurd i1 hn, eb 0 b0, fun _ => en 0⟩
      · obtain ⟨t1, t2⟩ := hN h4
        subst t1
        subst t2
        have h5 : ¬ v ≤ (-2147483648 : Int32) := fun h3 => hv (Int32.le_trans h3 (by decide))
        rw [if_neg hv, if_neg h5, if_pos rfl, if_pos (Int32.le_of_lt (Int32.not_le.mp h5))]
        exact ⟨(_, _), (_, _), rfl, rfl, rfl, fun _ => rfl, fun hn => absurd i1 hn, eb 0 b0, fun _ => en 0⟩
  · intro n a c hI
    obtain ⟨e, hE, hN, hI1, hI2⟩ := hI
    obtain ⟨kept, top⟩ := a
    obtain ⟨kept2, top2⟩ := c
    have e : kept = kept2 := e
    subst e
    have hE : (∃ s, s < 20 ∧ bt lf s = true) → top = top2 := hE
    have hN : (¬ ∃ s, s < 20 ∧ bt lf s = true) → top = -100 ∧ top2 = -2147483648 := hN
    have hI1 : ∀ s, bt kept s = true → s < 20 ∧ bt lf s = true := hI1
    have hI2 : (∃ s, s < 20 ∧ bt lf s = true) → ¬ kept = 0 := hI2
    refine ⟨kept, ?_, ?_, fun s hs => (hI1 s hs).2, fun hz => hI2 ?_⟩
    · show f_X9_best_b26 sc (pl_cab pl) (pl_rules pl) k7 (n + 1) ri own fr lf (nI j) kept top (nI 20) = _
      rw [f_X9_best_b26, if_pos pu_le20, nI_1]
    · show f_X12_best_b31 mo who look bu k6 (n + 1) (nI ri) rider own lf (nI j) top2 kept (nI 20) = _
      rw [f_X12_best_b31, if_pos pu_le20, nI_1]
    · exact Classical.byContradiction fun hc => hz (b_ext fun i hi => by
        rw [b_0]
        cases hb : bt lf i
        · rfl
        · exact absurd ⟨i, (h.in20 (hl i hb)).1, hb⟩ hc)
/-- best and best: the same -/
theorem pu_best {pl : PlanT} {bu : BusT} (h : pu_GP pl) (hB : pu_RB pl bu) (mo : MOT) {sc : SceneT} {who : WhoT} {look : LookT} (hS : pu_RS pl sc (yWho_r who) (yLook_r look)) (hLS : pu_LS sc) {rider fr : Int32} (hF : pu_RF pl rider fr) (own : Int32) (ho : pu_lk own) {ri : Nat} (hri : ri < vR pl) {lf : Int32} (hl : ∀ s, bt lf s = true → vSeat pl s = true) : ∃ m, f_X9_best sc (pl_cab pl) (pl_rules pl) ri own fr lf = some m ∧ f_X12_best mo who look bu lf (nI ri) rider own = some m ∧ (∀ s, bt m s = true → bt lf s = true) ∧ (¬ lf = 0 → ¬ m = 0) := by
  have hw := h.ways ri hri
  have hR := h.rules.2
  rw [f_X9_best, f_X12_best]
  refine pu_for2 (fun n i a => f_X9_best_b7 sc (pl_cab pl) (pl_rules pl) n ri own fr a i) (fun n i a => f_X12_best_b6 mo who look bu n (nI ri) rider own a i) (vWays pl ri)
    (fun i a c => a = c ∧ (∀ s, bt a s = true → bt lf s = true) ∧ (¬ lf = 0 → ¬ a = 0)) (fun o q => ∃ m, o = some m ∧ q = some m ∧ (∀ s, bt m s = true → bt lf s = true) ∧ (¬ lf = 0 → ¬ m = 0)) ?_ ?_ (vWays pl ri) 0 lf lf 4096 (by omega) (by omega) ⟨rfl, fun _ h => h, fun h => h⟩
  · intro n i a c hi hI
    obtain ⟨e, hI1, hI2⟩ := hI
    subst e
    refine Or.inl ?_
    show ∃ a' c', f_X9_best_b7 sc (pl_cab pl) (pl_rules pl) (n + 1) ri own fr a (nI i) = _ ∧ f_X12_best_b6 mo who look bu (n + 1) (nI ri) rider own a (nI i) = _ ∧ _
    obtain ⟨m, e1, e2, e3, e4⟩ := pu_bestIn h hB mo hS hLS hF own ho hri hi (lf := a) (fun s hs => hl s (hI1 s hs)) (f_X9_best_b7 sc (pl_cab pl) (pl_rules pl) n) (f_X12_best_b6 mo who look bu n)
    refine ⟨m, m, ?_, ?_, rfl, fun s hs => hI1 s (e3 s hs), fun hz => e4 (hI2 hz)⟩
    · rw [f_X9_best_b7, hw.1, if_neg (nI_ge hi (by omega))]
      exact e1
    · rw [f_X12_best_b6, if_pos (pu_inn (by omega) (by omega)), nI_clamp (by omega), hB.ways ri hri, hw.1, if_neg (nI_ge hi (by omega))]
      exact e2
  · intro n a c hI
    obtain ⟨e, hI1, hI2⟩ := hI
    subst e
    refine ⟨a, ?_, ?_, hI1, hI2⟩
    · show f_X9_best_b7 sc (pl_cab pl) (pl_rules pl) (n + 1) ri own fr a (nI _) = _
      rw [f_X9_best_b7, hw.1, if_pos (nI_le (Nat.le_refl _) (by omega))]
    · show f_X12_best_b6 mo who look bu (n + 1) (nI ri) rider own a (nI _) = _
      rw [f_X12_best_b6, if_pos (pu_inn (by omega) (by omega)), nI_clamp (by omega), hB.ways ri hri, hw.1, if_pos (nI_le (Nat.le_refl _) (by omega))]

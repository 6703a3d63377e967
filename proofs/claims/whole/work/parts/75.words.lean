/-! the words that are known, numbers behind words; of both -/
section PV
variable {c : Nat → Nat} {n : Nat} {tape : TapeT} {s e : Nat} {ps : ParserT} {mo : MOT}
def pu_ln (ix : Nat) : Nat := kb_len.getD ix 0
def pu_wb (ix i : Nat) : Nat := (kb_ch ix i).toNatClampNeg
theorem pu_wbT : ∀ ix, ix < 32 → pu_ln ix ≤ 8 ∧ ∀ i, i < pu_ln ix → kb_ch ix i = nI (pu_wb ix i) ∧ 97 ≤ pu_wb ix i ∧ pu_wb ix i ≤ 122 := by decide +kernel
theorem pu_wordOf : ∀ ix, ix < 32 → f_X12_wordOf ix = some (lN (pu_en (fun i => pu_wb ix i - 96) (pu_ln ix))) := by decide +kernel
def pu_IW (c : Nat → Nat) (s e ix : Nat) : Prop := e - s = pu_ln ix ∧ ∀ i, i < pu_ln ix → c (s + i) = pu_wb ix i
theorem pu_PK.k1 (h : pu_PK c n s e ps mo) : ps_kind ps = 1 ↔ mo_sort mo = 2 := by
  obtain ⟨_, _, _, _, _, h⟩ := h
  rcases h with h | h | h | h | h | h
  · rw [h.1, h.2]; decide
  · rw [h.1, h.2.1]; decide
  · rw [h.1, h.2.1]; decide
  · rw [h.1, h.2.1]; decide
  · rw [h.1, h.2.1]; decide
  · rw [h.1, h.2]; decide
theorem pu_PK.k2 (h : pu_PK c n s e ps mo) : ps_kind ps = 2 ↔ mo_sort mo = 3 := by
  obtain ⟨_, _, _, _, _, h⟩ := h
  rcases h with h | h | h | h | h | h
  · rw [h.1, h.2]; decide
  · rw [h.1, h.2.1]; decide
  · rw [h.1, h.2.1]; decide
  · rw [h.1, h.2.1]; decide
  · rw [h.1, h.2.1]; decide
  · rw [h.1, h.2]; decide
theorem pu_PK.k0 (h : pu_PK c n s e ps mo) : ps_kind ps = 0 ↔ mo_sort mo = 1 := by
  obtain ⟨_, _, _, _, _, h⟩ := h
  rcases h with h | h | h | h | h | h
  · rw [h.1, h.2]; decide
  · rw [h.1, h.2.1]; decide
  · rw [h.1, h.2.1]; decide
  · rw [h.1, h.2.1]; decide
  · rw [h.1, h.2.1]; decide
  · rw [h.1, h.2]; decide
theorem pu_PK.w1 (h : pu_PK c n s e ps mo) (k : ps_kind ps = 1) : mo_spot mo = nI e ∧ s < e ∧ e ≤ s + 8 ∧ (∀ i, i < e - s → 97 ≤ c (s + i) ∧ c (s + i) ≤ 122) ∧ ps_word ps = lN (pu_en (fun i => c (s + i) - 96) (e - s)) ∧ mo_word mo = lN (pu_en (fun i => c (s + i) - 96) (e - s)) := by
  obtain ⟨_, _, _, _, _, h⟩ := h
  rcases h with h | h | h | h | h | h
  · rw [h.1] at k; exact absurd k (by decide)
  · exact h.2.2
  · rw [h.1] at k; exact absurd k (by decide)
  · rw [h.1] at k; exact absurd k (by decide)
  · rw [h.1] at k; exact absurd k (by decide)
  · rw [h.1] at k; exact absurd k (by decide)
theorem pu_PK.w2 (h : pu_PK c n s e ps mo) (k : ps_kind ps = 2) : ∃ v, v < 1000 ∧ ps_value ps = nI v ∧ mo_number mo = nI v := by
  obtain ⟨_, _, _, _, _, h⟩ := h
  rcases h with h | h | h | h | h | h
  · rw [h.1] at k; exact absurd k (by decide)
  · rw [h.1] at k; exact absurd k (by decide)
  · exact h.2.2.2.2
  · rw [h.1] at k; exact absurd k (by decide)
  · rw [h.1] at k; exact absurd k (by decide)
  · rw [h.1] at k; exact absurd k (by decide)
/-- a sign of both: v is 59 where kind is 3, 44 where it is 4 -/
theorem pu_PK.sg (h : pu_PK c n s e ps mo) : (ps_kind ps = 3 ↔ (mo_sort mo = 4 ∧ mo_sign mo = 59)) ∧ (ps_kind ps = 4 ↔ (mo_sort mo = 4 ∧ mo_sign mo = 44)) := by
  obtain ⟨_, _, _, _, _, h⟩ := h
  rcases h with h | h | h | h | h | h
  · rw [h.1, h.2]; exact ⟨⟨fun k => absurd k (by decide), fun k => absurd k.1 (by decide)⟩, ⟨fun k => absurd k (by decide), fun k => absurd k.1 (by decide)⟩⟩
  · rw [h.1, h.2.1]; exact ⟨⟨fun k => absurd k (by decide), fun k => absurd k.1 (by decide)⟩, ⟨fun k => absurd k (by decide), fun k => absurd k.1 (by decide)⟩⟩
  · rw [h.1, h.2.1]; exact ⟨⟨fun k => absurd k (by decide), fun k => absurd k.1 (by decide)⟩, ⟨fun k => absurd k (by decide), fun k => absurd k.1 (by decide)⟩⟩
  · rw [h.1, h.2.1, h.2.2.1]; exact ⟨⟨fun _ => ⟨rfl, rfl⟩, fun _ => rfl⟩, ⟨fun k => absurd k (by decide), fun k => absurd k.2 (by decide)⟩⟩
  · rw [h.1, h.2.1, h.2.2.1]; exact ⟨⟨fun k => absurd k (by decide), fun k => absurd k.2 (by decide)⟩, ⟨fun _ => ⟨rfl, rfl⟩, fun _ => rfl⟩⟩
  · rw [h.1, h.2]; exact ⟨⟨fun k => absurd k (by decide), fun k => absurd k.1 (by decide)⟩, ⟨fun k => absurd k (by decide), fun k => absurd k.1 (by decide)⟩⟩
theorem pu_isw (t : pu_TX c n ps tape mo) (h : pu_PK c n s e ps mo) {ix : Nat} (hx : ix < 32) : ∃ b : Bool, f_X4_isWord ps ix = some (pu_bI b) ∧ f_X12_isWord mo ix = some (pu_bI b) ∧ (b = true → ps_kind ps = 1) := by
  have h9 := t.n9
  have k1 := h.k1
  by_cases hk : ps_kind ps = 1
  rotate_left
  · refine ⟨false, ?_, ?_, fun q => by cases q⟩
    · rw [f_X4_isWord, if_neg hk]; rfl
    · rw [f_X12_isWord, if_neg (fun q => hk (k1.mpr q))]; rfl
  obtain ⟨w1, w2, w3, w4, w5, w6⟩ := h.w1 hk
  obtain ⟨p1, p2, p3, p4, p5, _⟩ := h
  obtain ⟨l8, lt⟩ := pu_wbT ix hx
  have ed : ps_next ps - ps_start ps = nI (e - s) := by rw [p5, p3, pk_sub (by omega)]
  have dec : (pu_IW c s e ix) ∨ ¬ pu_IW c s e ix := Classical.em _
  have refM : f_X12_isWord mo ix = (if pu_en (fun i => c (s + i) - 96) (e - s) = pu_en (fun i => pu_wb ix i - 96) (pu_ln ix) then some 1 else some 0) := by
    rw [f_X12_isWord, if_pos (k1.mp hk), pu_wordOf ix hx, pu_sb, w6]
    have q : (lg_cmp (lN (pu_en (fun i => c (s + i) - 96) (e - s))) (lN (pu_en (fun i => pu_wb ix i - 96) (pu_ln ix))) = 0) ↔ pu_en (fun i => c (s + i) - 96) (e - s) = pu_en (fun i => pu_wb ix i - 96) (pu_ln ix) := Iff.trans (lg_cmp_eq _ _) (pk_lEQ (pu_en64 _ (by omega) (fun i hi => by have := w4 i hi; show c (s + i) - 96 < 32; omega)) (pu_en64 _ l8 (fun i hi => by have := lt i hi; show pu_wb ix i - 96 < 32; omega)))
    simp only [q, f_X12_isWord_b24]
  have loopC : pu_ln ix = e - s → f_X4_isWord_b28 ps 4096 ix 0 = some (pu_bI (decide (∀ i, i < pu_ln ix → c (s + i) = pu_wb ix i))) := by
    intro el
    refine pu_for (fun m i (_ : Unit) => f_X4_isWord_b28 ps m ix i) (pu_ln ix) (fun i _ => ∀ k, k < i → c (s + k) = pu_wb ix k) (fun o => o = some (pu_bI (decide (∀ i, i < pu_ln ix → c (s + i) = pu_wb ix i)))) ?_ ?_ (pu_ln ix) 0 () 4096 (by omega) (by omega) (fun k hk => by omega)
    · intro m i _ hi hI
      have lti := lt i hi
      have w4i := w4 i (by omega)
      have e1 : f_X4_isWord_b28 ps (m + 1) ix (nI i) = (if c (s + i) = pu_wb ix i then f_X4_isWord_b28 ps m ix (nI (i + 1)) else some 0) := by
        rw [f_X4_isWord_b28, p3, nI_add]
        have q : (nI (c (s + i)) = nI (pu_wb ix i)) ↔ c (s + i) = pu_wb ix i := nI_eq (by omega) (by omega)
        have a1 : ¬ nI (kb_len.getD ix 0) ≤ nI i := nI_ge hi (by show pu_ln ix < _; omega)
        have a2 : kb_in? (nI i) (kb_len.getD ix 0) := pu_inn hi (by show pu_ln ix < _; omega)
        simp only [if_neg a1, if_pos a2, if_pos (pu_inn (c := s + i) (N := 900) (by omega) (by omega)), nI_clamp (show s + i < 2 ^ 31 by omega), nI_clamp (show i < 2 ^ 31 by omega), (t.tx (s + i) (by omega)).2.1, pu_b128 _ (show c (s + i) < 128 by omega), lti.1, q, nI_1]
      by_cases q : c (s + i) = pu_wb ix i
      · refine Or.inl ⟨(), ?_, fun k hk => ?_⟩
        · show f_X4_isWord_b28 ps (m + 1) ix (nI i) = _
          rw [e1, if_pos q]
        · by_cases ek : k = i
          · subst ek; exact q
          · exact hI k (by omega)
      · refine Or.inr ?_
        show f_X4_isWord_b28 ps (m + 1) ix (nI i) = _
        rw [e1, if_neg q, decide_eq_false (fun k => q (k i hi))]; rfl
    · intro m _ hI
      show f_X4_isWord_b28 ps (m + 1) ix (nI (pu_ln ix)) = _
      rw [f_X4_isWord_b28, if_pos (show nI (kb_len.getD ix 0) ≤ nI (pu_ln ix) from nI_le (Nat.le_refl _) (by show pu_ln ix < _; omega)), decide_eq_true hI]; rfl
  have eqL : (nI (e - s) = nI (kb_len.getD ix 0)) ↔ e - s = pu_ln ix := nI_eq (a := e - s) (b := pu_ln ix) (by omega) (by omega)
  rcases dec with y | y
  · refine ⟨true, ?_, ?_, fun _ => hk⟩
    · rw [f_X4_isWord, if_pos hk, ed, if_pos (eqL.mpr y.1), loopC y.1.symm, decide_eq_true y.2]
    · rw [refM, if_pos]
      · rfl
      · rw [y.1]
        have : ∀ k, k ≤ pu_ln ix → pu_en (fun i => c (s + i) - 96) k = pu_en (fun i => pu_wb ix i - 96) k := by
          intro k
          induction k with
          | zero => intro _; rfl
          | succ k ih => intro hk; rw [pu_en, pu_en, ih (by omega)]; show _ + (c (s + k) - 96) = _ + (pu_wb ix k - 96); rw [y.2 k (by omega)]
        exact this _ (Nat.le_refl _)
  · refine ⟨false, ?_, ?_, fun q => by cases q⟩
    · rw [f_X4_isWord, if_pos hk, ed]
      by_cases el : e - s = pu_ln ix
      · rw [if_pos (eqL.mpr el), loopC el.symm, decide_eq_false (fun q => y ⟨el, q⟩)]
      · rw [if_neg (fun q => el (eqL.mp q))]; rfl
    · rw [refM, if_neg]
      · rfl
      · intro q
        obtain ⟨q1, q2⟩ := pu_eninj _ _ _ _ (fun i hi => by have := w4 i hi; show 1 ≤ c (s + i) - 96 ∧ c (s + i) - 96 < 32; omega) (fun i hi => by have := lt i hi; show 1 ≤ pu_wb ix i - 96 ∧ pu_wb ix i - 96 < 32; omega) q
        refine y ⟨q1, fun i hi => ?_⟩
        have a := q2 i (by omega)
        have b := w4 i (by omega)
        have d := lt i hi
        have a' : c (s + i) - 96 = pu_wb ix i - 96 := a
        omega
/-! the end of a try: what both hold then -/
def pu_ER (ps : ParserT) (mo : MOT) (q : ParserT) (mq : MOT) : Prop := (ps_text q = ps_text ps) ∧ (ps_end q = ps_end ps) ∧ (ps_length q = ps_length ps) ∧ (mo_thrown mq = mo_thrown mo) ∧ (mo_trouble mq = mo_trouble mo) ∧ (mo_where mq = mo_where mo) ∧ (mo_taped mq = mo_taped mo) ∧ (mo_size mq = mo_size mo) ∧ (mo_marks mq = mo_marks mo) ∧ (mo_comers mq = mo_comers mo) ∧ (mo_films mq = mo_films mo) ∧ (mo_sort mq = 5) ∧ (ps_fault q = mo_fault mq) ∧ (¬ ps_fault q = 0) ∧ (ps_place q = mo_wrongAt mq) ∧ (¬ mo_fault mq ≤ 0)
theorem pu_ER.tx {ps : ParserT} {mo : MOT} {q : ParserT} {mq : MOT} (h : pu_ER ps mo q mq) : ps_text q = ps_text ps := h.1
theorem pu_ER.en {ps : ParserT} {mo : MOT} {q : ParserT} {mq : MOT} (h : pu_ER ps mo q mq) : ps_end q = ps_end ps := h.2.1
theorem pu_ER.le {ps : ParserT} {mo : MOT} {q : ParserT} {mq : MOT} (h : pu_ER ps mo q mq) : ps_length q = ps_length ps := h.2.2.1
theorem pu_ER.th {ps : ParserT} {mo : MOT} {q : ParserT} {mq : MOT} (h : pu_ER ps mo q mq) : mo_thrown mq = mo_thrown mo := h.2.2.2.1
theorem pu_ER.tr {ps : ParserT} {mo : MOT} {q : ParserT} {mq : MOT} (h : pu_ER ps mo q mq) : mo_trouble mq = mo_trouble mo := h.2.2.2.2.1
theorem pu_ER.wh {ps : ParserT} {mo : MOT} {q : ParserT} {mq : MOT} (h : pu_ER ps mo q mq) : mo_where mq = mo_where mo := h.2.2.2.2.2.1
theorem pu_ER.ta {ps : ParserT} {mo : MOT} {q : ParserT} {mq : MOT} (h : pu_ER ps mo q mq) : mo_taped mq = mo_taped mo := h.2.2.2.2.2.2.1
theorem pu_ER.sz {ps : ParserT} {mo : MOT} {q : ParserT} {mq : MOT} (h : pu_ER ps mo q mq) : mo_size mq = mo_size mo := h.2.2.2.2.2.2.2.1
theorem pu_ER.ma {ps : ParserT} {mo : MOT} {q : ParserT} {mq : MOT} (h : pu_ER ps mo q mq) : mo_marks mq = mo_marks mo := h.2.2.2.2.2.2.2.2.1
theorem pu_ER.co {ps : ParserT} {mo : MOT} {q : ParserT} {mq : MOT} (h : pu_ER ps mo q mq) : mo_comers mq = mo_comers mo := h.2.2.2.2.2.2.2.2.2.1
theorem pu_ER.fi {ps : ParserT} {mo : MOT} {q : ParserT} {mq : MOT} (h : pu_ER ps mo q mq) : mo_films mq = mo_films mo := h.2.2.2.2.2.2.2.2.2.2.1
theorem pu_ER.so {ps : ParserT} {mo : MOT} {q : ParserT} {mq : MOT} (h : pu_ER ps mo q mq) : mo_sort mq = 5 := h.2.2.2.2.2.2.2.2.2.2.2.1
theorem pu_ER.fa {ps : ParserT} {mo : MOT} {q : ParserT} {mq : MOT} (h : pu_ER ps mo q mq) : ps_fault q = mo_fault mq := h.2.2.2.2.2.2.2.2.2.2.2.2.1
theorem pu_ER.nz {ps : ParserT} {mo : MOT} {q : ParserT} {mq : MOT} (h : pu_ER ps mo q mq) : ¬ ps_fault q = 0 := h.2.2.2.2.2.2.2.2.2.2.2.2.2.1
theorem pu_ER.pl {ps : ParserT} {mo : MOT} {q : ParserT} {mq : MOT} (h : pu_ER ps mo q mq) : ps_place q = mo_wrongAt mq := h.2.2.2.2.2.2.2.2.2.2.2.2.2.2.1
theorem pu_ER.po {ps : ParserT} {mo : MOT} {q : ParserT} {mq : MOT} (h : pu_ER ps mo q mq) : ¬ mo_fault mq ≤ 0 := h.2.2.2.2.2.2.2.2.2.2.2.2.2.2.2
theorem pu_ER.pre {ps' q : ParserT} {mo' mq : MOT} (f : pu_FP ps ps') (g : pu_FO mo mo') (h : pu_ER ps' mo' q mq) : pu_ER ps mo q mq := ⟨h.tx.trans f.tx, h.en.trans f.en, h.le.trans f.le, h.th.trans g.th, h.tr.trans g.tr, h.wh.trans g.wh, h.ta.trans g.ta, h.sz.trans g.sz, h.ma.trans g.ma, h.co.trans g.co, h.fi.trans g.fi, h.so, h.fa, h.nz, h.pl, h.po⟩
theorem pu_fail (h : pu_PK c n s e ps mo) {k : Int32} (hk : ¬ k ≤ 0) : ∃ q mq, f_X4_failed ps k = some (0, q) ∧ f_X12_wrong mo k = some mq ∧ pu_ER ps mo q mq := by
  refine ⟨ps_set_place (ps_set_fault ps k) (ps_start (ps_set_fault ps k)), mo_set_sort (mo_set_wrongAt (mo_set_fault mo k) (mo_place (mo_set_fault mo k))) 5, rfl, ?_, rfl, rfl, rfl, rfl, rfl, rfl, rfl, rfl, rfl, rfl, rfl, rfl, rfl, (fun e => hk (by rw [show k = 0 from e]; decide)), ?_, hk⟩
  · rw [f_X12_wrong, if_neg h.sort5]; rfl
  · show ps_start ps = mo_place mo
    obtain ⟨_, _, a, b, _, _⟩ := h
    rw [a, b]
/-! over: the reference stands still -/
theorem pu_oGo (ov : mo_sort mo = 5) : f_X12_goesOn mo tape = some mo := by rw [f_X12_goesOn, if_pos ov]
theorem pu_oWr (ov : mo_sort mo = 5) (k : Int32) : f_X12_wrong mo k = some mo := by rw [f_X12_wrong, if_pos ov]
theorem pu_oIs (ov : mo_sort mo = 5) (ix : Nat) : f_X12_isWord mo ix = some 0 := by rw [f_X12_isWord, if_neg (by rw [ov]; decide)]; rfl
theorem pu_oNa (ov : mo_sort mo = 5) : f_X12_isName mo = some 0 := by rw [f_X12_isName, if_neg (by rw [ov]; decide)]; rfl
theorem pu_oEw (ov : mo_sort mo = 5) (ix : Nat) : f_X12_eatsWord mo tape ix = some (0, mo) := by rw [f_X12_eatsWord, pu_oIs ov, pu_sb, if_pos rfl, if_pos (Or.inl rfl)]
theorem pu_oEs (ov : mo_sort mo = 5) (x : Int32) : f_X12_eatsSign mo tape x = some (0, mo) := by rw [f_X12_eatsSign, if_neg (by rw [ov]; decide), f_X12_eatsSign_b20, f_X12_eatsSign_b21, if_pos rfl, if_pos (Or.inl rfl)]
theorem pu_oNe (ov : mo_sort mo = 5) (ix : Nat) : f_X12_needs mo tape ix = some mo := by rw [f_X12_needs, pu_oIs ov, pu_sb, if_pos rfl, pu_oWr ov, pu_sb, f_X12_needs_b13, pu_oGo ov]; rfl
theorem pu_oNs (ov : mo_sort mo = 5) (x : Int32) : f_X12_needsSign mo tape x = some mo := by rw [f_X12_needsSign, if_neg (by rw [ov]; decide), f_X12_needsSign_b16, pu_oWr ov, pu_sb, f_X12_needsSign_b21, pu_oGo ov]; rfl
theorem pu_oRw (ov : mo_sort mo = 5) (x y : Int32) : f_X12_readWhole mo tape x y = some (mo_number mo, mo) := by rw [f_X12_readWhole, if_neg (by rw [ov]; decide), pu_oWr ov, pu_sb, f_X12_readWhole_b13, f_X12_readWhole_b33, pu_oGo ov]; rfl
theorem pu_oRp (ov : mo_sort mo = 5) (ix : Nat) (x y : Int32) : f_X12_readPart mo tape ix x y = some (mo_number mo, mo) := by rw [f_X12_readPart, pu_oNe ov, pu_sb, f_X12_readPart_b5, pu_oRw ov]; rfl
theorem pu_oBe (ov : mo_sort mo = 5) (x y : Int32) : f_X12_begins mo tape x y = some mo := by
  rw [f_X12_begins]
  by_cases q : x = y
  · rw [if_pos q, pu_oWr ov, pu_sb, f_X12_begins_b10, pu_oGo ov]; rfl
  · rw [if_neg q, f_X12_begins_b10, pu_oGo ov]; rfl
/-- both go on from here, or both are over -/
def pu_GO (c : Nat → Nat) (n s : Nat) (ps : ParserT) (mo : MOT) (q : ParserT) (mq : MOT) : Prop := ∃ s' e', pu_FP ps q ∧ pu_FO mo mq ∧ pu_PK c n s' e' q mq ∧ s < s'
theorem pu_GO.tr {ps' q : ParserT} {mo' mq : MOT} {s1 e1 : Nat} (f : pu_FP ps ps') (g : pu_FO mo mo') (hs : s ≤ s1) (h : pu_GO c n s1 ps' mo' q mq) : pu_GO c n s ps mo q mq := by
  obtain ⟨s', e', a, b, d, k⟩ := h
  exact ⟨s', e', pu_FP.tr f a, pu_FO.trr g b, d, by omega⟩
/-- a word that must be here -/
theorem pu_need (t : pu_TX c n ps tape mo) (h : pu_PK c n s e ps mo) {ix : Nat} (hx : ix < 32) : (∃ q mq, f_X4_skipWord ps ix = some (1, q) ∧ f_X12_needs mo tape ix = some mq ∧ pu_GO c n s ps mo q mq) ∨ ∃ q mq, f_X4_skipWord ps ix = some (0, q) ∧ f_X12_needs mo tape ix = some mq ∧ pu_ER ps mo q mq := by
  obtain ⟨b, b1, b2, b3⟩ := pu_isw t h hx
  rw [f_X4_skipWord, f_X4_skipIfWord, f_X12_needs, b1, b2, pu_sb, pu_sb, pu_ifb, pu_ifb]
  cases b
  · rw [pu_ff, pu_ff, pu_sb, if_pos rfl]
    obtain ⟨q, mq, f1, f2, f3⟩ := pu_fail h (k := 1) (by decide)
    refine Or.inr ⟨q, mq, ?_, ?_, f3⟩
    · rw [f1, pu_sb, if_pos rfl]
    · rw [f2, pu_sb, f_X12_needs_b13, pu_oGo f3.so]; rfl
  · have hk := b3 rfl
    obtain ⟨s', e', q, mq, d1, d2, d3, d4, d5, d6⟩ := pu_adv t h (by rw [hk]; decide) (by rw [hk]; decide)
    refine Or.inl ⟨q, mq, ?_, ?_, s', e', d3, d4, d5, d6⟩
    · rw [pu_tt, d1, pu_sb, pu_sb, if_neg (show ¬ (1 : Int32) = 0 by decide)]; rfl
    · rw [pu_tt, f_X12_needs_b13, d2]; rfl
/-- a word that may be here -/
theorem pu_may (t : pu_TX c n ps tape mo) (h : pu_PK c n s e ps mo) {ix : Nat} (hx : ix < 32) : ∃ b : Bool, ∃ q mq, f_X4_skipIfWord ps ix = some (pu_bI b, q) ∧ f_X12_eatsWord mo tape ix = some (pu_bI b, mq) ∧ ∃ s' e', pu_FP ps q ∧ pu_FO mo mq ∧ pu_PK c n s' e' q mq ∧ s ≤ s' := by
  obtain ⟨b, b1, b2, b3⟩ := pu_isw t h hx
  rw [f_X4_skipIfWord, f_X12_eatsWord, b1, b2, pu_sb, pu_sb, pu_ifb, pu_ifb]
  cases b
  · refine ⟨false, ps, mo, rfl, ?_, s, e, pu_FP.rf _, pu_FO.rf _, h, Nat.le_refl _⟩
    rw [pu_ff, if_pos (show kb_01 (pu_bI false) from Or.inl rfl)]
  · have hk := b3 rfl
    obtain ⟨s', e', q, mq, d1, d2, d3, d4, d5, d6⟩ := pu_adv t h (by rw [hk]; decide) (by rw [hk]; decide)
    refine ⟨true, q, mq, ?_, ?_, s', e', d3, d4, d5, by omega⟩
    · rw [pu_tt, d1]; rfl
    · rw [pu_tt, d2, pu_sb, f_X12_eatsWord_b14, if_pos (show kb_01 (pu_bI true) from Or.inr rfl)]
/-- a number behind a word -/
theorem pu_num (t : pu_TX c n ps tape mo) (h : pu_PK c n s e ps mo) {ix : Nat} (hx : ix < 32) (lo hi : Int32) : (∃ v q mq, v < 1000 ∧ ¬ nI v < lo ∧ nI v ≤ hi ∧ f_X4_numberBehind ps ix lo hi = some (nI v, q) ∧ f_X12_readPart mo tape ix lo hi = some (nI v, mq) ∧ pu_GO c n s ps mo q mq) ∨ ∃ v v2 q mq, f_X4_numberBehind ps ix lo hi = some (v, q) ∧ f_X12_readPart mo tape ix lo hi = some (v2, mq) ∧ pu_ER ps mo q mq := by
  obtain ⟨b, b1, b2, b3⟩ := pu_isw t h hx
  rw [f_X4_numberBehind, f_X12_readPart, f_X12_needs, b1, b2, pu_sb, pu_sb, pu_ifb, pu_ifb]
  cases b
  · rw [pu_ff, pu_ff]
    obtain ⟨q, mq, f1, f2, f3⟩ := pu_fail h (k := 1) (by decide)
    refine Or.inr ⟨-1, mo_number mq, q, mq, ?_, ?_, f3⟩
    · rw [f1, pu_sb]
    · rw [f2, pu_sb, f_X12_needs_b13, pu_oGo f3.so, pu_sb, f_X12_needs_b17, pu_sb, f_X12_readPart_b5, pu_oRw f3.so]; rfl
  · rw [pu_tt, pu_tt]
    have hk := b3 rfl
    obtain ⟨s1, e1, q1, mq1, d1, d2, d3, d4, d5, d6⟩ := pu_adv t h (by rw [hk]; decide) (by rw [hk]; decide)
    rw [d1, pu_sb, f_X12_needs_b13, d2, pu_sb, f_X12_needs_b17, pu_sb, f_X12_readPart_b5, f_X12_readWhole]
    have k2 := d5.k2
    by_cases k : ps_kind q1 = 2
    rotate_left
    · rw [if_neg k, if_neg (fun y => k (k2.mpr y))]
      obtain ⟨q, mq, f1, f2, f3⟩ := pu_fail d5 (k := 1) (by decide)
      refine Or.inr ⟨-1, mo_number mq, q, mq, ?_, ?_, f3.pre d3 d4⟩
      · rw [f1, pu_sb]
      · rw [f2, pu_sb, f_X12_readWhole_b13, f_X12_readWhole_b33, pu_oGo f3.so]; rfl
    obtain ⟨v, v1, v2, v3⟩ := d5.w2 k
    rw [if_pos k, if_pos (k2.mp k), v2, v3, f_X12_in]
    have bad : (∃ v v2 q mq, f_X4_numberBehind_b52 q1 = some (v, q) ∧ ((f_X12_wrong mq1 (4 : Int32)).bind fun r5 => f_X12_readWhole_b33 tape r5) = some (v2, mq) ∧ pu_ER ps mo q mq) := by
      obtain ⟨q, mq, f1, f2, f3⟩ := pu_fail d5 (k := 4) (by decide)
      refine ⟨-1, mo_number mq, q, mq, ?_, ?_, f3.pre d3 d4⟩
      · rw [f_X4_numberBehind_b52, f1, pu_sb]
      · rw [f2, pu_sb, f_X12_readWhole_b33, pu_oGo f3.so]; rfl
    by_cases l1 : nI v < lo
    · obtain ⟨x, y, q, mq, g1, g2, g3⟩ := bad
      rw [if_pos l1, if_pos l1]
      refine Or.inr ⟨x, y, q, mq, g1, ?_, g3⟩
      rw [show f_X12_in_b14 = some 0 from rfl, pu_sb, if_pos rfl, g2]; rfl
    rw [if_neg l1, if_neg l1]
    by_cases l2 : nI v ≤ hi
    rotate_left
    · obtain ⟨x, y, q, mq, g1, g2, g3⟩ := bad
      have l3 : hi < nI v := by rw [Int32.lt_iff_toInt_lt]; rw [Int32.le_iff_toInt_le] at l2; omega
      rw [if_neg l2]
      refine Or.inr ⟨x, y, q, mq, g1, ?_, g3⟩
      have : (if hi < nI v then f_X12_in_b14 else some (1 : Int32)) = some 0 := by rw [if_pos l3]; rfl
      rw [this, pu_sb, if_pos rfl, g2]; rfl
    have l3 : ¬ hi < nI v := by rw [Int32.lt_iff_toInt_lt]; rw [Int32.le_iff_toInt_le] at l2; omega
    obtain ⟨s2, e2, q2, mq2, g1, g2, g3, g4, g5, g6⟩ := pu_adv (t.fr d3 d4) d5 (by rw [k]; decide) (by rw [k]; decide)
    rw [if_pos l2]
    refine Or.inl ⟨v, q2, mq2, v1, l1, l2, ?_, ?_, s2, e2, pu_FP.tr d3 g3, pu_FO.trr d4 g4, g5, by omega⟩
    · rw [g1, pu_sb]
    · have : (if hi < nI v then f_X12_in_b14 else some (1 : Int32)) = some 1 := by rw [if_neg l3]
      rw [this, pu_sb, if_neg (show ¬ (1 : Int32) = 0 by decide), f_X12_readWhole_b33, g2, pu_sb, f_X12_readWhole_b42, v3]; rfl
end PV

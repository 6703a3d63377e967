/-! the text: its signs, tokens; both read the same -/
section PS
/-- a byte as the machine keeps it -/
def pu_sg8 (j : Nat) : Int32 := (nI j).toInt8.toInt32
theorem pu_b32 : ∀ j, j < 256 → (pu_sg8 j = 32 ↔ j = 32) := by decide +kernel
theorem pu_b97 : ∀ j, j < 256 → (pu_sg8 j < 97 ↔ ¬ (97 ≤ j ∧ j < 128)) := by decide +kernel
theorem pu_b122 : ∀ j, j < 256 → (122 < pu_sg8 j ↔ (122 < j ∧ j < 128)) := by decide +kernel
theorem pu_b48 : ∀ j, j < 256 → (pu_sg8 j < 48 ↔ ¬ (48 ≤ j ∧ j < 128)) := by decide +kernel
theorem pu_b57 : ∀ j, j < 256 → (57 < pu_sg8 j ↔ (57 < j ∧ j < 128)) := by decide +kernel
theorem pu_b59 : ∀ j, j < 256 → (pu_sg8 j = 59 ↔ j = 59) := by decide +kernel
theorem pu_b44 : ∀ j, j < 256 → (pu_sg8 j = 44 ↔ j = 44) := by decide +kernel
theorem pu_b128 : ∀ j, j < 128 → pu_sg8 j = nI j := by decide +kernel
theorem pu_isL : ∀ j, j < 256 → f_X12_isLetter (nI j) = some (pu_bI (decide (97 ≤ j ∧ j ≤ 122))) := by decide +kernel
theorem pu_isD : ∀ j, j < 256 → f_X12_isDigit (nI j) = some (pu_bI (decide (48 ≤ j ∧ j ≤ 57))) := by decide +kernel
theorem pu_isLn : f_X12_isLetter (-1) = some 0 := by decide +kernel
theorem pu_isDn : f_X12_isDigit (-1) = some 0 := by decide +kernel
theorem pu_lc : ∀ j, j < 256 → 97 ≤ j → j ≤ 122 → (nI j - (97 : Int32)) + (1 : Int32) = nI (j - 96) := by decide +kernel
theorem pu_dg : ∀ j, j < 256 → 48 ≤ j → j ≤ 57 → nI j - (48 : Int32) = nI (j - 48) := by decide +kernel
def pu_TX (c : Nat → Nat) (n : Nat) (ps : ParserT) (tape : TapeT) (mo : MOT) : Prop := (n ≤ 900) ∧ (ps_end ps = nI n) ∧ (mo_size mo = nI n) ∧ (∀ k, k < n → c k < 256 ∧ ps_text ps k = pu_sg8 (c k) ∧ yTape_r tape k &&& 255 = nI (c k))
theorem pu_TX.n9 {c : Nat → Nat} {n : Nat} {ps : ParserT} {tape : TapeT} {mo : MOT} (h : pu_TX c n ps tape mo) : n ≤ 900 := h.1
theorem pu_TX.en {c : Nat → Nat} {n : Nat} {ps : ParserT} {tape : TapeT} {mo : MOT} (h : pu_TX c n ps tape mo) : ps_end ps = nI n := h.2.1
theorem pu_TX.sz {c : Nat → Nat} {n : Nat} {ps : ParserT} {tape : TapeT} {mo : MOT} (h : pu_TX c n ps tape mo) : mo_size mo = nI n := h.2.2.1
theorem pu_TX.tx {c : Nat → Nat} {n : Nat} {ps : ParserT} {tape : TapeT} {mo : MOT} (h : pu_TX c n ps tape mo) : ∀ k, k < n → c k < 256 ∧ ps_text ps k = pu_sg8 (c k) ∧ yTape_r tape k &&& 255 = nI (c k) := h.2.2.2
/-- what a step of the reader leaves as it was -/
def pu_FP (ps : ParserT) (q : ParserT) : Prop := (ps_text q = ps_text ps) ∧ (ps_end q = ps_end ps) ∧ (ps_length q = ps_length ps) ∧ (ps_fault q = ps_fault ps) ∧ (ps_place q = ps_place ps)
theorem pu_FP.tx {ps : ParserT} {q : ParserT} (h : pu_FP ps q) : ps_text q = ps_text ps := h.1
theorem pu_FP.en {ps : ParserT} {q : ParserT} (h : pu_FP ps q) : ps_end q = ps_end ps := h.2.1
theorem pu_FP.le {ps : ParserT} {q : ParserT} (h : pu_FP ps q) : ps_length q = ps_length ps := h.2.2.1
theorem pu_FP.fa {ps : ParserT} {q : ParserT} (h : pu_FP ps q) : ps_fault q = ps_fault ps := h.2.2.2.1
theorem pu_FP.pl {ps : ParserT} {q : ParserT} (h : pu_FP ps q) : ps_place q = ps_place ps := h.2.2.2.2
def pu_FO (mo : MOT) (q : MOT) : Prop := (mo_thrown q = mo_thrown mo) ∧ (mo_trouble q = mo_trouble mo) ∧ (mo_where q = mo_where mo) ∧ (mo_taped q = mo_taped mo) ∧ (mo_size q = mo_size mo) ∧ (mo_fault q = mo_fault mo) ∧ (mo_wrongAt q = mo_wrongAt mo) ∧ (mo_marks q = mo_marks mo) ∧ (mo_comers q = mo_comers mo) ∧ (mo_films q = mo_films mo)
theorem pu_FO.th {mo : MOT} {q : MOT} (h : pu_FO mo q) : mo_thrown q = mo_thrown mo := h.1
theorem pu_FO.tr {mo : MOT} {q : MOT} (h : pu_FO mo q) : mo_trouble q = mo_trouble mo := h.2.1
theorem pu_FO.wh {mo : MOT} {q : MOT} (h : pu_FO mo q) : mo_where q = mo_where mo := h.2.2.1
theorem pu_FO.ta {mo : MOT} {q : MOT} (h : pu_FO mo q) : mo_taped q = mo_taped mo := h.2.2.2.1
theorem pu_FO.sz {mo : MOT} {q : MOT} (h : pu_FO mo q) : mo_size q = mo_size mo := h.2.2.2.2.1
theorem pu_FO.fa {mo : MOT} {q : MOT} (h : pu_FO mo q) : mo_fault q = mo_fault mo := h.2.2.2.2.2.1
theorem pu_FO.wr {mo : MOT} {q : MOT} (h : pu_FO mo q) : mo_wrongAt q = mo_wrongAt mo := h.2.2.2.2.2.2.1
theorem pu_FO.ma {mo : MOT} {q : MOT} (h : pu_FO mo q) : mo_marks q = mo_marks mo := h.2.2.2.2.2.2.2.1
theorem pu_FO.co {mo : MOT} {q : MOT} (h : pu_FO mo q) : mo_comers q = mo_comers mo := h.2.2.2.2.2.2.2.2.1
theorem pu_FO.fi {mo : MOT} {q : MOT} (h : pu_FO mo q) : mo_films q = mo_films mo := h.2.2.2.2.2.2.2.2.2
theorem pu_FP.rf (ps : ParserT) : pu_FP ps ps := ⟨rfl, rfl, rfl, rfl, rfl⟩
theorem pu_FO.rf (mo : MOT) : pu_FO mo mo := ⟨rfl, rfl, rfl, rfl, rfl, rfl, rfl, rfl, rfl, rfl⟩
theorem pu_FP.tr {a b c : ParserT} (h : pu_FP a b) (k : pu_FP b c) : pu_FP a c := ⟨k.tx.trans h.tx, k.en.trans h.en, k.le.trans h.le, k.fa.trans h.fa, k.pl.trans h.pl⟩
theorem pu_FO.trr {a b c : MOT} (h : pu_FO a b) (k : pu_FO b c) : pu_FO a c := ⟨k.th.trans h.th, k.tr.trans h.tr, k.wh.trans h.wh, k.ta.trans h.ta, k.sz.trans h.sz, k.fa.trans h.fa, k.wr.trans h.wr, k.ma.trans h.ma, k.co.trans h.co, k.fi.trans h.fi⟩
theorem pu_FPwn (ps : ParserT) (a : Int64) (b : Int32) : pu_FP ps (ps_set_next (ps_set_word ps a) b) := ⟨rfl, rfl, rfl, rfl, rfl⟩
theorem pu_FOs (mo : MOT) (b : Int32) : pu_FO mo (mo_set_spot mo b) := ⟨rfl, rfl, rfl, rfl, rfl, rfl, rfl, rfl, rfl, rfl⟩
theorem pu_FOws (mo : MOT) (a : Int64) (b : Int32) : pu_FO mo (mo_set_spot (mo_set_word mo a) b) := ⟨rfl, rfl, rfl, rfl, rfl, rfl, rfl, rfl, rfl, rfl⟩
theorem pu_TX.fr {c : Nat → Nat} {n : Nat} {ps q : ParserT} {tape : TapeT} {mo mq : MOT} (t : pu_TX c n ps tape mo) (h : pu_FP ps q) (k : pu_FO mo mq) : pu_TX c n q tape mq := ⟨t.n9, h.en.trans t.en, k.sz.trans t.sz, fun j hj => by rw [h.tx]; exact t.tx j hj⟩
/-- the number of the first k letters from s on -/
def pu_en (d : Nat → Nat) : Nat → Nat
  | 0 => 0
  | k + 1 => 32 * pu_en d k + d k
def pu_dd (d : Nat → Nat) : Nat → Nat
  | 0 => 0
  | k + 1 => 10 * pu_dd d k + d k
theorem pu_enlt (d : Nat → Nat) : ∀ k, (∀ i, i < k → d i < 32) → pu_en d k < 32 ^ k := by
  intro k
  induction k with
  | zero => intro _; exact Nat.one_pos
  | succ k ih =>
    intro h
    have a := ih (fun i hi => h i (by omega))
    have b := h k (by omega)
    rw [pu_en, Nat.pow_succ]
    omega
theorem pu_en64 (d : Nat → Nat) {k : Nat} (hk : k ≤ 8) (h : ∀ i, i < k → d i < 32) : pu_en d k < 2 ^ 63 := by
  have a := pu_enlt d k h
  have b : 32 ^ k ≤ 32 ^ 8 := Nat.pow_le_pow_right (by omega) hk
  have e : (32 : Nat) ^ 8 < 2 ^ 63 := by decide
  omega
theorem pu_eninj : ∀ (k : Nat) (d f : Nat → Nat) (m : Nat), (∀ i, i < k → 1 ≤ d i ∧ d i < 32) → (∀ i, i < m → 1 ≤ f i ∧ f i < 32) → pu_en d k = pu_en f m → k = m ∧ ∀ i, i < k → d i = f i := by
  intro k
  induction k with
  | zero => intro d f m _ hf e; cases m with
    | zero => exact ⟨rfl, fun i hi => by omega⟩
    | succ m => rw [pu_en, pu_en] at e; have := hf m (by omega); omega
  | succ k ih => intro d f m hd hf e; cases m with
    | zero => rw [pu_en, pu_en] at e; have := hd k (by omega); omega
    | succ m =>
      rw [pu_en, pu_en] at e
      have a := hd k (by omega)
      have b := hf m (by omega)
      obtain ⟨q1, q2⟩ := ih d f m (fun i hi => hd i (by omega)) (fun i hi => hf i (by omega)) (by omega)
      subst q1
      refine ⟨rfl, fun i hi => ?_⟩
      by_cases ei : i = k
      · subst ei; omega
      · exact q2 i (by omega)
/-- a token, as both hold it: from s to e -/
def pu_PK (c : Nat → Nat) (n s e : Nat) (ps : ParserT) (mo : MOT) : Prop := s ≤ e ∧ e ≤ n ∧ ps_start ps = nI s ∧ mo_place mo = nI s ∧ ps_next ps = nI e ∧
  ((ps_kind ps = 0 ∧ mo_sort mo = 1) ∨
   (ps_kind ps = 1 ∧ mo_sort mo = 2 ∧ mo_spot mo = nI e ∧ s < e ∧ e ≤ s + 8 ∧ (∀ i, i < e - s → 97 ≤ c (s + i) ∧ c (s + i) ≤ 122) ∧ ps_word ps = lN (pu_en (fun i => c (s + i) - 96) (e - s)) ∧ mo_word mo = lN (pu_en (fun i => c (s + i) - 96) (e - s))) ∨
   (ps_kind ps = 2 ∧ mo_sort mo = 3 ∧ mo_spot mo = nI e ∧ s < e ∧ ∃ v, v < 1000 ∧ ps_value ps = nI v ∧ mo_number mo = nI v) ∨
   (ps_kind ps = 3 ∧ mo_sort mo = 4 ∧ mo_sign mo = 59 ∧ mo_spot mo = nI e ∧ s < e) ∨
   (ps_kind ps = 4 ∧ mo_sort mo = 4 ∧ mo_sign mo = 44 ∧ mo_spot mo = nI e ∧ s < e) ∨
   (ps_kind ps = 5 ∧ mo_sort mo = 0))
/-- what the reference sees at k -/
theorem pu_byteAt {c : Nat → Nat} {n : Nat} {ps : ParserT} {tape : TapeT} {mo : MOT} (t : pu_TX c n ps tape mo) {p : Nat} (hp : p ≤ n) : f_X12_byteAt mo tape (nI p) = some (if p < n then nI (c p) else -1) := by
  have h9 := t.n9
  rw [f_X12_byteAt, t.sz]
  by_cases h : p < n
  · rw [if_neg (nI_ge h (by omega)), if_pos (pu_inn (show p < 900 by omega) (by omega)), nI_clamp (by omega), (t.tx p h).2.2, if_pos h]
  · rw [if_pos (nI_le (by omega) (by omega)), if_neg h]
theorem pu_lnw {w : Int64} {E d : Nat} (h : w = lN E) (hd : d < 32) : w * 32 + (nI d).toInt64 = lN (32 * E + d) := by
  rw [h, nI_l (by omega), show (32 : Int64) = lN 32 from rfl, lN_mul, lN_add, Nat.mul_comm]
theorem pu_lnw2 {w : Int64} {E d : Nat} (h : w = lN E) (hd : d < 32) : 32 * w + (nI d).toInt64 = lN (32 * E + d) := by
  rw [h, nI_l (by omega), show (32 : Int64) = lN 32 from rfl, lN_mul, lN_add]
/-- the letters of a word -/
theorem pu_word {c : Nat → Nat} {n s : Nat} {tape : TapeT} : ∀ (m i : Nat) (ps : ParserT) (mo : MOT) (f1 f2 : Nat), pu_TX c n ps tape mo → s + i + m = n → m < f1 → m < f2 → ps_start ps = nI s → mo_place mo = nI s → ps_next ps = nI (s + i) → mo_spot mo = nI (s + i) → mo_sort mo = 0 → (∀ j, j < i → 97 ≤ c (s + j) ∧ c (s + j) ≤ 122) → (i ≤ 8 → ps_word ps = lN (pu_en (fun i => c (s + i) - 96) i) ∧ mo_word mo = lN (pu_en (fun i => c (s + i) - 96) i)) → (i = 0 → s < n ∧ 97 ≤ c (s + 0) ∧ c (s + 0) ≤ 122) →
    ∃ e q mq, f_X4_takeWord_b5 f1 ps = some q ∧ f_X12_goesOn_b89 tape f2 (nI i) mo = some mq ∧ pu_FP ps q ∧ pu_FO mo mq ∧ pu_PK c n s e q mq ∧ s + i ≤ e := by
  have stop : ∀ (i : Nat) (ps : ParserT) (mo : MOT), s + i ≤ n → n ≤ 900 → ps_start ps = nI s → mo_place mo = nI s → ps_next ps = nI (s + i) → mo_spot mo = nI (s + i) → mo_sort mo = 0 → (∀ j, j < i → 97 ≤ c (s + j) ∧ c (s + j) ≤ 122) → (i ≤ 8 → ps_word ps = lN (pu_en (fun i => c (s + i) - 96) i) ∧ mo_word mo = lN (pu_en (fun i => c (s + i) - 96) i)) → 1 ≤ i →
    ∃ e q mq, f_X4_takeWord_b85 ps = some q ∧ (if (8 : Int32) < nI i then f_X12_goesOn_b281 tape mo else f_X12_goesOn_b163 tape (mo_set_sort mo 2)) = some mq ∧ pu_FP ps q ∧ pu_FO mo mq ∧ pu_PK c n s e q mq ∧ s + i ≤ e := by
    intro i ps mo hn h9 a1 a2 a3 a4 a5 a6 a7 a8
    have e8 : ((8 : Int32) < nI i) ↔ 8 < i := nI_ltI (a := 8) (b := i) (by omega) (by omega)
    have ed : ps_next ps - ps_start ps = nI i := by rw [a3, a1, pk_sub (by omega), show s + i - s = i by omega]
    rw [f_X4_takeWord_b85, ed]
    by_cases h8 : 8 < i
    · rw [if_pos (e8.mpr h8), if_pos (e8.mpr h8)]
      exact ⟨s + i, ps_set_kind ps 5, mo, rfl, rfl, ⟨rfl, rfl, rfl, rfl, rfl⟩, pu_FO.rf mo, ⟨by omega, hn, a1, a2, a3, Or.inr (Or.inr (Or.inr (Or.inr (Or.inr ⟨rfl, a5⟩))))⟩, Nat.le_refl _⟩
    · rw [if_neg (fun q => h8 (e8.mp q)), if_neg (fun q => h8 (e8.mp q))]
      have es : s + i - s = i := by omega
      exact ⟨s + i, ps_set_kind ps 1, mo_set_sort mo 2, rfl, rfl, ⟨rfl, rfl, rfl, rfl, rfl⟩, ⟨rfl, rfl, rfl, rfl, rfl, rfl, rfl, rfl, rfl, rfl⟩, ⟨by omega, hn, a1, a2, a3, Or.inr (Or.inl ⟨rfl, rfl, a4, by omega, by omega, by rw [es]; exact a6, by rw [es]; exact (a7 (by omega)).1, by rw [es]; exact (a7 (by omega)).2⟩)⟩, Nat.le_refl _⟩
  intro m
  induction m with
  | zero =>
    intro i ps mo f1 f2 t hm h1 h2 a1 a2 a3 a4 a5 a6 a7 a8
    have h9 := t.n9
    cases f1 with
    | zero => omega
    | succ f1 => cases f2 with
      | zero => omega
      | succ f2 =>
        obtain ⟨e, q, mq, b1, b2, b3⟩ := stop i ps mo (by omega) h9 a1 a2 a3 a4 a5 a6 a7 (by
          rcases Nat.eq_zero_or_pos i with h0 | h0
          · have := a8 h0; omega
          · exact h0)
        refine ⟨e, q, mq, ?_, ?_, b3⟩
        · rw [f_X4_takeWord_b5, t.en, a3, if_pos (nI_le (by omega) (by omega))]; exact b1
        · rw [f_X12_goesOn_b89, a4, pu_byteAt t (by omega), pu_sb, if_neg (show ¬ s + i < n by omega), pu_isLn, pu_sb, if_pos rfl]; exact b2
  | succ m ih =>
    intro i ps mo f1 f2 t hm h1 h2 a1 a2 a3 a4 a5 a6 a7 a8
    have h9 := t.n9
    cases f1 with
    | zero => omega
    | succ f1 => cases f2 with
      | zero => omega
      | succ f2 =>
        have hlt : s + i < n := by omega
        obtain ⟨x1, x2, x3⟩ := t.tx (s + i) hlt
        have eM : f_X12_goesOn_b89 tape (f2 + 1) (nI i) mo = (if decide (97 ≤ c (s + i) ∧ c (s + i) ≤ 122) = true then (if (8 : Int32) ≤ nI i then f_X12_goesOn_b136 tape (f_X12_goesOn_b89 tape f2) (nI i) mo else f_X12_goesOn_b136 tape (f_X12_goesOn_b89 tape f2) (nI i) (mo_set_word mo (((32 : Int64) * (mo_word mo)) + (((nI (c (s + i)) - (97 : Int32)) + (1 : Int32))).toInt64))) else (if (8 : Int32) < nI i then f_X12_goesOn_b281 tape mo else f_X12_goesOn_b163 tape (mo_set_sort mo 2))) := by
          rw [f_X12_goesOn_b89, a4, pu_byteAt t (by omega), pu_sb, if_pos hlt, pu_isL _ x1, pu_sb, pu_ifb, pu_sb]
        have eC : f_X4_takeWord_b5 (f1 + 1) ps = (if decide (97 ≤ c (s + i) ∧ c (s + i) ≤ 122) = true then f_X4_takeWord_b5 f1 (ps_set_next (ps_set_word ps (((ps_word ps) * (32 : Int64)) + (((pu_sg8 (c (s + i)) - (97 : Int32)) + (1 : Int32))).toInt64)) (ps_next ps + (1 : Int32))) else f_X4_takeWord_b85 ps) := by
          rw [f_X4_takeWord_b5, t.en]
          simp only [a3, nI_clamp (show s + i < 2 ^ 31 by omega), if_pos (pu_inn (c := s + i) (N := 900) (by omega) (by omega)), x2]
          rw [if_neg (nI_ge hlt (by omega))]
          by_cases q : 97 ≤ c (s + i) ∧ c (s + i) ≤ 122
          · rw [if_neg (fun k => (pu_b97 _ x1).mp k ⟨q.1, by omega⟩), if_neg (fun k => by have := (pu_b122 _ x1).mp k; omega), if_pos (decide_eq_true q)]
            rw [f_X4_takeWord_b82]
            show f_X4_takeWord_b5 f1 (ps_set_next (ps_set_word ps _) (ps_next ps + 1)) = _
            rw [a3]
          · rw [if_neg (show ¬ decide (97 ≤ c (s + i) ∧ c (s + i) ≤ 122) = true from fun k => q (of_decide_eq_true k))]
            by_cases q2 : 97 ≤ c (s + i) ∧ c (s + i) < 128
            · rw [if_neg (fun k => (pu_b97 _ x1).mp k q2), if_pos ((pu_b122 _ x1).mpr (by omega))]
            · rw [if_pos ((pu_b97 _ x1).mpr q2)]
        rw [eM, eC]
        by_cases q : 97 ≤ c (s + i) ∧ c (s + i) ≤ 122
        · rw [if_pos (decide_eq_true q), if_pos (decide_eq_true q)]
          have e8 : ((8 : Int32) ≤ nI i) ↔ 8 ≤ i := nI_leI (a := 8) (b := i) (by omega) (by omega)
          have hl : ∀ j, j < i + 1 → 97 ≤ c (s + j) ∧ c (s + j) ≤ 122 := fun j hj => by
            by_cases ej : j = i
            · subst ej; exact q
            · exact a6 j (by omega)
          have ew1 : pu_sg8 (c (s + i)) - (97 : Int32) + (1 : Int32) = nI (c (s + i) - 96) := by rw [pu_b128 _ (by omega), pu_lc _ x1 q.1 q.2]
          rw [ew1, pu_lc _ x1 q.1 q.2]
          have hcw : i + 1 ≤ 8 → ps_word ps * 32 + (nI (c (s + i) - 96)).toInt64 = lN (pu_en (fun i => c (s + i) - 96) (i + 1)) := fun h => pu_lnw (a7 (by omega)).1 (by omega)
          have hmw : i + 1 ≤ 8 → 32 * mo_word mo + (nI (c (s + i) - 96)).toInt64 = lN (pu_en (fun i => c (s + i) - 96) (i + 1)) := fun h => pu_lnw2 (a7 (by omega)).2 (by omega)
          have en1 : nI (s + i) + 1 = nI (s + (i + 1)) := nI_1 _
          by_cases h8 : 8 ≤ i
          · rw [if_pos (e8.mpr h8), f_X12_goesOn_b136, f_X12_goesOn_b149, nI_1]
            generalize ps_word ps * 32 + (nI (c (s + i) - 96)).toInt64 = W1
            obtain ⟨e, qq, mq, b1, b2, b3, b4, b5, b6⟩ := ih (i + 1) (ps_set_next (ps_set_word ps W1) (ps_next ps + 1)) (mo_set_spot mo (mo_spot mo + 1)) f1 f2 (t.fr (pu_FPwn ps _ _) (pu_FOs mo _)) (by omega) (by omega) (by omega) a1 a2 (by show ps_next ps + 1 = _; rw [a3]; exact en1) (by show mo_spot mo + 1 = _; rw [a4]; exact en1) a5 hl (fun h => by omega) (fun h => by omega)
            exact ⟨e, qq, mq, b1, b2, pu_FP.tr (pu_FPwn ps _ _) b3, pu_FO.trr (pu_FOs mo _) b4, b5, by omega⟩
          · rw [if_neg (fun k => h8 (e8.mp k)), f_X12_goesOn_b136, f_X12_goesOn_b149, nI_1]
            generalize ps_word ps * 32 + (nI (c (s + i) - 96)).toInt64 = W1 at hcw ⊢
            generalize 32 * mo_word mo + (nI (c (s + i) - 96)).toInt64 = W2 at hmw ⊢
            obtain ⟨e, qq, mq, b1, b2, b3, b4, b5, b6⟩ := ih (i + 1) (ps_set_next (ps_set_word ps W1) (ps_next ps + 1)) (mo_set_spot (mo_set_word mo W2) (mo_spot mo + 1)) f1 f2 (t.fr (pu_FPwn ps _ _) (pu_FOws mo _ _)) (by omega) (by omega) (by omega) a1 a2 (by show ps_next ps + 1 = _; rw [a3]; exact en1) (by show mo_spot mo + 1 = _; rw [a4]; exact en1) a5 hl (fun h => ⟨hcw h, hmw h⟩) (fun h => by omega)
            exact ⟨e, qq, mq, b1, b2, pu_FP.tr (pu_FPwn ps _ _) b3, pu_FO.trr (pu_FOws mo _ _) b4, b5, by omega⟩
        · rw [if_neg (fun k => q (of_decide_eq_true k)), if_neg (fun k => q (of_decide_eq_true k))]
          exact stop i ps mo (by omega) h9 a1 a2 a3 a4 a5 a6 a7 (by
            rcases Nat.eq_zero_or_pos i with h0 | h0
            · have := a8 h0; subst h0; exact absurd this.2 q
            · exact h0)
end PS

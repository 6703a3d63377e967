/-! the law's world and what holds between two calls -/
theorem kd_pl {A R C y : va_W} (h : A.Perm (R ++ C)) : (A ++ y).Perm ((y ++ R) ++ C) := by
  rw [List.append_assoc]
  exact List.perm_append_comm.trans (h.append_left y)
theorem kd_pr {A R C y : va_W} (h : A.Perm (R ++ C)) : (y ++ A).Perm ((y ++ R) ++ C) := by
  rw [List.append_assoc]
  exact h.append_left y
theorem kd_sl (L : List va_W) (n : Nat) (rs cs : List Nat) (R C : List va_W) (y : va_W) (hn : L.length = n) (h : (List.range n).Perm (rs ++ cs)) (hR : rs.map (kc_nth L) = R) (hC : cs.map (kc_nth L) = C) : (kc_all L ++ y).Perm ((y ++ kc_all R) ++ kc_all C) := by
  subst hR hC
  exact kd_pl (kc_sel L n rs cs hn h)
theorem kd_sr (L : List va_W) (n : Nat) (rs cs : List Nat) (R C : List va_W) (y : va_W) (hn : L.length = n) (h : (List.range n).Perm (rs ++ cs)) (hR : rs.map (kc_nth L) = R) (hC : cs.map (kc_nth L) = C) : (y ++ kc_all L).Perm ((y ++ kc_all R) ++ kc_all C) := by
  subst hR hC
  exact kd_pr (kc_sel L n rs cs hn h)
theorem kd_ex {A B R a b : va_W} (h1 : A.Perm (R ++ a)) (h2 : B.Perm (R ++ b)) : (b ++ A).Perm (a ++ B) := by
  refine (h1.append_left b).trans (List.Perm.trans ?_ (h2.append_left a).symm)
  refine List.perm_append_comm.trans (List.Perm.trans ?_ List.perm_append_comm)
  rw [List.append_assoc, List.append_assoc]
  exact List.perm_append_comm.append_left R
def kd_C (p0 p1 p2 p3 p4 p5 p6 p7 p8 p9 p10 p11 p12 p13 p14 p15 p16 p17 p18 p19 : va_W) : va_W := kc_all [p0, p1, p2, p3, p4, p5, p6, p7, p8, p9, p10, p11, p12, p13, p14, p15, p16, p17, p18, p19]
def kd_M (p0 p1 p2 p3 p4 p5 p6 p7 p8 p9 p10 p11 p12 p13 p14 p15 p16 p17 : va_W) : va_W := kc_all [p0, p1, p2, p3, p4, p5, p6, p7, p8, p9, p10, p11, p12, p13, p14, p15, p16, p17]
def kd_A (s : State) : Nat → Prop := fun q => s.heap.size ≤ q
/-- a place of marks: nothing there yet, or a ride -/
def kd_K1 (dA : Nat → ClassId) (i m p0 p1 : Nat) (o : Option Nat) (r : RideT) (k : va_W) : Prop := (o = none ∧ k = [] ∧ m ≤ i) ∨ ∃ (kb : Nat → Nat) (h0 h1 : Nat), o = some (kb 0) ∧ k = w_Ride dA kb h0 h1 r ∧ (i < m → h0 = p0 ∧ h1 = p1)
def kd_IN (D : va_G) (dA : Nat → ClassId) (s : State) (t am oo : Nat → Nat) (H : Heap) (locs : List Loc) : Prop := ∃ (ad : Nat → Nat → Nat) (bd : Nat → Nat → Nat) (pa : Nat → Nat) (dq : Nat → Nat) (fl : Nat → Nat) (sp : Nat) (q1 : Option Nat) (tp : TopT) (de : DealsT) (od : OddsT) (r0 : RideT) (r1 : RideT) (r2 : RideT) (r3 : RideT) (sn : SceneT) (rd : RideT) (fm : FilmsT) (km : qRide4T) (pd : PlanT) (pl : PlanT) (ps : ParserT) (k0 : va_W) (k1 : va_W) (k2 : va_W) (k3 : va_W) (mo : MOT) (tape : TapeT) (wv : WT) (ov : WT) (kept : KeptT) (looks : LooksT) (who : WhoT) (look : LookT) (co : ComingT) (ahead : AheadT) (left : LeftT) (times : TimesT) (part : PartT) (ft : FTakenT) (fs : FSeatT) (op : OpenT) (sh : ShutT) (f : Nat → Int64) (Lt : Nat) (mq : Nat) (rk : Nat → RideT), va_P D vwCl (kd_C (w_Top dA t (ad 13 0) (pa 0) (dq 0) (ad 8 0) (ad 10 0) (ad 9 0) (ad 7 0) (ad 2 0) (ad 1 0) tp) (w_Rides4 dA (ad 0) (ad 6 0) (ad 5 0) (ad 4 0) (ad 3 0) (0 : Int32)) (w_Deals dA (ad 1) (ad 6 0) de) (w_Odds dA (ad 2) (ad 0 0) od) (w_Ride dA (ad 3) (fl 6) (fl 7) r3) (w_Ride dA (ad 4) (fl 4) (fl 5) r2) (w_Ride dA (ad 5) (fl 2) (fl 3) r1) (w_Ride dA (ad 6) (fl 0) (fl 1) r0) (w_Scene dA (ad 7) sp sn) (w_Ride dA (ad 8) (pa 0) (pa 1) rd) (w_Films dA (ad 9) fm) (w_qRide4 dA (ad 10) km) (w_Plan dA dq pd) (w_Plan dA pa pl) (w_Parser dA (ad 13) ps) k0 k1 k2 k3 (w_Out dA oo f) ++ kd_M (w_MO dA am none q1 (bd 0 0) (bd 1 0) (bd 2 0) (bd 3 0) (bd 1 0) (bd 4 0) (bd 5 0) (bd 6 0) (bd 7 0) (bd 8 0) (bd 9 0) (bd 10 0) (bd 11 0) (bd 12 0) (bd 13 0) (bd 14 0) (bd 15 0) mo) (w_Tape dA (bd 0) tape) (w_W dA (bd 1) wv) (w_W dA (bd 2) ov) (w_Kept dA (bd 3) kept) (w_Looks dA (bd 4) looks) (w_Who dA (bd 5) who) (w_Look dA (bd 6) look) (w_Coming dA (bd 7) co) (w_Ahead dA (bd 8) ahead) (w_Left dA (bd 9) left) (w_Times dA (bd 10) times) (w_Part dA (bd 11) part) (w_FTaken dA (bd 12) ft) (w_FSeat dA (bd 13) fs) (w_Open dA (bd 14) op) (w_Shut dA (bd 15) sh) []) H ∧ va_D (kd_A s) (kd_C (w_Top dA t (ad 13 0) (pa 0) (dq 0) (ad 8 0) (ad 10 0) (ad 9 0) (ad 7 0) (ad 2 0) (ad 1 0) tp) (w_Rides4 dA (ad 0) (ad 6 0) (ad 5 0) (ad 4 0) (ad 3 0) (0 : Int32)) (w_Deals dA (ad 1) (ad 6 0) de) (w_Odds dA (ad 2) (ad 0 0) od) (w_Ride dA (ad 3) (fl 6) (fl 7) r3) (w_Ride dA (ad 4) (fl 4) (fl 5) r2) (w_Ride dA (ad 5) (fl 2) (fl 3) r1) (w_Ride dA (ad 6) (fl 0) (fl 1) r0) (w_Scene dA (ad 7) sp sn) (w_Ride dA (ad 8) (pa 0) (pa 1) rd) (w_Films dA (ad 9) fm) (w_qRide4 dA (ad 10) km) (w_Plan dA dq pd) (w_Plan dA pa pl) (w_Parser dA (ad 13) ps) k0 k1 k2 k3 (w_Out dA oo f) ++ kd_M (w_MO dA am none q1 (bd 0 0) (bd 1 0) (bd 2 0) (bd 3 0) (bd 1 0) (bd 4 0) (bd 5 0) (bd 6 0) (bd 7 0) (bd 8 0) (bd 9 0) (bd 10 0) (bd 11 0) (bd 12 0) (bd 13 0) (bd 14 0) (bd 15 0) mo) (w_Tape dA (bd 0) tape) (w_W dA (bd 1) wv) (w_W dA (bd 2) ov) (w_Kept dA (bd 3) kept) (w_Looks dA (bd 4) looks) (w_Who dA (bd 5) who) (w_Look dA (bd 6) look) (w_Coming dA (bd 7) co) (w_Ahead dA (bd 8) ahead) (w_Left dA (bd 9) left) (w_Times dA (bd 10) times) (w_Part dA (bd 11) part) (w_FTaken dA (bd 12) ft) (w_FSeat dA (bd 13) fs) (w_Open dA (bd 14) op) (w_Shut dA (bd 15) sh) []) ∧ va_S (kd_A s) s.heap H locs ∧ (pu_CM Lt tp ps tape mo ∧ pu_NB tp fm mo ∧ mq = 0) ∧ kd_K1 dA 0 mq (pa 0) (pa 1) (km 0) (rk 0) k0 ∧ kd_K1 dA 1 mq (pa 0) (pa 1) (km 1) (rk 1) k1 ∧ kd_K1 dA 2 mq (pa 0) (pa 1) (km 2) (rk 2) k2 ∧ kd_K1 dA 3 mq (pa 0) (pa 1) (km 3) (rk 3) k3
def kd_IB (D : va_G) (dA : Nat → ClassId) (s : State) (t am oo : Nat → Nat) (H : Heap) (locs : List Loc) : Prop := ∃ (ad : Nat → Nat → Nat) (bd : Nat → Nat → Nat) (pa : Nat → Nat) (dq : Nat → Nat) (fl : Nat → Nat) (sp : Nat) (q1 : Option Nat) (ba : Nat → Nat) (bu : BusT) (tp : TopT) (de : DealsT) (od : OddsT) (r0 : RideT) (r1 : RideT) (r2 : RideT) (r3 : RideT) (sn : SceneT) (rd : RideT) (fm : FilmsT) (km : qRide4T) (pd : PlanT) (pl : PlanT) (ps : ParserT) (k0 : va_W) (k1 : va_W) (k2 : va_W) (k3 : va_W) (mo : MOT) (tape : TapeT) (wv : WT) (ov : WT) (kept : KeptT) (looks : LooksT) (who : WhoT) (look : LookT) (co : ComingT) (ahead : AheadT) (left : LeftT) (times : TimesT) (part : PartT) (ft : FTakenT) (fs : FSeatT) (op : OpenT) (sh : ShutT) (f : Nat → Int64) (Lt : Nat) (mq : Nat) (rk : Nat → RideT), va_P D vwCl (kd_C (w_Top dA t (ad 13 0) (pa 0) (dq 0) (ad 8 0) (ad 10 0) (ad 9 0) (ad 7 0) (ad 2 0) (ad 1 0) tp) (w_Rides4 dA (ad 0) (ad 6 0) (ad 5 0) (ad 4 0) (ad 3 0) (0 : Int32)) (w_Deals dA (ad 1) (ad 6 0) de) (w_Odds dA (ad 2) (ad 0 0) od) (w_Ride dA (ad 3) (fl 6) (fl 7) r3) (w_Ride dA (ad 4) (fl 4) (fl 5) r2) (w_Ride dA (ad 5) (fl 2) (fl 3) r1) (w_Ride dA (ad 6) (fl 0) (fl 1) r0) (w_Scene dA (ad 7) sp sn) (w_Ride dA (ad 8) (pa 0) (pa 1) rd) (w_Films dA (ad 9) fm) (w_qRide4 dA (ad 10) km) (w_Plan dA dq pd) (w_Plan dA pa pl) (w_Parser dA (ad 13) ps) k0 k1 k2 k3 (w_Out dA oo f) ++ kd_M (w_MO dA am (some (ba 0)) q1 (bd 0 0) (bd 1 0) (bd 2 0) (bd 3 0) (bd 1 0) (bd 4 0) (bd 5 0) (bd 6 0) (bd 7 0) (bd 8 0) (bd 9 0) (bd 10 0) (bd 11 0) (bd 12 0) (bd 13 0) (bd 14 0) (bd 15 0) mo) (w_Tape dA (bd 0) tape) (w_W dA (bd 1) wv) (w_W dA (bd 2) ov) (w_Kept dA (bd 3) kept) (w_Looks dA (bd 4) looks) (w_Who dA (bd 5) who) (w_Look dA (bd 6) look) (w_Coming dA (bd 7) co) (w_Ahead dA (bd 8) ahead) (w_Left dA (bd 9) left) (w_Times dA (bd 10) times) (w_Part dA (bd 11) part) (w_FTaken dA (bd 12) ft) (w_FSeat dA (bd 13) fs) (w_Open dA (bd 14) op) (w_Shut dA (bd 15) sh) (w_Bus dA ba bu)) H ∧ va_D (kd_A s) (kd_C (w_Top dA t (ad 13 0) (pa 0) (dq 0) (ad 8 0) (ad 10 0) (ad 9 0) (ad 7 0) (ad 2 0) (ad 1 0) tp) (w_Rides4 dA (ad 0) (ad 6 0) (ad 5 0) (ad 4 0) (ad 3 0) (0 : Int32)) (w_Deals dA (ad 1) (ad 6 0) de) (w_Odds dA (ad 2) (ad 0 0) od) (w_Ride dA (ad 3) (fl 6) (fl 7) r3) (w_Ride dA (ad 4) (fl 4) (fl 5) r2) (w_Ride dA (ad 5) (fl 2) (fl 3) r1) (w_Ride dA (ad 6) (fl 0) (fl 1) r0) (w_Scene dA (ad 7) sp sn) (w_Ride dA (ad 8) (pa 0) (pa 1) rd) (w_Films dA (ad 9) fm) (w_qRide4 dA (ad 10) km) (w_Plan dA dq pd) (w_Plan dA pa pl) (w_Parser dA (ad 13) ps) k0 k1 k2 k3 (w_Out dA oo f) ++ kd_M (w_MO dA am (some (ba 0)) q1 (bd 0 0) (bd 1 0) (bd 2 0) (bd 3 0) (bd 1 0) (bd 4 0) (bd 5 0) (bd 6 0) (bd 7 0) (bd 8 0) (bd 9 0) (bd 10 0) (bd 11 0) (bd 12 0) (bd 13 0) (bd 14 0) (bd 15 0) mo) (w_Tape dA (bd 0) tape) (w_W dA (bd 1) wv) (w_W dA (bd 2) ov) (w_Kept dA (bd 3) kept) (w_Looks dA (bd 4) looks) (w_Who dA (bd 5) who) (w_Look dA (bd 6) look) (w_Coming dA (bd 7) co) (w_Ahead dA (bd 8) ahead) (w_Left dA (bd 9) left) (w_Times dA (bd 10) times) (w_Part dA (bd 11) part) (w_FTaken dA (bd 12) ft) (w_FSeat dA (bd 13) fs) (w_Open dA (bd 14) op) (w_Shut dA (bd 15) sh) (w_Bus dA ba bu)) ∧ va_S (kd_A s) s.heap H locs ∧ (pu_CM Lt tp ps tape mo ∧ pu_YB mq tp pl bu rd wv looks fm de mo kept ft fs rk) ∧ kd_K1 dA 0 mq (pa 0) (pa 1) (km 0) (rk 0) k0 ∧ kd_K1 dA 1 mq (pa 0) (pa 1) (km 1) (rk 1) k1 ∧ kd_K1 dA 2 mq (pa 0) (pa 1) (km 2) (rk 2) k2 ∧ kd_K1 dA 3 mq (pa 0) (pa 1) (km 3) (rk 3) k3
def kd_I (D : va_G) (dA : Nat → ClassId) (s : State) (t am oo : Nat → Nat) (H : Heap) (locs : List Loc) : Prop := kd_IN D dA s t am oo H locs ∨ kd_IB D dA s t am oo H locs
def kd_X0 (p : Program) (l : Launch) (s : State) (m : MethodId) (meth : Method) (c : Code) (b L : Nat) (xs : Nat → Int32) (D : va_G) (dA : Nat → ClassId) : Prop := lw_At p s m meth c b L xs ∧ l.stackTraces = false ∧ kb_K D dA s ∧ kb_E dA (kd_A s) s s.heap ∧ kd_Z (kd_A s) s s.heap
abbrev kd_lv (b : Nat) (t am oo : Nat → Nat) (i4 : Int32) : List (Nat × Value) := [(0, .ref b), (1, .ref (t 0)), (2, .ref (am 0)), (3, .ref (oo 0)), (4, .int i4)]
/-- where a case ends -/
def kd_KK (p : Program) (l : Launch) (e : Env) (s : State) (m : MethodId) (below : List Frame) (meth : Method) (c : Code) (b : Nat) (D : va_G) (dA : Nat → ClassId) (t am oo : Nat → Nat) (i4 : Int32) (cells slots : Nat) : Prop := ∀ (H : Heap) (locs : List Loc) (ls : Array Slot), kd_I D dA s t am oo H locs → lv_has ls 7 (kd_lv b t am oo i4) → W p l e room_1 s m #[Value.ref b] below meth c H locs (cells + 32) (slots + 300) (lw_Z below #[Value.ref b] s) (F0 m 1267 ls [])
section KDA
variable {p : Program} {l : Launch} {e : Env} {R : Room} {s : State} {m : MethodId} {args : Array Value} {below : List Frame} {meth : Method} {c : Code} {H : Heap} {locs : List Loc} {cells slots : Nat} {Q : State → Prop} {A : Nat → Prop} {H0 : Heap}
theorem kd_arg {pc : Nat} {ls : Array Slot} {rest : List Value} {cc : ByteArray} {nL b L : Nat} {xs : Nat → Int32} {lv : List (Nat × Value)} {i4 v k : Int32} {n : Int} (hx : p.tables.exec = Jvm.exec) (hb : c.code = cc) (hX : va_X b L xs s H0) (hbl : b < H0.size) (hbA : ¬ A b) (hS : va_S A H0 H locs) (d0 : decode cc pc = .ok (.aload_n 0, 1)) (d1 : decode cc (pc + 1) = .ok (.iload 4, 2)) (d3 : decode cc (pc + 3) = .ok (.iconst n, 1)) (d4 : decode cc (pc + 4) = .ok (.iadd, 1)) (d5 : decode cc (pc + 5) = .ok (.iaload, 1)) (l0 : ls[0]? = some (.val (.ref b))) (l4 : ls[4]? = some (.val (.int i4))) (hk : Int32.ofInt n = k) (hin : vp_in (i4 + k) L) (hv : xs (i4 + k).toNatClampNeg = v)
    (kk : W p l e R s m args below meth c H locs cells slots Q (F0 m (pc + 6) ls (.int v :: rest))) : W p l e R s m args below meth c H locs cells slots Q (F0 m pc ls rest) := by
  refine lv_aload_n hx hb d0 rfl l0 ?_
  refine lv_iload hx hb d1 l4 ?_
  refine lv_iconst (v := k) hx hb d3 hk ?_
  refine lv_iadd hx hb d4 ?_
  refine va_sld hx hb hX hbl hbA hS hin d5 ?_
  rw [hv]
  exact kk
end KDA
def kd_S5 (xs : Nat → Int32) (L : Nat) (i4 x1 x2 x3 x4 x5 : Int32) : Prop := vp_in (i4 + 1) L ∧ vp_in (i4 + 2) L ∧ vp_in (i4 + 3) L ∧ vp_in (i4 + 4) L ∧ vp_in (i4 + 5) L ∧ xs (i4 + 1).toNatClampNeg = x1 ∧ xs (i4 + 2).toNatClampNeg = x2 ∧ xs (i4 + 3).toNatClampNeg = x3 ∧ xs (i4 + 4).toNatClampNeg = x4 ∧ xs (i4 + 5).toNatClampNeg = x5
theorem kd_rm {a d : Nat} (h1 : a ≤ 601024) (h2 : d ≤ 7293033) : a ≤ room_1.cells ∧ d ≤ room_1.slots := ⟨h1, h2⟩
theorem kd_cmp (x : Int64) : lg_cmp x x = 0 := by
  unfold lg_cmp
  rw [if_neg (show ¬ (x > x) from Int64.lt_irrefl), if_pos rfl]
theorem kd_K1.up {dA : Nat → ClassId} {i m p0 p1 : Nat} {o : Option Nat} {r : RideT} {k : va_W} (h : kd_K1 dA i m p0 p1 o r k) (hi : ¬ i = m) : kd_K1 dA i (m + 1) p0 p1 o r k := by
  rcases h with ⟨a, b, d⟩ | ⟨kb, h0, h1, a, b, d⟩
  · exact Or.inl ⟨a, b, by omega⟩
  · exact Or.inr ⟨kb, h0, h1, a, b, fun z => d (by omega)⟩
theorem kd_K1.zero {dA : Nat → ClassId} {i m p0 p1 q0 q1 : Nat} {o : Option Nat} {r : RideT} {k : va_W} (h : kd_K1 dA i m p0 p1 o r k) : kd_K1 dA i 0 q0 q1 o r k := by
  rcases h with ⟨a, b, d⟩ | ⟨kb, h0, h1, a, b, d⟩
  · exact Or.inl ⟨a, b, by omega⟩
  · exact Or.inr ⟨kb, h0, h1, a, b, fun z => absurd z (by omega)⟩
section KDM
variable {tp : TopT} {rd rk rn : RideT} {m : Nat} {km : qRide4T} {pl : PlanT}
theorem kd_m1 (em : tp_markCount tp = nI m) : tp_markCount tp + 1 = nI (m + 1) := by rw [em]; exact nI_1 m
theorem kd_m2 (m : Nat) : nI (m + 1) - 1 = nI m := by rw [← nI_1 m]; exact Int32.add_sub_cancel _ _
theorem kd_hb (hb : tp_hasBus tp = 1) : ¬ tp_hasBus tp = 0 := by rw [hb]; decide
theorem kd_m4 (hm : m < 4) (em : tp_markCount tp = nI m) : tp_markCount tp < (4 : Int32) := by
  rw [em]
  rcases (show m = 0 ∨ m = 1 ∨ m = 2 ∨ m = 3 by omega) with rfl | rfl | rfl | rfl <;> decide
theorem kd_mi (hm : m < 4) (em : tp_markCount tp = nI m) : kb_in? (tp_markCount tp) 4 := by
  rw [em]
  exact vp_in_nI hm (by omega)
theorem kd_mc (em : tp_markCount tp = nI m) (hm : m < 4) : (tp_markCount tp).toNatClampNeg = m := by
  rw [em]
  exact nI_clamp (by omega)
theorem kd_mkk (hb : tp_hasBus tp = 1) (hm : m < 4) (em : tp_markCount tp = nI m) (c1 : f_X6_copyFrom rk rd = some rn) : f_X10_mark_k tp km rd rk = some (nI m, tp_set_latestTrouble (tp_set_markCount tp (nI (m + 1))) 0, rn) := by
  rw [f_X10_mark_k, if_neg (kd_hb hb), if_pos (kd_m4 hm em), if_pos (kd_mi hm em), c1, pu_sb, kd_m1 em, f_X10_answered, pu_sb]
  show some (nI (m + 1) - 1, _, _) = _
  rw [kd_m2]
theorem kd_mkn (hb : tp_hasBus tp = 1) (hm : m < 4) (em : tp_markCount tp = nI m) (c1 : f_X6_copyFrom (((fun _ => (0 : Int32)), (fun _ => (0 : Int32))), (fun _ => (0 : Int32)), (fun _ => (0 : Int32)), (fun _ => (0 : Int32)), (fun _ => (0 : Int32)), (fun _ => (0 : Int32)), (0 : Int32), (0 : Int32), (0 : Int32), (0 : Int32)) rd = some rn) : f_X10_mark_n tp km rd pl = some (nI m, tp_set_latestTrouble (tp_set_markCount tp (nI (m + 1))) 0, rn, 0) := by
  rw [f_X10_mark_n, if_neg (kd_hb hb), if_pos (kd_m4 hm em), if_pos (kd_mi hm em), c1, pu_sb, kd_m1 em, f_X10_answered, pu_sb]
  show some (nI (m + 1) - 1, _, _, _) = _
  rw [kd_m2]
theorem kd_mkF (hb : tp_hasBus tp = 1) (em : tp_markCount tp = nI 4) : f_X10_mark_r tp = some (-1, tp_set_latestTrouble tp 3) := by
  rw [f_X10_mark_r, if_neg (kd_hb hb), em, if_neg (by decide)]
  rfl
theorem kd_bkk {i : Nat} (hm : m ≤ 4) (em : tp_markCount tp = nI m) (hi : i < m) (c1 : f_X6_copyFrom rd rk = some rn) : f_X10_back_k tp km rd rk (nI i) = some (1, tp_set_latestTrouble tp 0, rn) := by
  have h1 : ¬ nI i < 0 := fun h => by
    rw [Int32.lt_iff_toInt_lt, nI_toInt (by omega)] at h
    have e0 : (0 : Int32).toInt = 0 := rfl
    omega
  have h2 : nI i < tp_markCount tp := by
    rw [em, Int32.lt_iff_toInt_lt, nI_toInt (by omega), nI_toInt (by omega)]
    omega
  rw [f_X10_back_k, if_neg h1, if_pos h2, if_pos (show kb_in? (nI i) 4 from vp_in_nI (show i < 4 by omega) (by omega)), c1, pu_sb]
theorem kd_bkF {x : Int32} (hx : x < 0 ∨ tp_markCount tp ≤ x) : f_X10_back_r tp x = some (0, tp_set_latestTrouble tp 1) := by
  rw [f_X10_back_r]
  by_cases q : x < 0
  · rw [if_pos q]; rfl
  · rw [if_neg q, if_neg]
    · rfl
    · rcases hx with h | h
      · exact absurd h q
      · exact Int32.not_lt.mpr h
theorem kd_ledx (hb : tp_hasBus tp = 1) {x : Int32} (h : f_X6_standerAt rd pl x = some (-1)) : f_X10_led_x tp rd pl x = some () := by
  rw [f_X10_led_x, if_neg (kd_hb hb), h, pu_sb, f_X10_led_x_b19, if_pos rfl]
theorem kd_ledn (hb : tp_hasBus tp = 0) (x : Int32) : f_X10_led_x tp rd pl x = some () := by
  rw [f_X10_led_x, if_pos hb, f_X10_led_x_b19, if_pos rfl]
theorem kd_ledr (hb : tp_hasBus tp = 1) {x : Int32} {r : Nat} (hr : r < 8) (h : f_X6_standerAt rd pl x = some (nI r)) : f_X10_led tp rd pl x = some (nI r) := by
  rw [f_X10_led, if_neg (kd_hb hb), h, pu_sb, f_X10_led_b19, if_neg]
  rcases (show r = 0 ∨ r = 1 ∨ r = 2 ∨ r = 3 ∨ r = 4 ∨ r = 5 ∨ r = 6 ∨ r = 7 by omega) with rfl | rfl | rfl | rfl | rfl | rfl | rfl | rfl <;> decide
theorem kd_upd (f : Nat → Int64) (k : Nat) (x : Int64) : vp_updL f k x k = x := by simp [vp_updL]
end KDM

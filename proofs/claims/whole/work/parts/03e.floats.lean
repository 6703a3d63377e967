-- contracts whose world has pointers that may come out anyhow (a scratch object keeps what it last looked at)
def kb_ph (l : List Nat) (k : Nat) : Nat := l.getD k 0
abbrev kb_FMi (l : Launch) (y : MethodName) (cc : ByteArray) (n : Nat) (ret : Option FieldType) (rm : Room) (D : va_G) (dA : Nat → ClassId) (av : List Value) (sz : Nat) (ws : va_W) (mc ms : Nat) (rv : Int32) (ws' : (Nat → Nat) → va_W) : Prop := Met l y [.code y cc n ret] rm (kb_pre D dA av sz ws) (va_Qi (fun r (_ : Nat → Nat) => r = rv) (fun ph => kb_B D (va_A ws sz) (ws' ph) ()) (va_A ws sz)) mc ms (va_A ws sz)
abbrev kb_FMl (l : Launch) (y : MethodName) (cc : ByteArray) (n : Nat) (ret : Option FieldType) (rm : Room) (D : va_G) (dA : Nat → ClassId) (av : List Value) (sz : Nat) (ws : va_W) (mc ms : Nat) (rv : Int64) (ws' : (Nat → Nat) → va_W) : Prop := Met l y [.code y cc n ret] rm (kb_pre D dA av sz ws) (va_Ql (fun r (_ : Nat → Nat) => r = rv) (fun ph => kb_B D (va_A ws sz) (ws' ph) ()) (va_A ws sz)) mc ms (va_A ws sz)
abbrev kb_FMv (l : Launch) (y : MethodName) (cc : ByteArray) (n : Nat) (ret : Option FieldType) (rm : Room) (D : va_G) (dA : Nat → ClassId) (av : List Value) (sz : Nat) (ws : va_W) (mc ms : Nat) (ws' : (Nat → Nat) → va_W) : Prop := Met l y [.code y cc n ret] rm (kb_pre D dA av sz ws) (va_Qv (fun (_ : Nat → Nat) => True) (fun ph => kb_B D (va_A ws sz) (ws' ph) ()) (va_A ws sz)) mc ms (va_A ws sz)
section KF
variable {p : Program} {l : Launch} {e : Env} {R : Room} {s : State} {m : MethodId} {args : Array Value} {below : List Frame} {meth : Method} {c : Code} {H : Heap} {locs : List Loc} {cells slots : Nat} {Q : State → Prop}
variable {pc : Nat} {ls : Array Slot} {rest st0 : List Value} {A0 : Nat → Prop} {H0 : Heap} {mc ms : Nat} {D : va_G} {dA : Nat → ClassId} {ws wc : va_W} {w1 ws2 : (Nat → Nat) → va_W} {a : Array Value}
theorem kb_Fci {rv : Int32} (hr : va_Run p l e R s m args below meth c H locs cells slots mc ms (F0 m pc ls st0) rest (va_Qi (fun r (_ : Nat → Nat) => r = rv) (fun ph => kb_B D (va_A wc H.size) (w1 ph) ()) (va_A wc H.size) a) (va_A wc H.size)) (hP : va_P D vwCl ws H) (hD : va_D A0 ws) (hS : va_S A0 H0 H locs) (hA : ∀ q, H0.size ≤ q → A0 q) (isC isR perm : List Nat) (hC : isC.map (fun i => ws[i]?) = wc.map some) (hRr : isR.all (fun i => decide (i < ws.length)) = true) (hn : va_nd isR = true) (hdis : ∀ i ∈ isR, i ∉ isC) (hq : ∀ ph, perm.map (fun i => (isR.filterMap (fun i => ws[i]?) ++ w1 ph)[i]?) = (ws2 ph).map some) (hnp : va_nd perm = true)
    (kk : ∀ (ph : Nat → Nat) (H1 : Heap) (locs1 : List Loc), va_P D vwCl (ws2 ph) H1 → va_D A0 (ws2 ph) → va_S A0 H0 H1 locs1 → W p l e R s m args below meth c H1 locs1 (cells + mc) (slots + ms) Q (F0 m (pc + 3) ls (.int rv :: rest))) : W p l e R s m args below meth c H locs cells slots Q (F0 m pc ls st0) := by
  have hF := va_free hD hS hA isC hC
  refine va_calli hr hS (fun q _ h => hF q h) hF (fun r ph t H1 locs1 ht hvm hw hB hz hk hS1 => ?_)
  obtain ⟨hP1, hD1⟩ := hB
  rw [ht] at hP1
  have hw : r = rv := hw
  subst hw
  obtain ⟨a, b⟩ := kb_back hP hD isC isR perm hC hRr hn hdis (hq ph) hnp hk hF hP1 hD1
  exact kk ph H1 locs1 a b hS1
theorem kb_Fcl {rv : Int64} (hr : va_Run p l e R s m args below meth c H locs cells slots mc ms (F0 m pc ls st0) rest (va_Ql (fun r (_ : Nat → Nat) => r = rv) (fun ph => kb_B D (va_A wc H.size) (w1 ph) ()) (va_A wc H.size) a) (va_A wc H.size)) (hP : va_P D vwCl ws H) (hD : va_D A0 ws) (hS : va_S A0 H0 H locs) (hA : ∀ q, H0.size ≤ q → A0 q) (isC isR perm : List Nat) (hC : isC.map (fun i => ws[i]?) = wc.map some) (hRr : isR.all (fun i => decide (i < ws.length)) = true) (hn : va_nd isR = true) (hdis : ∀ i ∈ isR, i ∉ isC) (hq : ∀ ph, perm.map (fun i => (isR.filterMap (fun i => ws[i]?) ++ w1 ph)[i]?) = (ws2 ph).map some) (hnp : va_nd perm = true)
    (kk : ∀ (ph : Nat → Nat) (H1 : Heap) (locs1 : List Loc), va_P D vwCl (ws2 ph) H1 → va_D A0 (ws2 ph) → va_S A0 H0 H1 locs1 → W p l e R s m args below meth c H1 locs1 (cells + mc) (slots + ms) Q (F0 m (pc + 3) ls (.long rv :: rest))) : W p l e R s m args below meth c H locs cells slots Q (F0 m pc ls st0) := by
  have hF := va_free hD hS hA isC hC
  refine va_calll hr hS (fun q _ h => hF q h) hF (fun r ph t H1 locs1 ht hvm hw hB hz hk hS1 => ?_)
  obtain ⟨hP1, hD1⟩ := hB
  rw [ht] at hP1
  have hw : r = rv := hw
  subst hw
  obtain ⟨a, b⟩ := kb_back hP hD isC isR perm hC hRr hn hdis (hq ph) hnp hk hF hP1 hD1
  exact kk ph H1 locs1 a b hS1
theorem kb_Fcv (hr : va_Run p l e R s m args below meth c H locs cells slots mc ms (F0 m pc ls st0) rest (va_Qv (fun (_ : Nat → Nat) => True) (fun ph => kb_B D (va_A wc H.size) (w1 ph) ()) (va_A wc H.size) a) (va_A wc H.size)) (hP : va_P D vwCl ws H) (hD : va_D A0 ws) (hS : va_S A0 H0 H locs) (hA : ∀ q, H0.size ≤ q → A0 q) (isC isR perm : List Nat) (hC : isC.map (fun i => ws[i]?) = wc.map some) (hRr : isR.all (fun i => decide (i < ws.length)) = true) (hn : va_nd isR = true) (hdis : ∀ i ∈ isR, i ∉ isC) (hq : ∀ ph, perm.map (fun i => (isR.filterMap (fun i => ws[i]?) ++ w1 ph)[i]?) = (ws2 ph).map some) (hnp : va_nd perm = true)
    (kk : ∀ (ph : Nat → Nat) (H1 : Heap) (locs1 : List Loc), va_P D vwCl (ws2 ph) H1 → va_D A0 (ws2 ph) → va_S A0 H0 H1 locs1 → W p l e R s m args below meth c H1 locs1 (cells + mc) (slots + ms) Q (F0 m (pc + 3) ls rest)) : W p l e R s m args below meth c H locs cells slots Q (F0 m pc ls st0) := by
  have hF := va_free hD hS hA isC hC
  refine va_callv hr hS (fun q _ h => hF q h) hF (fun ph t H1 locs1 ht hvm hw hB hz hk hS1 => ?_)
  obtain ⟨hP1, hD1⟩ := hB
  rw [ht] at hP1
  obtain ⟨a, b⟩ := kb_back hP hD isC isR perm hC hRr hn hdis (hq ph) hnp hk hF hP1 hD1
  exact kk ph H1 locs1 a b hS1
end KF

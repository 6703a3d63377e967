/-! dealt: the class's hands and the reference's are the same hands (tables; the last one costs 45 s) -/
def pu_D0 (l : List Nat) : DealsT := (0, fun _ => 0, fun _ => 0, fun j => nI (l.getD j 0))
noncomputable def pu_nx (n : Nat) (l : List Nat) : List Nat := match f_X1_dealNext (pu_D0 l) (nI n) with
  | some d => (List.range 6).map (fun j => (de_hand d j).toNatClampNeg)
  | none => []
def pu_cd (l : List Nat) : Nat := l.foldl (fun a x => 8 * a + x) 0
noncomputable def pu_seq (n : Nat) : Nat → List Nat → List Nat
  | 0, _ => []
  | t + 1, l => pu_cd (l.take n) :: pu_seq n t (pu_nx n l)
theorem pu_tab1 : (pu_seq 1 1 (List.range 6)).isPerm ((List.range 1).map (fun k => pu_cd (pu_sg 1 k (List.range 1)))) = true := by decide +kernel
theorem pu_tab2 : (pu_seq 2 2 (List.range 6)).isPerm ((List.range 2).map (fun k => pu_cd (pu_sg 2 k (List.range 2)))) = true := by decide +kernel
theorem pu_tab3 : (pu_seq 3 6 (List.range 6)).isPerm ((List.range 6).map (fun k => pu_cd (pu_sg 3 k (List.range 3)))) = true := by decide +kernel
theorem pu_tab4 : (pu_seq 4 24 (List.range 6)).isPerm ((List.range 24).map (fun k => pu_cd (pu_sg 4 k (List.range 4)))) = true := by decide +kernel
theorem pu_tab5 : (pu_seq 5 120 (List.range 6)).isPerm ((List.range 120).map (fun k => pu_cd (pu_sg 5 k (List.range 5)))) = true := by decide +kernel
theorem pu_tab6 : (pu_seq 6 720 (List.range 6)).isPerm ((List.range 720).map (fun k => pu_cd (pu_sg 6 k (List.range 6)))) = true := by decide +kernel
/-- each of those hands is there, of places below n -/
noncomputable def pu_ok (n : Nat) : Nat → List Nat → Bool
  | 0, _ => true
  | t + 1, l => (match f_X1_dealNext (pu_D0 l) (nI n) with
    | some d => (List.range n).all (fun j => decide ((de_hand d j).toNatClampNeg < n) && decide (de_hand d j = nI (de_hand d j).toNatClampNeg))
    | none => false) && pu_ok n t (pu_nx n l)
theorem pu_ok1 : pu_ok 1 1 (List.range 6) = true := by decide +kernel
theorem pu_ok2 : pu_ok 2 2 (List.range 6) = true := by decide +kernel
theorem pu_ok3 : pu_ok 3 6 (List.range 6) = true := by decide +kernel
theorem pu_ok4 : pu_ok 4 24 (List.range 6) = true := by decide +kernel
theorem pu_ok5 : pu_ok 5 120 (List.range 6) = true := by decide +kernel
theorem pu_ok6 : pu_ok 6 720 (List.range 6) = true := by decide +kernel

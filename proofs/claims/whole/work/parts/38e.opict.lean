def kb_r4 (a b c d : Nat) : Nat → Option Nat
  | 0 => some a
  | 1 => some b
  | 2 => some c
  | _ => some d
abbrev Rides4T : Type := Int32
def r4_none (x : Rides4T) : Int32 := x
def r4_set_none (x : Rides4T) (v : Int32) : Rides4T := (v)
abbrev w_Rides4 (dA : Nat → ClassId) (a : Nat → Nat) (e0 : Nat) (e1 : Nat) (e2 : Nat) (e3 : Nat) (x : Rides4T) : va_W := [(a 0, .inl (dA 4, 4, .inr (.inr (.inr (.inr (kb_r4 e0 e1 e2 e3))))))]

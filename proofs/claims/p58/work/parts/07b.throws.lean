/-! answers of methods that may throw: for the mirrors alone -/
def xn_ (c : Nat) : String := match c with
  | 0 => "java/lang/IndexOutOfBoundsException"
  | _ => "java/lang/IllegalArgumentException"
def tb_ {α β : Type} (v : α ⊕ Nat) (f : α → Option β) (g : Nat → Option β) : Option β := match v with
  | .inl x => f x
  | .inr c => g c
theorem tb_i {α β : Type} {v : α ⊕ Nat} {f : α → Option β} {g : Nat → Option β} {x : α} {y : β} (h : v = .inl x) (hm : tb_ v f g = some y) : f x = some y := by subst h; exact hm
theorem tb_e {α β : Type} {v : α ⊕ Nat} {f : α → Option β} {g : Nat → Option β} {x : Nat} {y : β} (h : v = .inr x) (hm : tb_ v f g = some y) : g x = some y := by subst h; exact hm
def sw_ (w : Nat) : Bool := Nat.blt w 37
def sl_ (w : Nat) : Int32 := Int32.ofNat (sb_y w).length
def sch_ (w : Nat) (i : Int32) : Int32 := (sb_y w).getD (ix_ i) 0
def n64_ (r : UInt64) : Bool := decide (r &&& 0x7fffffffffffffff ≤ 0x7ff0000000000000)
theorem n64_x {r : UInt64} (h : n64_ r = true) : vf_n64 r := by
  unfold vf_n64
  exact of_decide_eq_true h
def n32_ (r : UInt32) : Bool := decide (r &&& 0x7fffffff ≤ 0x7f800000)
theorem n32_x {r : UInt32} (h : n32_ r = true) : vf_n32 r := by
  unfold vf_n32
  exact of_decide_eq_true h

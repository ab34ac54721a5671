/-! The model's looks: order, shelves, first in a machine, lateness, fee. -/
def sPr (S : Nat → Int32) : Int32 := S 104
def mFee0 (S : Nat → Int32) (p : Nat) : Int32 := if S (9 * p + 5) = 1 then S 104 * S (9 * p + 2) + S 104 * S (9 * p + 2) / 2 else S 104 * S (9 * p + 2)
def mFee (S : Nat → Int32) (p : Nat) : Int32 := if sLate S p = true then mFee0 S p - mFee0 S p / 4 else mFee0 S p
section
variable {mi : Nat → Nat → Nat → Int32} {ml : Nat → Nat → Nat → Int64} {ex p q : Nat}
theorem mShelf_lt {S : Nat → Int32} {x : Int32} : ∀ q, mShelf S x = some q → q < 10000 := fun q hq => by have := (fo_sel_lt hq).1; omega
end

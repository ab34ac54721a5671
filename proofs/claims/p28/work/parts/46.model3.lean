/-! The model's wouldLoad. -/
def mWL (S : Nat → Int32) (L : Nat → Nat) (n : Nat) (room : Int32) : Int32 := if oI (wlFirst S room) = -1 then 0 else (fo (wlG S L (oI (wlFirst S room))) n (0, -1, room)).1
section
variable {mi : Nat → Nat → Nat → Int32} {ml : Nat → Nat → Nat → Int64} {ex p : Nat}
theorem mRanked_lt {S : Nat → Int32} {x : Int32} : ∀ q, mRanked S x = some q → q < 10 := fun q hq => (fo_sel_lt hq).1
end

/-! 98v: read: a text as an automaton (by wip/whole/mk98v.py) -/
abbrev txT : Type := List (Nat × Nat)
/-- awaited, open, products, the cycle so far, its figures, what is wrong -/
abbrev txS : Type := Nat × txT × List (List Nat) × List Nat × Nat × Option txT
def SQ : List (List Nat) := [[], [nat_lit 1], [nat_lit 2], [nat_lit 3], [nat_lit 4], [nat_lit 5], [nat_lit 1, nat_lit 2], [nat_lit 1, nat_lit 3], [nat_lit 1, nat_lit 4], [nat_lit 1, nat_lit 5], [nat_lit 2, nat_lit 1], [nat_lit 2, nat_lit 3], [nat_lit 2, nat_lit 4], [nat_lit 2, nat_lit 5], [nat_lit 3, nat_lit 1], [nat_lit 3, nat_lit 2], [nat_lit 3, nat_lit 4], [nat_lit 3, nat_lit 5], [nat_lit 4, nat_lit 1], [nat_lit 4, nat_lit 2], [nat_lit 4, nat_lit 3], [nat_lit 4, nat_lit 5], [nat_lit 5, nat_lit 1], [nat_lit 5, nat_lit 2], [nat_lit 5, nat_lit 3], [nat_lit 5, nat_lit 4], [nat_lit 1, nat_lit 2, nat_lit 3], [nat_lit 1, nat_lit 2, nat_lit 4], [nat_lit 1, nat_lit 2, nat_lit 5], [nat_lit 1, nat_lit 3, nat_lit 2], [nat_lit 1, nat_lit 3, nat_lit 4], [nat_lit 1, nat_lit 3, nat_lit 5], [nat_lit 1, nat_lit 4, nat_lit 2], [nat_lit 1, nat_lit 4, nat_lit 3], [nat_lit 1, nat_lit 4, nat_lit 5], [nat_lit 1, nat_lit 5, nat_lit 2], [nat_lit 1, nat_lit 5, nat_lit 3], [nat_lit 1, nat_lit 5, nat_lit 4], [nat_lit 2, nat_lit 1, nat_lit 3], [nat_lit 2, nat_lit 1, nat_lit 4], [nat_lit 2, nat_lit 1, nat_lit 5], [nat_lit 2, nat_lit 3, nat_lit 1], [nat_lit 2, nat_lit 3, nat_lit 4], [nat_lit 2, nat_lit 3, nat_lit 5], [nat_lit 2, nat_lit 4, nat_lit 1], [nat_lit 2, nat_lit 4, nat_lit 3], [nat_lit 2, nat_lit 4, nat_lit 5], [nat_lit 2, nat_lit 5, nat_lit 1], [nat_lit 2, nat_lit 5, nat_lit 3], [nat_lit 2, nat_lit 5, nat_lit 4], [nat_lit 3, nat_lit 1, nat_lit 2], [nat_lit 3, nat_lit 1, nat_lit 4], [nat_lit 3, nat_lit 1, nat_lit 5], [nat_lit 3, nat_lit 2, nat_lit 1], [nat_lit 3, nat_lit 2, nat_lit 4], [nat_lit 3, nat_lit 2, nat_lit 5], [nat_lit 3, nat_lit 4, nat_lit 1], [nat_lit 3, nat_lit 4, nat_lit 2], [nat_lit 3, nat_lit 4, nat_lit 5], [nat_lit 3, nat_lit 5, nat_lit 1], [nat_lit 3, nat_lit 5, nat_lit 2], [nat_lit 3, nat_lit 5, nat_lit 4], [nat_lit 4, nat_lit 1, nat_lit 2], [nat_lit 4, nat_lit 1, nat_lit 3], [nat_lit 4, nat_lit 1, nat_lit 5], [nat_lit 4, nat_lit 2, nat_lit 1], [nat_lit 4, nat_lit 2, nat_lit 3], [nat_lit 4, nat_lit 2, nat_lit 5], [nat_lit 4, nat_lit 3, nat_lit 1], [nat_lit 4, nat_lit 3, nat_lit 2], [nat_lit 4, nat_lit 3, nat_lit 5], [nat_lit 4, nat_lit 5, nat_lit 1], [nat_lit 4, nat_lit 5, nat_lit 2], [nat_lit 4, nat_lit 5, nat_lit 3], [nat_lit 5, nat_lit 1, nat_lit 2], [nat_lit 5, nat_lit 1, nat_lit 3], [nat_lit 5, nat_lit 1, nat_lit 4], [nat_lit 5, nat_lit 2, nat_lit 1], [nat_lit 5, nat_lit 2, nat_lit 3], [nat_lit 5, nat_lit 2, nat_lit 4], [nat_lit 5, nat_lit 3, nat_lit 1], [nat_lit 5, nat_lit 3, nat_lit 2], [nat_lit 5, nat_lit 3, nat_lit 4], [nat_lit 5, nat_lit 4, nat_lit 1], [nat_lit 5, nat_lit 4, nat_lit 2], [nat_lit 5, nat_lit 4, nat_lit 3], [nat_lit 1, nat_lit 2, nat_lit 3, nat_lit 4], [nat_lit 1, nat_lit 2, nat_lit 3, nat_lit 5], [nat_lit 1, nat_lit 2, nat_lit 4, nat_lit 3], [nat_lit 1, nat_lit 2, nat_lit 4, nat_lit 5], [nat_lit 1, nat_lit 2, nat_lit 5, nat_lit 3], [nat_lit 1, nat_lit 2, nat_lit 5, nat_lit 4], [nat_lit 1, nat_lit 3, nat_lit 2, nat_lit 4], [nat_lit 1, nat_lit 3, nat_lit 2, nat_lit 5], [nat_lit 1, nat_lit 3, nat_lit 4, nat_lit 2], [nat_lit 1, nat_lit 3, nat_lit 4, nat_lit 5], [nat_lit 1, nat_lit 3, nat_lit 5, nat_lit 2], [nat_lit 1, nat_lit 3, nat_lit 5, nat_lit 4], [nat_lit 1, nat_lit 4, nat_lit 2, nat_lit 3], [nat_lit 1, nat_lit 4, nat_lit 2, nat_lit 5], [nat_lit 1, nat_lit 4, nat_lit 3, nat_lit 2], [nat_lit 1, nat_lit 4, nat_lit 3, nat_lit 5], [nat_lit 1, nat_lit 4, nat_lit 5, nat_lit 2], [nat_lit 1, nat_lit 4, nat_lit 5, nat_lit 3], [nat_lit 1, nat_lit 5, nat_lit 2, nat_lit 3], [nat_lit 1, nat_lit 5, nat_lit 2, nat_lit 4], [nat_lit 1, nat_lit 5, nat_lit 3, nat_lit 2], [nat_lit 1, nat_lit 5, nat_lit 3, nat_lit 4], [nat_lit 1, nat_lit 5, nat_lit 4, nat_lit 2], [nat_lit 1, nat_lit 5, nat_lit 4, nat_lit 3], [nat_lit 2, nat_lit 1, nat_lit 3, nat_lit 4], [nat_lit 2, nat_lit 1, nat_lit 3, nat_lit 5], [nat_lit 2, nat_lit 1, nat_lit 4, nat_lit 3], [nat_lit 2, nat_lit 1, nat_lit 4, nat_lit 5], [nat_lit 2, nat_lit 1, nat_lit 5, nat_lit 3], [nat_lit 2, nat_lit 1, nat_lit 5, nat_lit 4], [nat_lit 2, nat_lit 3, nat_lit 1, nat_lit 4], [nat_lit 2, nat_lit 3, nat_lit 1, nat_lit 5], [nat_lit 2, nat_lit 3, nat_lit 4, nat_lit 1], [nat_lit 2, nat_lit 3, nat_lit 4, nat_lit 5], [nat_lit 2, nat_lit 3, nat_lit 5, nat_lit 1], [nat_lit 2, nat_lit 3, nat_lit 5, nat_lit 4], [nat_lit 2, nat_lit 4, nat_lit 1, nat_lit 3], [nat_lit 2, nat_lit 4, nat_lit 1, nat_lit 5], [nat_lit 2, nat_lit 4, nat_lit 3, nat_lit 1], [nat_lit 2, nat_lit 4, nat_lit 3, nat_lit 5], [nat_lit 2, nat_lit 4, nat_lit 5, nat_lit 1], [nat_lit 2, nat_lit 4, nat_lit 5, nat_lit 3], [nat_lit 2, nat_lit 5, nat_lit 1, nat_lit 3], [nat_lit 2, nat_lit 5, nat_lit 1, nat_lit 4], [nat_lit 2, nat_lit 5, nat_lit 3, nat_lit 1], [nat_lit 2, nat_lit 5, nat_lit 3, nat_lit 4], [nat_lit 2, nat_lit 5, nat_lit 4, nat_lit 1], [nat_lit 2, nat_lit 5, nat_lit 4, nat_lit 3], [nat_lit 3, nat_lit 1, nat_lit 2, nat_lit 4], [nat_lit 3, nat_lit 1, nat_lit 2, nat_lit 5], [nat_lit 3, nat_lit 1, nat_lit 4, nat_lit 2], [nat_lit 3, nat_lit 1, nat_lit 4, nat_lit 5], [nat_lit 3, nat_lit 1, nat_lit 5, nat_lit 2], [nat_lit 3, nat_lit 1, nat_lit 5, nat_lit 4], [nat_lit 3, nat_lit 2, nat_lit 1, nat_lit 4], [nat_lit 3, nat_lit 2, nat_lit 1, nat_lit 5], [nat_lit 3, nat_lit 2, nat_lit 4, nat_lit 1], [nat_lit 3, nat_lit 2, nat_lit 4, nat_lit 5], [nat_lit 3, nat_lit 2, nat_lit 5, nat_lit 1], [nat_lit 3, nat_lit 2, nat_lit 5, nat_lit 4], [nat_lit 3, nat_lit 4, nat_lit 1, nat_lit 2], [nat_lit 3, nat_lit 4, nat_lit 1, nat_lit 5], [nat_lit 3, nat_lit 4, nat_lit 2, nat_lit 1], [nat_lit 3, nat_lit 4, nat_lit 2, nat_lit 5], [nat_lit 3, nat_lit 4, nat_lit 5, nat_lit 1], [nat_lit 3, nat_lit 4, nat_lit 5, nat_lit 2], [nat_lit 3, nat_lit 5, nat_lit 1, nat_lit 2], [nat_lit 3, nat_lit 5, nat_lit 1, nat_lit 4], [nat_lit 3, nat_lit 5, nat_lit 2, nat_lit 1], [nat_lit 3, nat_lit 5, nat_lit 2, nat_lit 4], [nat_lit 3, nat_lit 5, nat_lit 4, nat_lit 1], [nat_lit 3, nat_lit 5, nat_lit 4, nat_lit 2], [nat_lit 4, nat_lit 1, nat_lit 2, nat_lit 3], [nat_lit 4, nat_lit 1, nat_lit 2, nat_lit 5], [nat_lit 4, nat_lit 1, nat_lit 3, nat_lit 2], [nat_lit 4, nat_lit 1, nat_lit 3, nat_lit 5], [nat_lit 4, nat_lit 1, nat_lit 5, nat_lit 2], [nat_lit 4, nat_lit 1, nat_lit 5, nat_lit 3], [nat_lit 4, nat_lit 2, nat_lit 1, nat_lit 3], [nat_lit 4, nat_lit 2, nat_lit 1, nat_lit 5], [nat_lit 4, nat_lit 2, nat_lit 3, nat_lit 1], [nat_lit 4, nat_lit 2, nat_lit 3, nat_lit 5], [nat_lit 4, nat_lit 2, nat_lit 5, nat_lit 1], [nat_lit 4, nat_lit 2, nat_lit 5, nat_lit 3], [nat_lit 4, nat_lit 3, nat_lit 1, nat_lit 2], [nat_lit 4, nat_lit 3, nat_lit 1, nat_lit 5], [nat_lit 4, nat_lit 3, nat_lit 2, nat_lit 1], [nat_lit 4, nat_lit 3, nat_lit 2, nat_lit 5], [nat_lit 4, nat_lit 3, nat_lit 5, nat_lit 1], [nat_lit 4, nat_lit 3, nat_lit 5, nat_lit 2], [nat_lit 4, nat_lit 5, nat_lit 1, nat_lit 2], [nat_lit 4, nat_lit 5, nat_lit 1, nat_lit 3], [nat_lit 4, nat_lit 5, nat_lit 2, nat_lit 1], [nat_lit 4, nat_lit 5, nat_lit 2, nat_lit 3], [nat_lit 4, nat_lit 5, nat_lit 3, nat_lit 1], [nat_lit 4, nat_lit 5, nat_lit 3, nat_lit 2], [nat_lit 5, nat_lit 1, nat_lit 2, nat_lit 3], [nat_lit 5, nat_lit 1, nat_lit 2, nat_lit 4], [nat_lit 5, nat_lit 1, nat_lit 3, nat_lit 2], [nat_lit 5, nat_lit 1, nat_lit 3, nat_lit 4], [nat_lit 5, nat_lit 1, nat_lit 4, nat_lit 2], [nat_lit 5, nat_lit 1, nat_lit 4, nat_lit 3], [nat_lit 5, nat_lit 2, nat_lit 1, nat_lit 3], [nat_lit 5, nat_lit 2, nat_lit 1, nat_lit 4], [nat_lit 5, nat_lit 2, nat_lit 3, nat_lit 1], [nat_lit 5, nat_lit 2, nat_lit 3, nat_lit 4], [nat_lit 5, nat_lit 2, nat_lit 4, nat_lit 1], [nat_lit 5, nat_lit 2, nat_lit 4, nat_lit 3], [nat_lit 5, nat_lit 3, nat_lit 1, nat_lit 2], [nat_lit 5, nat_lit 3, nat_lit 1, nat_lit 4], [nat_lit 5, nat_lit 3, nat_lit 2, nat_lit 1], [nat_lit 5, nat_lit 3, nat_lit 2, nat_lit 4], [nat_lit 5, nat_lit 3, nat_lit 4, nat_lit 1], [nat_lit 5, nat_lit 3, nat_lit 4, nat_lit 2], [nat_lit 5, nat_lit 4, nat_lit 1, nat_lit 2], [nat_lit 5, nat_lit 4, nat_lit 1, nat_lit 3], [nat_lit 5, nat_lit 4, nat_lit 2, nat_lit 1], [nat_lit 5, nat_lit 4, nat_lit 2, nat_lit 3], [nat_lit 5, nat_lit 4, nat_lit 3, nat_lit 1], [nat_lit 5, nat_lit 4, nat_lit 3, nat_lit 2], [nat_lit 1, nat_lit 2, nat_lit 3, nat_lit 4, nat_lit 5], [nat_lit 1, nat_lit 2, nat_lit 3, nat_lit 5, nat_lit 4], [nat_lit 1, nat_lit 2, nat_lit 4, nat_lit 3, nat_lit 5], [nat_lit 1, nat_lit 2, nat_lit 4, nat_lit 5, nat_lit 3], [nat_lit 1, nat_lit 2, nat_lit 5, nat_lit 3, nat_lit 4], [nat_lit 1, nat_lit 2, nat_lit 5, nat_lit 4, nat_lit 3], [nat_lit 1, nat_lit 3, nat_lit 2, nat_lit 4, nat_lit 5], [nat_lit 1, nat_lit 3, nat_lit 2, nat_lit 5, nat_lit 4], [nat_lit 1, nat_lit 3, nat_lit 4, nat_lit 2, nat_lit 5], [nat_lit 1, nat_lit 3, nat_lit 4, nat_lit 5, nat_lit 2], [nat_lit 1, nat_lit 3, nat_lit 5, nat_lit 2, nat_lit 4], [nat_lit 1, nat_lit 3, nat_lit 5, nat_lit 4, nat_lit 2], [nat_lit 1, nat_lit 4, nat_lit 2, nat_lit 3, nat_lit 5], [nat_lit 1, nat_lit 4, nat_lit 2, nat_lit 5, nat_lit 3], [nat_lit 1, nat_lit 4, nat_lit 3, nat_lit 2, nat_lit 5], [nat_lit 1, nat_lit 4, nat_lit 3, nat_lit 5, nat_lit 2], [nat_lit 1, nat_lit 4, nat_lit 5, nat_lit 2, nat_lit 3], [nat_lit 1, nat_lit 4, nat_lit 5, nat_lit 3, nat_lit 2], [nat_lit 1, nat_lit 5, nat_lit 2, nat_lit 3, nat_lit 4], [nat_lit 1, nat_lit 5, nat_lit 2, nat_lit 4, nat_lit 3], [nat_lit 1, nat_lit 5, nat_lit 3, nat_lit 2, nat_lit 4], [nat_lit 1, nat_lit 5, nat_lit 3, nat_lit 4, nat_lit 2], [nat_lit 1, nat_lit 5, nat_lit 4, nat_lit 2, nat_lit 3], [nat_lit 1, nat_lit 5, nat_lit 4, nat_lit 3, nat_lit 2], [nat_lit 2, nat_lit 1, nat_lit 3, nat_lit 4, nat_lit 5], [nat_lit 2, nat_lit 1, nat_lit 3, nat_lit 5, nat_lit 4], [nat_lit 2, nat_lit 1, nat_lit 4, nat_lit 3, nat_lit 5], [nat_lit 2, nat_lit 1, nat_lit 4, nat_lit 5, nat_lit 3], [nat_lit 2, nat_lit 1, nat_lit 5, nat_lit 3, nat_lit 4], [nat_lit 2, nat_lit 1, nat_lit 5, nat_lit 4, nat_lit 3], [nat_lit 2, nat_lit 3, nat_lit 1, nat_lit 4, nat_lit 5], [nat_lit 2, nat_lit 3, nat_lit 1, nat_lit 5, nat_lit 4], [nat_lit 2, nat_lit 3, nat_lit 4, nat_lit 1, nat_lit 5], [nat_lit 2, nat_lit 3, nat_lit 4, nat_lit 5, nat_lit 1], [nat_lit 2, nat_lit 3, nat_lit 5, nat_lit 1, nat_lit 4], [nat_lit 2, nat_lit 3, nat_lit 5, nat_lit 4, nat_lit 1], [nat_lit 2, nat_lit 4, nat_lit 1, nat_lit 3, nat_lit 5], [nat_lit 2, nat_lit 4, nat_lit 1, nat_lit 5, nat_lit 3], [nat_lit 2, nat_lit 4, nat_lit 3, nat_lit 1, nat_lit 5], [nat_lit 2, nat_lit 4, nat_lit 3, nat_lit 5, nat_lit 1], [nat_lit 2, nat_lit 4, nat_lit 5, nat_lit 1, nat_lit 3], [nat_lit 2, nat_lit 4, nat_lit 5, nat_lit 3, nat_lit 1], [nat_lit 2, nat_lit 5, nat_lit 1, nat_lit 3, nat_lit 4], [nat_lit 2, nat_lit 5, nat_lit 1, nat_lit 4, nat_lit 3], [nat_lit 2, nat_lit 5, nat_lit 3, nat_lit 1, nat_lit 4], [nat_lit 2, nat_lit 5, nat_lit 3, nat_lit 4, nat_lit 1], [nat_lit 2, nat_lit 5, nat_lit 4, nat_lit 1, nat_lit 3], [nat_lit 2, nat_lit 5, nat_lit 4, nat_lit 3, nat_lit 1], [nat_lit 3, nat_lit 1, nat_lit 2, nat_lit 4, nat_lit 5], [nat_lit 3, nat_lit 1, nat_lit 2, nat_lit 5, nat_lit 4], [nat_lit 3, nat_lit 1, nat_lit 4, nat_lit 2, nat_lit 5], [nat_lit 3, nat_lit 1, nat_lit 4, nat_lit 5, nat_lit 2], [nat_lit 3, nat_lit 1, nat_lit 5, nat_lit 2, nat_lit 4], [nat_lit 3, nat_lit 1, nat_lit 5, nat_lit 4, nat_lit 2], [nat_lit 3, nat_lit 2, nat_lit 1, nat_lit 4, nat_lit 5], [nat_lit 3, nat_lit 2, nat_lit 1, nat_lit 5, nat_lit 4], [nat_lit 3, nat_lit 2, nat_lit 4, nat_lit 1, nat_lit 5], [nat_lit 3, nat_lit 2, nat_lit 4, nat_lit 5, nat_lit 1], [nat_lit 3, nat_lit 2, nat_lit 5, nat_lit 1, nat_lit 4], [nat_lit 3, nat_lit 2, nat_lit 5, nat_lit 4, nat_lit 1], [nat_lit 3, nat_lit 4, nat_lit 1, nat_lit 2, nat_lit 5], [nat_lit 3, nat_lit 4, nat_lit 1, nat_lit 5, nat_lit 2], [nat_lit 3, nat_lit 4, nat_lit 2, nat_lit 1, nat_lit 5], [nat_lit 3, nat_lit 4, nat_lit 2, nat_lit 5, nat_lit 1], [nat_lit 3, nat_lit 4, nat_lit 5, nat_lit 1, nat_lit 2], [nat_lit 3, nat_lit 4, nat_lit 5, nat_lit 2, nat_lit 1], [nat_lit 3, nat_lit 5, nat_lit 1, nat_lit 2, nat_lit 4], [nat_lit 3, nat_lit 5, nat_lit 1, nat_lit 4, nat_lit 2], [nat_lit 3, nat_lit 5, nat_lit 2, nat_lit 1, nat_lit 4], [nat_lit 3, nat_lit 5, nat_lit 2, nat_lit 4, nat_lit 1], [nat_lit 3, nat_lit 5, nat_lit 4, nat_lit 1, nat_lit 2], [nat_lit 3, nat_lit 5, nat_lit 4, nat_lit 2, nat_lit 1], [nat_lit 4, nat_lit 1, nat_lit 2, nat_lit 3, nat_lit 5], [nat_lit 4, nat_lit 1, nat_lit 2, nat_lit 5, nat_lit 3], [nat_lit 4, nat_lit 1, nat_lit 3, nat_lit 2, nat_lit 5], [nat_lit 4, nat_lit 1, nat_lit 3, nat_lit 5, nat_lit 2], [nat_lit 4, nat_lit 1, nat_lit 5, nat_lit 2, nat_lit 3], [nat_lit 4, nat_lit 1, nat_lit 5, nat_lit 3, nat_lit 2], [nat_lit 4, nat_lit 2, nat_lit 1, nat_lit 3, nat_lit 5], [nat_lit 4, nat_lit 2, nat_lit 1, nat_lit 5, nat_lit 3], [nat_lit 4, nat_lit 2, nat_lit 3, nat_lit 1, nat_lit 5], [nat_lit 4, nat_lit 2, nat_lit 3, nat_lit 5, nat_lit 1], [nat_lit 4, nat_lit 2, nat_lit 5, nat_lit 1, nat_lit 3], [nat_lit 4, nat_lit 2, nat_lit 5, nat_lit 3, nat_lit 1], [nat_lit 4, nat_lit 3, nat_lit 1, nat_lit 2, nat_lit 5], [nat_lit 4, nat_lit 3, nat_lit 1, nat_lit 5, nat_lit 2], [nat_lit 4, nat_lit 3, nat_lit 2, nat_lit 1, nat_lit 5], [nat_lit 4, nat_lit 3, nat_lit 2, nat_lit 5, nat_lit 1], [nat_lit 4, nat_lit 3, nat_lit 5, nat_lit 1, nat_lit 2], [nat_lit 4, nat_lit 3, nat_lit 5, nat_lit 2, nat_lit 1], [nat_lit 4, nat_lit 5, nat_lit 1, nat_lit 2, nat_lit 3], [nat_lit 4, nat_lit 5, nat_lit 1, nat_lit 3, nat_lit 2], [nat_lit 4, nat_lit 5, nat_lit 2, nat_lit 1, nat_lit 3], [nat_lit 4, nat_lit 5, nat_lit 2, nat_lit 3, nat_lit 1], [nat_lit 4, nat_lit 5, nat_lit 3, nat_lit 1, nat_lit 2], [nat_lit 4, nat_lit 5, nat_lit 3, nat_lit 2, nat_lit 1], [nat_lit 5, nat_lit 1, nat_lit 2, nat_lit 3, nat_lit 4], [nat_lit 5, nat_lit 1, nat_lit 2, nat_lit 4, nat_lit 3], [nat_lit 5, nat_lit 1, nat_lit 3, nat_lit 2, nat_lit 4], [nat_lit 5, nat_lit 1, nat_lit 3, nat_lit 4, nat_lit 2], [nat_lit 5, nat_lit 1, nat_lit 4, nat_lit 2, nat_lit 3], [nat_lit 5, nat_lit 1, nat_lit 4, nat_lit 3, nat_lit 2], [nat_lit 5, nat_lit 2, nat_lit 1, nat_lit 3, nat_lit 4], [nat_lit 5, nat_lit 2, nat_lit 1, nat_lit 4, nat_lit 3], [nat_lit 5, nat_lit 2, nat_lit 3, nat_lit 1, nat_lit 4], [nat_lit 5, nat_lit 2, nat_lit 3, nat_lit 4, nat_lit 1], [nat_lit 5, nat_lit 2, nat_lit 4, nat_lit 1, nat_lit 3], [nat_lit 5, nat_lit 2, nat_lit 4, nat_lit 3, nat_lit 1], [nat_lit 5, nat_lit 3, nat_lit 1, nat_lit 2, nat_lit 4], [nat_lit 5, nat_lit 3, nat_lit 1, nat_lit 4, nat_lit 2], [nat_lit 5, nat_lit 3, nat_lit 2, nat_lit 1, nat_lit 4], [nat_lit 5, nat_lit 3, nat_lit 2, nat_lit 4, nat_lit 1], [nat_lit 5, nat_lit 3, nat_lit 4, nat_lit 1, nat_lit 2], [nat_lit 5, nat_lit 3, nat_lit 4, nat_lit 2, nat_lit 1], [nat_lit 5, nat_lit 4, nat_lit 1, nat_lit 2, nat_lit 3], [nat_lit 5, nat_lit 4, nat_lit 1, nat_lit 3, nat_lit 2], [nat_lit 5, nat_lit 4, nat_lit 2, nat_lit 1, nat_lit 3], [nat_lit 5, nat_lit 4, nat_lit 2, nat_lit 3, nat_lit 1], [nat_lit 5, nat_lit 4, nat_lit 3, nat_lit 1, nat_lit 2], [nat_lit 5, nat_lit 4, nat_lit 3, nat_lit 2, nat_lit 1]]
noncomputable def txI : List Nat := [nat_lit 1, nat_lit 2, nat_lit 3, nat_lit 4, nat_lit 5]
noncomputable def nxC (s : List Nat) (i e : Nat) : Nat := List.rec (motive := fun _ => Nat) i (fun a t ih => Bool.rec (motive := fun _ => Nat) ih (List.rec (motive := fun _ => Nat) e (fun b _ _ => b) t) (Nat.beq a i)) s
noncomputable def hdC (s : List Nat) : Nat := List.rec (motive := fun _ => Nat) (nat_lit 0) (fun a _ _ => a) s
noncomputable def laC (s : List Nat) : Nat := List.rec (motive := fun _ => Nat) (nat_lit 0) (fun a t ih => List.rec (motive := fun _ => Nat) a (fun _ _ _ => ih) t) s
noncomputable def mkC (s : List Nat) : Nat := List.rec (motive := fun _ => Nat) (nat_lit 0) (fun a _ ih => Nat.add (Nat.pow (nat_lit 2) a) ih) s
noncomputable def txC (s : List Nat) : List Nat := rMap (fun i => nxC s i (hdC s)) txI
noncomputable def inLL (x : List Nat) (l : List (List Nat)) : Bool := List.rec (motive := fun _ => Bool) false (fun a _ ih => Bool.or (eqL Nat.beq x a) ih) l
theorem inLL_ok {x : List Nat} : ∀ {l : List (List Nat)}, inLL x l = true → x ∈ l
  | [], h => nomatch h
  | a :: l, h => by
    have h2 : Bool.or (eqL Nat.beq x a) (inLL x l) = true := h
    rw [Bool.or_eq_true] at h2
    rcases h2 with h2 | h2
    · rw [eqL_ok (fun _ _ => Nat.eq_of_beq_eq_true) _ _ h2]
      exact List.mem_cons_self
    · exact List.mem_cons_of_mem _ (inLL_ok h2)
theorem lAll_mk {α : Type} {f : α → Bool} : ∀ {l : List α}, (∀ a ∈ l, f a = true) → lAll f l = true
  | [], _ => rfl
  | a :: l, h => by
    show Bool.and (f a) (lAll f l) = true
    rw [Bool.and_eq_true]
    exact ⟨h a List.mem_cons_self, lAll_mk (fun b hb => h b (List.mem_cons_of_mem _ hb))⟩
noncomputable def sqA (s : List Nat) (v : Nat) : Bool := Bool.or (memB s v) (Bool.and (inLL (s ++ [v]) SQ) (Bool.and (Bool.and (Nat.beq (laC (s ++ [v])) v) (Nat.beq (mkC (s ++ [v])) (Nat.add (mkC s) (Nat.pow (nat_lit 2) v)))) (allL 5 (fun i => Bool.and (Nat.beq (Bool.rec (motive := fun _ => Nat) (nxC s (Nat.succ i) (Nat.succ i)) v (Nat.beq (Nat.succ i) (laC s))) (nxC (s ++ [v]) (Nat.succ i) (Nat.succ i))) true))))
theorem q_sqA : lAll (fun s => allL 5 (fun i => sqA s (Nat.succ i))) SQ = true := by decide +kernel
noncomputable def sqB (s : List Nat) : Bool := Bool.and (Bool.and (Nat.ble (hdC s) (nat_lit 5)) (Nat.ble (laC s) (nat_lit 5))) (Bool.and (Nat.ble (sLn s) (nat_lit 5)) (Bool.and (allL 5 (fun i => Bool.or (Bool.not (lAll (fun a => Nat.ble a (Nat.succ i)) s)) (isP (Nat.succ i) (txC s)))) (allL 5 (fun i => Bool.and (Nat.ble (nxC s (Nat.succ i) (Nat.succ i)) (nat_lit 5)) (Bool.or (Nat.beq (hdC s) (nat_lit 0)) (Nat.beq (Bool.rec (motive := fun _ => Nat) (nxC s (Nat.succ i) (Nat.succ i)) (hdC s) (Nat.beq (Nat.succ i) (laC s))) (nxC s (Nat.succ i) (hdC s))))))))
theorem q_sqB : lAll sqB SQ = true := by decide +kernel
theorem sq_in {s : List Nat} {v : Nat} (hs : s ∈ SQ) (h1 : 1 ≤ v) (h5 : v ≤ 5) (hv : v ∉ s) : s ++ [v] ∈ SQ ∧ laC (s ++ [v]) = v ∧ mkC (s ++ [v]) = mkC s + 2 ^ v ∧ ∀ i, 1 ≤ i → i ≤ 5 → (if i = laC s then v else nxC s i i) = nxC (s ++ [v]) i i := by
  have h := allL_ok (lAll_ok q_sqA s hs) (v - 1) (by omega)
  rw [show Nat.succ (v - 1) = v by omega] at h
  unfold sqA at h
  rw [Bool.or_eq_true] at h
  rcases h with h | h
  · exact absurd (memB_ok.mp h) hv
  rw [Bool.and_eq_true, Bool.and_eq_true, Bool.and_eq_true] at h
  refine ⟨inLL_ok h.1, Nat.eq_of_beq_eq_true h.2.1.1, Nat.eq_of_beq_eq_true h.2.1.2, fun i g1 g5 => ?_⟩
  have g := allL_ok h.2.2 (i - 1) (by omega)
  rw [Bool.and_eq_true, show Nat.succ (i - 1) = i by omega] at g
  rw [← Nat.eq_of_beq_eq_true g.1]
  cases hb : Nat.beq i (laC s) with
  | true => rw [if_pos (Nat.eq_of_beq_eq_true hb)]
  | false => rw [if_neg (Nat.ne_of_beq_eq_false hb)]
theorem sq_bd {s : List Nat} (hs : s ∈ SQ) : hdC s ≤ 5 ∧ laC s ≤ 5 ∧ s.length ≤ 5 := by
  have h := lAll_ok q_sqB s hs
  unfold sqB at h
  rw [Bool.and_eq_true, Bool.and_eq_true, Bool.and_eq_true] at h
  exact ⟨Nat.le_of_ble_eq_true h.1.1, Nat.le_of_ble_eq_true h.1.2, by rw [← sLn_ok]; exact Nat.le_of_ble_eq_true h.2.1⟩
theorem sq_ord {n : Nat} {s : List Nat} (hn : 1 ≤ n) (hn5 : n ≤ 5) (hs : s ∈ SQ) (h : ∀ a ∈ s, a ≤ n) : txC s ∈ ordN n := by
  have g := lAll_ok q_sqB s hs
  unfold sqB at g
  simp only [Bool.and_eq_true] at g
  have g2 := allL_ok g.2.2.1 (n - 1) (by omega)
  rw [show Nat.succ (n - 1) = n by omega, Bool.or_eq_true] at g2
  rcases g2 with g2 | g2
  · have : lAll (fun a => Nat.ble a n) s = true := lAll_mk (fun a ha => Nat.ble_eq_true_of_le (h a ha))
    rw [this] at g2
    cases g2
  · exact isP_in hn hn5 g2
theorem sq_fin {s : List Nat} (hs : s ∈ SQ) (h0 : hdC s ≠ 0) {i : Nat} (h1 : 1 ≤ i) (h5 : i ≤ 5) : (if i = laC s then hdC s else nxC s i i) = nxC s i (hdC s) := by
  have g := lAll_ok q_sqB s hs
  unfold sqB at g
  simp only [Bool.and_eq_true] at g
  have g2 := allL_ok g.2.2.2 (i - 1) (by omega)
  rw [show Nat.succ (i - 1) = i by omega, Bool.and_eq_true, Bool.or_eq_true] at g2
  rcases g2.2 with g2 | g2
  · exact absurd (Nat.eq_of_beq_eq_true g2) h0
  · rw [← Nat.eq_of_beq_eq_true g2]
    cases hb : Nat.beq i (laC s) with
    | true => rw [if_pos (Nat.eq_of_beq_eq_true hb)]
    | false => rw [if_neg (Nat.ne_of_beq_eq_false hb)]
theorem sq_nx {s : List Nat} (hs : s ∈ SQ) {i : Nat} (h1 : 1 ≤ i) (h5 : i ≤ 5) : nxC s i i ≤ 5 := by
  have g := lAll_ok q_sqB s hs
  unfold sqB at g
  simp only [Bool.and_eq_true] at g
  have g2 := allL_ok g.2.2.2 (i - 1) (by omega)
  rw [show Nat.succ (i - 1) = i by omega, Bool.and_eq_true] at g2
  exact Nat.le_of_ble_eq_true g2.1
theorem hdC_app {s : List Nat} {v : Nat} : hdC (s ++ [v]) = if s = [] then v else hdC s := by
  cases s with
  | nil => rfl
  | cons a s => rfl
theorem hdC_0 {s : List Nat} (hs : s ∈ SQ) : hdC s = 0 ↔ s = [] := by
  have h := lAll_ok (show lAll (fun s => Bool.or (Nat.beq (sLn s) (nat_lit 0)) (Nat.ble (nat_lit 1) (hdC s))) SQ = true by decide +kernel) s hs
  rw [Bool.or_eq_true] at h
  constructor
  · intro h0
    rcases h with h | h
    · have h3 := Nat.eq_of_beq_eq_true h
      rw [sLn_ok] at h3
      exact List.eq_nil_of_length_eq_zero h3
    · have h3 : 1 ≤ hdC s := Nat.le_of_ble_eq_true h
      omega
  · rintro rfl
    rfl
theorem txC_get {s : List Nat} {i : Nat} (hi : i < 5) : (txC s).getD i 0 = nxC s (i + 1) (hdC s) := by
  match i, hi with
  | 0, _ => rfl
  | 1, _ => rfl
  | 2, _ => rfl
  | 3, _ => rfl
  | 4, _ => rfl
/-- the PART o behind the product -/
noncomputable def txM (M : List (List Nat)) (o : List Nat) : List (List Nat) := List.rec (motive := fun _ => List (List Nat)) [] (fun m M _ => mulO m o :: M) M
/-- a PART ends -/
noncomputable def txE (O : txT) (M : List (List Nat)) : List Nat → txT × List (List Nat) := List.rec (motive := fun _ => List Nat → txT × List (List Nat)) (fun o => ([], txM M o)) (fun x O ih o => if x.1 = 3 then ih (invO o) else (x :: O, txM M o)) O
theorem txE_nil {M : List (List Nat)} {o : List Nat} : txE [] M o = ([], txM M o) := rfl
theorem txE_3 {O : txT} {M : List (List Nat)} {o : List Nat} {p : Nat} : txE ((3, p) :: O) M o = txE O M (invO o) := rfl
theorem txE_no {x : Nat × Nat} {O : txT} {M : List (List Nat)} {o : List Nat} (h : x.1 ≠ 3) : txE (x :: O) M o = (x :: O, txM M o) := if_neg h
noncomputable def txF (O : txT) (M : List (List Nat)) (o : List Nat) (s : List Nat) (f : Nat) (W : Option txT) : txS := (3, (txE O M o).1, (txE O M o).2, s, f, W)
def txW (W : Option txT) (O : txT) (p : Nat) : Option txT := some (W.getD ((4, p) :: O))
noncomputable def tx0 (σ : txT × List (List Nat) × List Nat × Nat × Option txT) (b p : Nat) : Option txS :=
  if b = 115 then some (1, σ) else if b = 40 then some (2, σ.1, σ.2.1, [], 0, σ.2.2.2.2) else if b = 126 then some (0, (3, p) :: σ.1, σ.2) else if b = 91 then (if σ.2.1.length < 4 then some (0, (2, p) :: σ.1, txI :: σ.2.1, σ.2.2) else none) else if b = 101 then some (txF σ.1 σ.2.1 txI σ.2.2.1 σ.2.2.2.1 σ.2.2.2.2) else none
noncomputable def tx1 (n : Nat) (σ : txT × List (List Nat) × List Nat × Nat × Option txT) (b p : Nat) : Option txS :=
  if 49 ≤ b ∧ b ≤ 53 then (if b - 48 < n then some (txF σ.1 σ.2.1 (nbO (b - 48)) σ.2.2.1 σ.2.2.2.1 σ.2.2.2.2) else some (txF σ.1 σ.2.1 txI σ.2.2.1 σ.2.2.2.1 (txW σ.2.2.2.2 σ.1 p))) else none
noncomputable def tx2 (n : Nat) (σ : txT × List (List Nat) × List Nat × Nat × Option txT) (b p : Nat) : Option txS :=
  if 49 ≤ b ∧ b ≤ 53 then (if n < b - 48 ∨ b - 48 ∈ σ.2.2.1 then some (2, σ.1, σ.2.1, σ.2.2.1, σ.2.2.2.1 + 1, txW σ.2.2.2.2 σ.1 p) else some (2, σ.1, σ.2.1, σ.2.2.1 ++ [b - 48], σ.2.2.2.1 + 1, σ.2.2.2.2)) else if b = 41 ∧ 2 ≤ σ.2.2.2.1 then some (txF σ.1 σ.2.1 (txC σ.2.2.1) σ.2.2.1 σ.2.2.2.1 σ.2.2.2.2) else none
noncomputable def tx3 (σ : txT × List (List Nat) × List Nat × Nat × Option txT) (b : Nat) : Option txS :=
  if b = 42 then some (0, σ) else if b = 93 then (if 2 ≤ σ.2.1.length then some (txF σ.1.tail σ.2.1.tail (σ.2.1.headD txI) σ.2.2.1 σ.2.2.2.1 σ.2.2.2.2) else none) else none
/-- a byte -/
noncomputable def txD (n : Nat) (σ : txS) (b p : Nat) : Option txS := match σ.1 with
  | 0 => tx0 σ.2 b p
  | 1 => tx1 n σ.2 b p
  | 2 => tx2 n σ.2 b p
  | 3 => tx3 σ.2 b
  | _ => none
noncomputable def txG (n : Nat) (B : Nat → Nat) (k : Nat) : Nat → txS → Option txS := Nat.rec (motive := fun _ => Nat → txS → Option txS) (fun _ σ => some σ) (fun _ ih p σ => (txD n σ (B p) p).bind (fun σ2 => ih (p + 1) σ2)) k
theorem txG_s {n : Nat} {B : Nat → Nat} {k p : Nat} {σ : txS} : txG n B (k + 1) p σ = (txD n σ (B p) p).bind (fun σ2 => txG n B k (p + 1) σ2) := rfl
/-- from p to q -/
def txGo (n : Nat) (B : Nat → Nat) (σ : txS) (p : Nat) (σ2 : txS) (q : Nat) : Prop := ∃ k, q = p + k ∧ txG n B k p σ = some σ2
theorem txGo_rfl {n : Nat} {B : Nat → Nat} {σ : txS} {p : Nat} : txGo n B σ p σ p := ⟨0, rfl, rfl⟩
theorem txGo_one {n : Nat} {B : Nat → Nat} {σ σ1 : txS} {p : Nat} (h : txD n σ (B p) p = some σ1) : txGo n B σ p σ1 (p + 1) := ⟨1, rfl, by rw [txG_s, h]; rfl⟩
theorem txG_add {n : Nat} {B : Nat → Nat} {j : Nat} : ∀ {k p : Nat} {σ : txS}, txG n B (k + j) p σ = (txG n B k p σ).bind (fun σ2 => txG n B j (p + k) σ2)
  | 0, p, σ => by
    rw [Nat.zero_add]
    rfl
  | k + 1, p, σ => by
    rw [show k + 1 + j = (k + j) + 1 by omega, txG_s, txG_s]
    cases txD n σ (B p) p with
    | none => rfl
    | some σ1 =>
      show txG n B (k + j) (p + 1) σ1 = (txG n B k (p + 1) σ1).bind _
      rw [txG_add, show p + (k + 1) = p + 1 + k by omega]
theorem txGo_trans {n : Nat} {B : Nat → Nat} {σ σ1 σ2 : txS} {p q u : Nat} (h1 : txGo n B σ p σ1 q) (h2 : txGo n B σ1 q σ2 u) : txGo n B σ p σ2 u := by
  obtain ⟨k, rfl, e1⟩ := h1
  obtain ⟨j, rfl, e2⟩ := h2
  exact ⟨k + j, by omega, by rw [txG_add, e1]; exact e2⟩
theorem txGo_le {n : Nat} {B : Nat → Nat} {σ σ1 : txS} {p q : Nat} (h : txGo n B σ p σ1 q) : p ≤ q := by
  obtain ⟨k, rfl, -⟩ := h
  omega
theorem txGo_det {n : Nat} {B : Nat → Nat} {σ σ1 σ2 : txS} {p q u : Nat} (h1 : txGo n B σ p σ1 q) (h2 : txGo n B σ p σ2 u) (hqu : q ≤ u) : txGo n B σ1 q σ2 u := by
  obtain ⟨k, rfl, e1⟩ := h1
  obtain ⟨j, rfl, e2⟩ := h2
  refine ⟨j - k, by omega, ?_⟩
  rw [show j = k + (j - k) by omega, txG_add, e1] at e2
  exact e2
theorem txGo_step {n : Nat} {B : Nat → Nat} {σ σ2 : txS} {p u : Nat} (h : txGo n B σ p σ2 u) (hu : p < u) : ∃ σ1, txD n σ (B p) p = some σ1 ∧ txGo n B σ1 (p + 1) σ2 u := by
  obtain ⟨k, rfl, e⟩ := h
  obtain ⟨k, rfl⟩ : ∃ j, k = j + 1 := ⟨k - 1, by omega⟩
  rw [txG_s] at e
  cases hd : txD n σ (B p) p with
  | none => rw [hd] at e; cases e
  | some σ1 =>
    rw [hd] at e
    exact ⟨σ1, rfl, k, by omega, e⟩
/-- it goes no further -/
def txH (n : Nat) (B : Nat → Nat) (z : Nat) (σ : txS) (q : Nat) : Prop := q = z ∨ (q < z ∧ txD n σ (B q) q = none)
theorem txH_uni {n : Nat} {B : Nat → Nat} {z : Nat} {σ σ1 σ2 : txS} {p q u : Nat} (h1 : txGo n B σ p σ1 q) (h2 : txGo n B σ p σ2 u) (f1 : txH n B z σ1 q) (f2 : txH n B z σ2 u) : q = u ∧ σ1 = σ2 := by
  have key : ∀ {σ1 σ2 : txS} {q u : Nat}, txGo n B σ p σ1 q → txGo n B σ p σ2 u → txH n B z σ1 q → txH n B z σ2 u → q ≤ u → q = u ∧ σ1 = σ2 := fun h1 h2 f1 f2 hq => by
    have g := txGo_det h1 h2 hq
    rcases Nat.lt_or_eq_of_le hq with hq | rfl
    · exfalso
      rcases f1 with rfl | ⟨-, f1⟩
      · rcases f2 with rfl | ⟨f2, -⟩ <;> omega
      · obtain ⟨σ3, e, -⟩ := txGo_step g hq
        rw [f1] at e
        cases e
    · refine ⟨rfl, ?_⟩
      obtain ⟨k, e1, e2⟩ := g
      obtain rfl : k = 0 := by omega
      cases e2
      rfl
  rcases Nat.le_total q u with hq | hq
  · exact key h1 h2 f1 f2 hq
  · have := key h2 h1 f2 f1 hq
    exact ⟨this.1.symm, this.2.symm⟩
theorem txD_W {n : Nat} {σ σ1 : txS} {b p : Nat} {T : txT} (h : txD n σ b p = some σ1) (hW : σ.2.2.2.2.2 = some T) : σ1.2.2.2.2.2 = some T := by
  obtain ⟨aw, O, M, s, f, W⟩ := σ
  obtain rfl : W = some T := hW
  match aw, h with
  | 0, h =>
    replace h : tx0 (O, M, s, f, some T) b p = some σ1 := h
    unfold tx0 at h
    split at h
    · cases h; rfl
    split at h
    · cases h; rfl
    split at h
    · cases h; rfl
    split at h
    · split at h
      · cases h; rfl
      · cases h
    split at h
    · cases h; rfl
    · cases h
  | 1, h =>
    replace h : tx1 n (O, M, s, f, some T) b p = some σ1 := h
    unfold tx1 at h
    split at h
    · split at h
      · cases h; rfl
      · cases h; rfl
    · cases h
  | 2, h =>
    replace h : tx2 n (O, M, s, f, some T) b p = some σ1 := h
    unfold tx2 at h
    split at h
    · split at h
      · cases h; rfl
      · cases h; rfl
    split at h
    · cases h; rfl
    · cases h
  | 3, h =>
    replace h : tx3 (O, M, s, f, some T) b = some σ1 := h
    unfold tx3 at h
    split at h
    · cases h; rfl
    split at h
    · split at h
      · cases h; rfl
      · cases h
    · cases h
  | _ + 4, h => cases h
theorem txGo_W {n : Nat} {B : Nat → Nat} {T : txT} : ∀ {k p : Nat} {σ σ1 : txS}, txG n B k p σ = some σ1 → σ.2.2.2.2.2 = some T → σ1.2.2.2.2.2 = some T
  | 0, _, σ, σ1, h, hW => by
    cases h
    exact hW
  | k + 1, p, σ, σ1, h, hW => by
    rw [txG_s] at h
    cases hd : txD n σ (B p) p with
    | none => rw [hd] at h; cases h
    | some σ2 =>
      rw [hd] at h
      exact txGo_W (σ := σ2) h (txD_W hd hW)
/-- the end of a text -/
def txOk (σ : txS) : Prop := σ.1 = 3 ∧ σ.2.2.1.length = 1
def txBad (n : Nat) (B : Nat → Nat) (z : Nat) (σ : txS) (q : Nat) : Prop := q ≤ z ∧ txH n B z σ q ∧ ¬ (q = z ∧ txOk σ)
theorem txI_in {n : Nat} (hn : 1 ≤ n) (hn5 : n ≤ 5) : txI ∈ ordN n := isP_in hn hn5 (by
  have := allL_ok (show allL 5 (fun i => isP (Nat.succ i) txI) = true by decide +kernel) (n - 1) (by omega)
  rw [show Nat.succ (n - 1) = n by omega] at this
  exact this)
theorem txN_in {n k : Nat} (hn5 : n ≤ 5) (hk : 1 ≤ k) (hkn : k < n) : nbO k ∈ ordN n := isP_in (by omega) hn5 (by
  have := allL_ok (allL_ok (show allL 5 (fun i => allL i (fun k => isP (Nat.succ i) (nbO (Nat.succ k)))) = true by decide +kernel) (n - 1) (by omega)) (k - 1) (by omega)
  rw [show Nat.succ (n - 1) = n by omega, show Nat.succ (k - 1) = k by omega] at this
  exact this)
theorem codeI {o : List Nat} (ho : o ∈ ORDS) : codeO (invO o) = ocode (invO o) := by
  have : invO o ∈ ordN 5 := invO_in (by omega) (by omega) (by rw [ordN5]; exact ho)
  exact codeO_eq (ordN_in this)

/-- what each cell is: 0 ints, 1 longs, 2 bytes, 3 booleans (and how many); 4 and on: an object of a class -/
def SH : Nat → Nat × Nat := fun _ => (0, 0)

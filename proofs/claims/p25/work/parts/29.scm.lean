/-! the class's commands -/
def RC (v : zC) (cmds : List Nat) : Prop := rN 60 nI (cSigns v) cmds ∧ nCap (cNums v) = 3

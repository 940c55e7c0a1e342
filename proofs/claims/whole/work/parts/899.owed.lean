theorem ok_wall  {I : MI} {L : ML} (h : Inv I L) : ∃ (r : Int32) (I1 : MI) (I2 : MI), f_X10_wall  I L = some (r, I1) ∧ f_X11_wall  I1 L = some (r, I2) ∧ Inv I2 L := sorry

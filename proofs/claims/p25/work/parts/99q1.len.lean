/-- what the class keeps of lengths -/
def LnOk (y : Sy) (nc : Nat) (lg la : Nat → Int32) : Prop := True
def LnI (y : Sy) (nc B ch : Nat) (ed sn wz ws : Int32) (pa wa : Nat → Int32) (le : Int32) (lg la : Nat → Int32) : Prop := ∃ f, le = nI f ∧ (∃ e, ed = nI e ∧ f ≤ e ∧ e ≤ B) ∧ (ed = nI f → sn = nI ch → f ≠ 0 → LnOk y nc lg la)

/-! Ends of contracts that write nothing. -/
def PIs (K : Int32 → Prop) (h : Hp) : Option Value → Hp → Prop := fun r h' => ∃ v, r = some (.int v) ∧ h = h' ∧ K v
def PJs (K : Int64 → Prop) (h : Hp) : Option Value → Hp → Prop := fun r h' => ∃ v, r = some (.long v) ∧ h = h' ∧ K v

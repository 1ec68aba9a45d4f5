def InvP : Mem → Prop := fun _ => True
theorem step_ok : StepOK InvP := sorry
theorem inv_start : InvP mM0 := trivial

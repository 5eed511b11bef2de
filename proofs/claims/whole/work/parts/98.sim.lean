/-! The two pure sides simulate each other: what is still owed. -/
theorem sim_all : ∃ R : St → St → Prop, Sim R := sorry

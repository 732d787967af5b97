def Inv0 : St → Prop := fun _ => True
theorem law_S : LawS Inv0 := sorry
theorem law_0 : Inv0 σ0 := trivial

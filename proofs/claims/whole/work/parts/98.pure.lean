def Inv : wF → wA → wB → wF → wA → wB → Prop := fun _ _ _ _ _ _ => True
theorem okAll_Inv : okAll Inv := sorry
theorem okInit_Inv : okInit Inv := sorry

theorem obind_app {o : Option Rws} {L M : Rws} : (o.bind fun rows => rAddL rows (L ++ M)) = (o.bind fun rows => rAddL rows L).bind fun rows => rAddL rows M := by
  cases o with
  | none => rfl
  | some rows => exact rAddL_app rows L M
/-! joins -/
/-! unites -/

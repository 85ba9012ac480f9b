section FCMPG
variable {x : Cq} {Z : Zt} {n0 k0 pc : Nat} {L : List (Nat × Value)} {rest : List Value} {g : Mem} {cc : ByteArray} {own : String} {nL : Nat}
theorem V_fcmpg (hC : Cx x cc own nL) {a b : UInt32} (hdg : decode cc pc = .ok (.fcmp .g, 1)) (kk : V x Z n0 k0 (pc + 1) L (.int (Op.cmpValue (FP.fcmp a b) .g) :: rest) g) : V x Z n0 k0 pc L (.float b :: .float a :: rest) g := fun H locs ls h1 h2 h3 => lv_fcmp hC.x hC.b hdg (kk H locs ls h1 h2 h3)
end FCMPG

/-- THE PURE STATEMENT: the law's function answers true for every script -/
theorem pure_ok (L : Nat) (hL : L ≤ 384) (xs : Nat → Int32) : ∃ ν3 ν4 : Nm, Md_copy 314 315 ν2 = some ν3 ∧ Md_forget ν3 = some ν4 ∧ Lw_18 L xs FU 0 ν4 = some true := pure_of txt_ok L hL xs

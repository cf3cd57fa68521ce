/-! What the constructors need of the tables. -/
theorem arc_boolean : Cond.arrayClass .boolean ∈ zTb := zmt6 87 rfl rfl
theorem arc_int : Cond.arrayClass .int ∈ zTb := zmt1 79 rfl rfl
theorem arc_long : Cond.arrayClass .long ∈ zTb := zmt2 40 rfl rfl
theorem cwRX11_9 : Cond.classLink RX11 9 RX6 ∈ zTb ∧ Cond.instantiable RX6 11 ∈ zTb ∧ Cond.initialized RX6 ∈ zTb := ⟨zmt1 31 rfl rfl, zmt1 32 rfl rfl, zmt1 2 rfl rfl⟩
theorem cwRX11_19 : Cond.classLink RX11 19 RX3 ∈ zTb ∧ Cond.instantiable RX3 11 ∈ zTb ∧ Cond.initialized RX3 ∈ zTb := ⟨zmt1 165 rfl rfl, zmt1 166 rfl rfl, zmt1 6 rfl rfl⟩
theorem cwRX11_26 : Cond.classLink RX11 26 RX9 ∈ zTb ∧ Cond.instantiable RX9 8 ∈ zTb ∧ Cond.initialized RX9 ∈ zTb := ⟨zmt1 208 rfl rfl, zmt2 61 rfl rfl, zmt1 10 rfl rfl⟩
theorem cwRX11_32 : Cond.classLink RX11 32 RX7 ∈ zTb ∧ Cond.instantiable RX7 4 ∈ zTb ∧ Cond.initialized RX7 ∈ zTb := ⟨zmt1 210 rfl rfl, zmt1 211 rfl rfl, zmt1 7 rfl rfl⟩
theorem cwRX11_41 : Cond.classLink RX11 41 RX4 ∈ zTb ∧ Cond.instantiable RX4 14 ∈ zTb ∧ Cond.initialized RX4 ∈ zTb := ⟨zmt1 229 rfl rfl, zmt1 230 rfl rfl, zmt1 8 rfl rfl⟩
theorem cwRX11_54 : Cond.classLink RX11 54 RX0 ∈ zTb ∧ Cond.instantiable RX0 4 ∈ zTb ∧ Cond.initialized RX0 ∈ zTb := ⟨zmt2 41 rfl rfl, zmt2 42 rfl rfl, zmt1 9 rfl rfl⟩
theorem cwRX5_9 : Cond.classLink RX5 9 RX2 ∈ zTb ∧ Cond.instantiable RX2 8 ∈ zTb ∧ Cond.initialized RX2 ∈ zTb := ⟨zmt1 86 rfl rfl, zmt1 38 rfl rfl, zmt1 3 rfl rfl⟩
theorem cwRX6_9 : Cond.classLink RX6 9 RX2 ∈ zTb ∧ Cond.instantiable RX2 8 ∈ zTb ∧ Cond.initialized RX2 ∈ zTb := ⟨zmt1 37 rfl rfl, zmt1 38 rfl rfl, zmt1 3 rfl rfl⟩
theorem cwRX6_18 : Cond.classLink RX6 18 RX5 ∈ zTb ∧ Cond.instantiable RX5 3 ∈ zTb ∧ Cond.initialized RX5 ∈ zTb := ⟨zmt1 80 rfl rfl, zmt1 81 rfl rfl, zmt1 4 rfl rfl⟩
theorem cwRX6_39 : Cond.classLink RX6 39 RX10 ∈ zTb ∧ Cond.instantiable RX10 2 ∈ zTb ∧ Cond.initialized RX10 ∈ zTb := ⟨zmt1 100 rfl rfl, zmt1 101 rfl rfl, zmt1 5 rfl rfl⟩
theorem dfX0 : ∀ j, j < 4 → defaultValue (tyX0 j) = zdv (zt 0 j) := by decide +kernel
theorem dfX2 : ∀ j, j < 8 → defaultValue (tyX2 j) = zdv (zt 1 j) := by decide +kernel
theorem dfX3 : ∀ j, j < 11 → defaultValue (tyX3 j) = zdv (zt 2 j) := by decide +kernel
theorem dfX4 : ∀ j, j < 14 → defaultValue (tyX4 j) = zdv (zt 3 j) := by decide +kernel
theorem dfX5 : ∀ j, j < 3 → defaultValue (tyX5 j) = zdv (zt 4 j) := by decide +kernel
theorem dfX6 : ∀ j, j < 11 → defaultValue (tyX6 j) = zdv (zt 5 j) := by decide +kernel
theorem dfX7 : ∀ j, j < 4 → defaultValue (tyX7 j) = zdv (zt 6 j) := by decide +kernel
theorem dfX9 : ∀ j, j < 8 → defaultValue (tyX9 j) = zdv (zt 7 j) := by decide +kernel
theorem dfX10 : ∀ j, j < 2 → defaultValue (tyX10 j) = zdv (zt 8 j) := by decide +kernel
theorem dfX11 : ∀ j, j < 7 → defaultValue (tyX11 j) = zdv (zt 9 j) := by decide +kernel
theorem dfX12 : ∀ j, j < 37 → defaultValue (tyX12 j) = zdv (zt 10 j) := by decide +kernel
theorem obw {O : String} {i : Nat} (h : Cond.methodLink O i Lib.objectInit ∈ zTb) : Cond.methodLink O i Lib.objectInit ∈ zTb ∧ Cond.instanceMethod Lib.objectInit ∈ zTb ∧ Cond.code Lib.objectInit ⟨#[0xb1]⟩ 1 none ∈ zTb := ⟨h, zmt1 29 rfl rfl, zmt1 30 rfl rfl⟩
theorem obRX11 : Cond.methodLink RX11 3 Lib.objectInit ∈ zTb := zmt1 28 rfl rfl
theorem obRX0 : Cond.methodLink RX0 3 Lib.objectInit ∈ zTb := zmt2 46 rfl rfl
theorem obRX2 : Cond.methodLink RX2 3 Lib.objectInit ∈ zTb := zmt1 42 rfl rfl
theorem obRX3 : Cond.methodLink RX3 3 Lib.objectInit ∈ zTb := zmt1 170 rfl rfl
theorem obRX4 : Cond.methodLink RX4 3 Lib.objectInit ∈ zTb := zmt1 234 rfl rfl
theorem obRX5 : Cond.methodLink RX5 3 Lib.objectInit ∈ zTb := zmt1 85 rfl rfl
theorem obRX6 : Cond.methodLink RX6 3 Lib.objectInit ∈ zTb := zmt1 36 rfl rfl
theorem obRX7 : Cond.methodLink RX7 3 Lib.objectInit ∈ zTb := zmt1 215 rfl rfl
theorem obRX9 : Cond.methodLink RX9 3 Lib.objectInit ∈ zTb := zmt2 65 rfl rfl
theorem obRX10 : Cond.methodLink RX10 1 Lib.objectInit ∈ zTb := zmt1 105 rfl rfl
theorem obRX12 : Cond.methodLink RX12 1 Lib.objectInit ∈ zTb := zmt5 206 rfl rfl
abbrev mX2_init : MM := (yX2_init, cX2_init, 1, none)
theorem in_X2_init : zin mX2_init := ⟨zmt1 41 rfl rfl, by decide⟩
theorem ck_X2_init : zcI mX2_init 0 := ⟨⟨in_X2_init, Nat.le_of_ble_eq_true rfl, zmt1 3 rfl rfl, by decide, by decide, by decide +kernel⟩, rfl, zmt1 40 rfl rfl, rfl⟩
abbrev mX10_init : MM := (yX10_init, cX10_init, 2, none)
theorem in_X10_init : zin mX10_init := ⟨zmt1 104 rfl rfl, by decide⟩
theorem ck_X10_init : zcI mX10_init 1 := ⟨⟨in_X10_init, Nat.le_of_ble_eq_true rfl, zmt1 5 rfl rfl, by decide, by decide, by decide +kernel⟩, rfl, zmt1 103 rfl rfl, rfl⟩
abbrev mX5_init : MM := (yX5_init, cX5_init, 2, none)
theorem in_X5_init : zin mX5_init := ⟨zmt1 84 rfl rfl, by decide⟩
theorem ck_X5_init : zcI mX5_init 0 := ⟨⟨in_X5_init, Nat.le_of_ble_eq_true rfl, zmt1 4 rfl rfl, by decide, by decide, by decide +kernel⟩, rfl, zmt1 83 rfl rfl, rfl⟩
abbrev mX6_init : MM := (yX6_init, cX6_init, 1, none)
theorem in_X6_init : zin mX6_init := ⟨zmt1 35 rfl rfl, by decide⟩
theorem ck_X6_init : zcI mX6_init 0 := ⟨⟨in_X6_init, Nat.le_of_ble_eq_true rfl, zmt1 2 rfl rfl, by decide, by decide, by decide +kernel⟩, rfl, zmt1 34 rfl rfl, rfl⟩
abbrev mX9_init : MM := (yX9_init, cX9_init, 1, none)
theorem in_X9_init : zin mX9_init := ⟨zmt2 64 rfl rfl, by decide⟩
theorem ck_X9_init : zcI mX9_init 0 := ⟨⟨in_X9_init, Nat.le_of_ble_eq_true rfl, zmt1 10 rfl rfl, by decide, by decide, by decide +kernel⟩, rfl, zmt2 63 rfl rfl, rfl⟩
abbrev mX3_init : MM := (yX3_init, cX3_init, 1, none)
theorem in_X3_init : zin mX3_init := ⟨zmt1 169 rfl rfl, by decide⟩
theorem ck_X3_init : zcI mX3_init 0 := ⟨⟨in_X3_init, Nat.le_of_ble_eq_true rfl, zmt1 6 rfl rfl, by decide, by decide, by decide +kernel⟩, rfl, zmt1 168 rfl rfl, rfl⟩
abbrev mX7_init : MM := (yX7_init, cX7_init, 2, none)
theorem in_X7_init : zin mX7_init := ⟨zmt1 214 rfl rfl, by decide⟩
theorem ck_X7_init : zcI mX7_init 1 := ⟨⟨in_X7_init, Nat.le_of_ble_eq_true rfl, zmt1 7 rfl rfl, by decide, by decide, by decide +kernel⟩, rfl, zmt1 213 rfl rfl, rfl⟩
abbrev mX4_init : MM := (yX4_init, cX4_init, 2, none)
theorem in_X4_init : zin mX4_init := ⟨zmt1 233 rfl rfl, by decide⟩
theorem ck_X4_init : zcI mX4_init 1 := ⟨⟨in_X4_init, Nat.le_of_ble_eq_true rfl, zmt1 8 rfl rfl, by decide, by decide, by decide +kernel⟩, rfl, zmt1 232 rfl rfl, rfl⟩
abbrev mX0_init : MM := (yX0_init, cX0_init, 1, none)
theorem in_X0_init : zin mX0_init := ⟨zmt2 45 rfl rfl, by decide⟩
theorem ck_X0_init : zcI mX0_init 0 := ⟨⟨in_X0_init, Nat.le_of_ble_eq_true rfl, zmt1 9 rfl rfl, by decide, by decide, by decide +kernel⟩, rfl, zmt2 44 rfl rfl, rfl⟩
abbrev mX11_init : MM := (yX11_init, cX11_init, 2, none)
theorem in_X11_init : zin mX11_init := ⟨zmt1 27 rfl rfl, by decide⟩
theorem ck_X11_init : zcI mX11_init 0 := ⟨⟨in_X11_init, Nat.le_of_ble_eq_true rfl, zmt1 1 rfl rfl, by decide, by decide, by decide +kernel⟩, rfl, zmt1 26 rfl rfl, rfl⟩
abbrev mX12_init : MM := (yX12_init, cX12_init, 1, none)
theorem in_X12_init : zin mX12_init := ⟨zmt5 205 rfl rfl, by decide⟩
theorem ck_X12_init : zcI mX12_init 0 := ⟨⟨in_X12_init, Nat.le_of_ble_eq_true rfl, zmt1 11 rfl rfl, by decide, by decide, by decide +kernel⟩, rfl, zmt5 204 rfl rfl, rfl⟩
theorem nlRX11_11 : (RX11, 11, yX6_init) ∈ zNm := by decide +kernel
theorem nlRX11_21 : (RX11, 21, yX3_init) ∈ zNm := by decide +kernel
theorem mlRX11_34 : Cond.methodLink RX11 34 yX7_init ∈ zTb := zmt1 212 rfl rfl
theorem mlRX11_47 : Cond.methodLink RX11 47 yX4_init ∈ zTb := zmt1 231 rfl rfl
theorem nlRX11_56 : (RX11, 56, yX0_init) ∈ zNm := by decide +kernel
theorem nlRX11_61 : (RX11, 61, yX9_init) ∈ zNm := by decide +kernel
theorem nlRX5_17 : (RX5, 17, yX2_init) ∈ zNm := by decide +kernel
theorem nlRX6_11 : (RX6, 11, yX2_init) ∈ zNm := by decide +kernel
theorem mlRX6_20 : Cond.methodLink RX6 20 yX5_init ∈ zTb := zmt1 82 rfl rfl
theorem mlRX6_41 : Cond.methodLink RX6 41 yX10_init ∈ zTb := zmt1 102 rfl rfl
def zofB (b s c : Nat) (t : Nat × Nat) : Bool := decide (c < s) && decide (zs (b + c) = t)
theorem zof1 {q : Nat} (h : zk 333 q (1, 0)) (c : Nat) (t : Nat × Nat) (hc : zofB 2 4 c t = true) : zk 333 (q + c) t := by
  have key : ∀ q, q < 333 → zs q = (1, 0) → ∀ c, c < 4 → q + c < 333 ∧ zs (q + c) = zs (2 + c) := by decide +kernel
  simp only [zofB, Bool.and_eq_true, decide_eq_true_eq] at hc
  obtain ⟨a, b⟩ := key q h.1 h.2 c hc.1
  exact ⟨a, b.trans hc.2⟩
theorem zof4 {q : Nat} (h : zk 333 q (4, 0)) (c : Nat) (t : Nat × Nat) (hc : zofB 6 122 c t = true) : zk 333 (q + c) t := by
  have key : ∀ q, q < 333 → zs q = (4, 0) → ∀ c, c < 122 → q + c < 333 ∧ zs (q + c) = zs (6 + c) := by decide +kernel
  simp only [zofB, Bool.and_eq_true, decide_eq_true_eq] at hc
  obtain ⟨a, b⟩ := key q h.1 h.2 c hc.1
  exact ⟨a, b.trans hc.2⟩
theorem zof5 {q : Nat} (h : zk 333 q (5, 0)) (c : Nat) (t : Nat × Nat) (hc : zofB 1 135 c t = true) : zk 333 (q + c) t := by
  have key : ∀ q, q < 333 → zs q = (5, 0) → ∀ c, c < 135 → q + c < 333 ∧ zs (q + c) = zs (1 + c) := by decide +kernel
  simp only [zofB, Bool.and_eq_true, decide_eq_true_eq] at hc
  obtain ⟨a, b⟩ := key q h.1 h.2 c hc.1
  exact ⟨a, b.trans hc.2⟩
theorem zof7 {q : Nat} (h : zk 333 q (7, 0)) (c : Nat) (t : Nat × Nat) (hc : zofB 285 7 c t = true) : zk 333 (q + c) t := by
  have key : ∀ q, q < 333 → zs q = (7, 0) → ∀ c, c < 7 → q + c < 333 ∧ zs (q + c) = zs (285 + c) := by decide +kernel
  simp only [zofB, Bool.and_eq_true, decide_eq_true_eq] at hc
  obtain ⟨a, b⟩ := key q h.1 h.2 c hc.1
  exact ⟨a, b.trans hc.2⟩
theorem zk_285 : zk 333 285 (7, 0) := ⟨by decide, by decide +kernel⟩
theorem zk_292 : zk 333 292 (7, 0) := ⟨by decide, by decide +kernel⟩
theorem zk_299 : zk 333 299 (7, 0) := ⟨by decide, by decide +kernel⟩
theorem zk_306 : zk 333 306 (7, 0) := ⟨by decide, by decide +kernel⟩
theorem csRX12_62 : Cond.constant RX12 62 (245776 : Int32) ∈ zTb := zmt5 207 rfl rfl

-- FuseMinutesModel.full(I)I
theorem dX12_full_0 : decode cX12_full 0 = .ok (.bipush 64, 2) := by decide +kernel
theorem dX12_full_2 : decode cX12_full 2 = .ok (.aload_n 0, 1) := by decide +kernel
theorem dX12_full_3 : decode cX12_full 3 = .ok (.getfield 7, 3) := by decide +kernel
theorem dX12_full_6 : decode cX12_full 6 = .ok (.bipush 20, 2) := by decide +kernel
theorem dX12_full_8 : decode cX12_full 8 = .ok (.iconst 2, 1) := by decide +kernel
theorem dX12_full_9 : decode cX12_full 9 = .ok (.iload_n 1, 1) := by decide +kernel
theorem dX12_full_10 : decode cX12_full 10 = .ok (.imul, 1) := by decide +kernel
theorem dX12_full_11 : decode cX12_full 11 = .ok (.iadd, 1) := by decide +kernel
theorem dX12_full_12 : decode cX12_full 12 = .ok (.iaload, 1) := by decide +kernel
theorem dX12_full_13 : decode cX12_full 13 = .ok (.imul, 1) := by decide +kernel
theorem dX12_full_14 : decode cX12_full 14 = .ok (.ireturn, 1) := by decide +kernel
def Md_full (ν : Nm) (x1 : Int32) : Option Int32 :=
  if inb ((20 : Int32) + ((2 : Int32) * x1)) 1385 then
  some ((64 : Int32) * (gi ν 314 ((20 : Int32) + ((2 : Int32) * x1)).toNatClampNeg))
  else none
set_option maxRecDepth 100000 in
set_option maxHeartbeats 4000000 in
theorem t_Md_full {g : GG} {d : Nat} {ν : Nm} (hd0 : 1 ≤ d) : ∀ (x1 : Int32) (r : Int32), Md_full ν x1 = some r → Z g d (0, 0) mX12_full 333 0 0 0 [(0, .ref 313), (1, .int x1)] [] (zem ν) (zF g (some (.int r), zem ν)) := by
  intro x1 r h
  unfold Md_full at h
  refine z_bipush (M := mX12_full) (v := 64) dX12_full_0 rfl ?_
  refine z_aload_n dX12_full_2 0 rfl ?_
  refine y_getR (M := mX12_full) (r := 314) dX12_full_3 zk_313 flRX12_7 fr_10_0.1 (fr_10_0.2 _) ?_
  refine z_bipush (M := mX12_full) (v := 20) dX12_full_6 rfl ?_
  refine z_iconst (M := mX12_full) (v := 2) dX12_full_8 rfl ?_
  refine z_iload_n dX12_full_9 1 rfl ?_
  refine z_imul dX12_full_10 ?_
  refine z_iadd dX12_full_11 ?_
  obtain ⟨hi1, h⟩ := oif h
  refine y_iald (M := mX12_full) (jj := ((20 : Int32) + ((2 : Int32) * x1)).toNatClampNeg) dX12_full_12 zk_314 hi1 rfl ?_
  refine z_imul dX12_full_13 ?_
  cases h
  exact z_iret dX12_full_14 rfl
theorem ct_Md_full {g : GG} {d : Nat} {x1 : Int32} {ν : Nm} {r : Int32} (hd0 : 1 ≤ d)  (h : Md_full ν x1 = some r) : Ct g d mX12_full [.ref 313, .int x1] (zem ν) (some (.int r), zem ν) := y_entry in_X12_full (Nat.le_of_ble_eq_true rfl) rfl (t_Md_full hd0 x1 r h)
-- FuseMinutesModel.put(III)V
theorem dX12_put_0 : decode cX12_put 0 = .ok (.aload_n 0, 1) := by decide +kernel
theorem dX12_put_1 : decode cX12_put 1 = .ok (.getfield 7, 3) := by decide +kernel
theorem dX12_put_4 : decode cX12_put 4 = .ok (.bipush 12, 2) := by decide +kernel
theorem dX12_put_6 : decode cX12_put 6 = .ok (.iconst 2, 1) := by decide +kernel
theorem dX12_put_7 : decode cX12_put 7 = .ok (.iload_n 1, 1) := by decide +kernel
theorem dX12_put_8 : decode cX12_put 8 = .ok (.imul, 1) := by decide +kernel
theorem dX12_put_9 : decode cX12_put 9 = .ok (.iadd, 1) := by decide +kernel
theorem dX12_put_10 : decode cX12_put 10 = .ok (.iload_n 2, 1) := by decide +kernel
theorem dX12_put_11 : decode cX12_put 11 = .ok (.iadd, 1) := by decide +kernel
theorem dX12_put_12 : decode cX12_put 12 = .ok (.iload_n 3, 1) := by decide +kernel
theorem dX12_put_13 : decode cX12_put 13 = .ok (.iastore, 1) := by decide +kernel
theorem dX12_put_14 : decode cX12_put 14 = .ok (.return_, 1) := by decide +kernel
def Md_put (x1 : Int32) (x2 : Int32) (x3 : Int32) (ν : Nm) : Option Nm :=
  if inb (((12 : Int32) + ((2 : Int32) * x1)) + x2) 1385 then
  some (si ν 314 (((12 : Int32) + ((2 : Int32) * x1)) + x2).toNatClampNeg x3)
  else none
set_option maxRecDepth 100000 in
set_option maxHeartbeats 4000000 in
theorem t_Md_put {g : GG} {d : Nat} (hd0 : 1 ≤ d) : ∀ (x1 : Int32) (x2 : Int32) (x3 : Int32) (ν : Nm) (r : Nm), Md_put x1 x2 x3 ν = some r → Z g d (0, 0) mX12_put 333 0 0 0 [(0, .ref 313), (1, .int x1), (2, .int x2), (3, .int x3)] [] (zem ν) (zF g (none, zem r)) := by
  intro x1 x2 x3 ν r h
  unfold Md_put at h
  refine z_aload_n dX12_put_0 0 rfl ?_
  refine y_getR (M := mX12_put) (r := 314) dX12_put_1 zk_313 flRX12_7 fr_10_0.1 (fr_10_0.2 _) ?_
  refine z_bipush (M := mX12_put) (v := 12) dX12_put_4 rfl ?_
  refine z_iconst (M := mX12_put) (v := 2) dX12_put_6 rfl ?_
  refine z_iload_n dX12_put_7 1 rfl ?_
  refine z_imul dX12_put_8 ?_
  refine z_iadd dX12_put_9 ?_
  refine z_iload_n dX12_put_10 2 rfl ?_
  refine z_iadd dX12_put_11 ?_
  refine z_iload_n dX12_put_12 3 rfl ?_
  obtain ⟨hi1, h⟩ := oif h
  refine y_iast (M := mX12_put) (jj := (((12 : Int32) + ((2 : Int32) * x1)) + x2).toNatClampNeg) dX12_put_13 zk_314 hi1 rfl ?_
  cases h
  exact z_vret dX12_put_14 rfl
theorem ct_Md_put {g : GG} {d : Nat} {x1 : Int32} {x2 : Int32} {x3 : Int32} {ν : Nm} {r : Nm} (hd0 : 1 ≤ d)  (h : Md_put x1 x2 x3 ν = some r) : Ct g d mX12_put [.ref 313, .int x1, .int x2, .int x3] (zem ν) (none, zem r) := y_entry in_X12_put (Nat.le_of_ble_eq_true rfl) rfl (t_Md_put hd0 x1 x2 x3 ν r h)
-- FuseMinutesModel.begin(I)V
theorem dX12_begin_0 : decode cX12_begin 0 = .ok (.aload_n 0, 1) := by decide +kernel
theorem dX12_begin_1 : decode cX12_begin 1 = .ok (.iload_n 1, 1) := by decide +kernel
theorem dX12_begin_2 : decode cX12_begin 2 = .ok (.iconst 0, 1) := by decide +kernel
theorem dX12_begin_3 : decode cX12_begin 3 = .ok (.aload_n 0, 1) := by decide +kernel
theorem dX12_begin_4 : decode cX12_begin 4 = .ok (.iload_n 1, 1) := by decide +kernel
theorem dX12_begin_5 : decode cX12_begin 5 = .ok (.invokevirtual 108, 3) := by decide +kernel
theorem dX12_begin_8 : decode cX12_begin 8 = .ok (.invokevirtual 111, 3) := by decide +kernel
theorem dX12_begin_11 : decode cX12_begin 11 = .ok (.aload_n 0, 1) := by decide +kernel
theorem dX12_begin_12 : decode cX12_begin 12 = .ok (.iload_n 1, 1) := by decide +kernel
theorem dX12_begin_13 : decode cX12_begin 13 = .ok (.iconst 1, 1) := by decide +kernel
theorem dX12_begin_14 : decode cX12_begin 14 = .ok (.iconst 0, 1) := by decide +kernel
theorem dX12_begin_15 : decode cX12_begin 15 = .ok (.invokevirtual 111, 3) := by decide +kernel
theorem dX12_begin_18 : decode cX12_begin 18 = .ok (.return_, 1) := by decide +kernel
def Md_begin (x1 : Int32) (ν : Nm) : Option Nm :=
  (Md_full ν x1).bind fun v1 =>
  (Md_put x1 (0 : Int32) v1 ν).bind fun v2 =>
  (Md_put x1 (1 : Int32) (0 : Int32) v2).bind fun v3 =>
  some v3
set_option maxRecDepth 100000 in
set_option maxHeartbeats 4000000 in
theorem t_Md_begin {g : GG} {d : Nat} (hd0 : 2 ≤ d) : ∀ (x1 : Int32) (ν : Nm) (r : Nm), Md_begin x1 ν = some r → Z g d (0, 0) mX12_begin 333 0 0 0 [(0, .ref 313), (1, .int x1)] [] (zem ν) (zF g (none, zem r)) := by
  intro x1 ν r h
  unfold Md_begin at h
  refine z_aload_n dX12_begin_0 0 rfl ?_
  refine z_iload_n dX12_begin_1 1 rfl ?_
  refine z_iconst (M := mX12_begin) (v := 0) dX12_begin_2 rfl ?_
  refine z_aload_n dX12_begin_3 0 rfl ?_
  refine z_iload_n dX12_begin_4 1 rfl ?_
  obtain ⟨v1, he1, h⟩ := obind h
  refine y_Vi (M := mX12_begin) (Y := mX12_full) (d2 := d - 1) (As := [.int x1]) (st := [.int (0 : Int32), .int x1, .ref 313]) dX12_begin_5 mlRX12_108 cv_X12_full zk_313 (ct_Md_full (dle (Nat.le_of_ble_eq_true rfl) hd0) he1) (dps (Nat.le_of_ble_eq_true rfl) hd0) rfl rfl (Nat.le_of_ble_eq_true rfl) ?_
  obtain ⟨v2, he2, h⟩ := obind h
  refine y_Vv (M := mX12_begin) (Y := mX12_put) (d2 := d - 1) (As := [.int x1, .int (0 : Int32), .int v1]) (st := []) dX12_begin_8 mlRX12_111 cv_X12_put zk_313 (ct_Md_put (dle (Nat.le_of_ble_eq_true rfl) hd0) he2) (dps (Nat.le_of_ble_eq_true rfl) hd0) rfl rfl (Nat.le_of_ble_eq_true rfl) ?_
  refine z_aload_n dX12_begin_11 0 rfl ?_
  refine z_iload_n dX12_begin_12 1 rfl ?_
  refine z_iconst (M := mX12_begin) (v := 1) dX12_begin_13 rfl ?_
  refine z_iconst (M := mX12_begin) (v := 0) dX12_begin_14 rfl ?_
  obtain ⟨v3, he3, h⟩ := obind h
  refine y_Vv (M := mX12_begin) (Y := mX12_put) (d2 := d - 1) (As := [.int x1, .int (1 : Int32), .int (0 : Int32)]) (st := []) dX12_begin_15 mlRX12_111 cv_X12_put zk_313 (ct_Md_put (dle (Nat.le_of_ble_eq_true rfl) hd0) he3) (dps (Nat.le_of_ble_eq_true rfl) hd0) rfl rfl (Nat.le_of_ble_eq_true rfl) ?_
  cases h
  exact z_vret dX12_begin_18 rfl
theorem ct_Md_begin {g : GG} {d : Nat} {x1 : Int32} {ν : Nm} {r : Nm} (hd0 : 2 ≤ d)  (h : Md_begin x1 ν = some r) : Ct g d mX12_begin [.ref 313, .int x1] (zem ν) (none, zem r) := y_entry in_X12_begin (Nat.le_of_ble_eq_true rfl) rfl (t_Md_begin hd0 x1 ν r h)
-- FuseMinutesModel.undo()I
theorem dX12_undo_0 : decode cX12_undo 0 = .ok (.aload_n 0, 1) := by decide +kernel
theorem dX12_undo_1 : decode cX12_undo 1 = .ok (.getfield 7, 3) := by decide +kernel
theorem dX12_undo_4 : decode cX12_undo 4 = .ok (.iconst 4, 1) := by decide +kernel
theorem dX12_undo_5 : decode cX12_undo 5 = .ok (.iaload, 1) := by decide +kernel
theorem dX12_undo_6 : decode cX12_undo 6 = .ok (.ifCond .ne 5, 3) := by decide +kernel
theorem dX12_undo_9 : decode cX12_undo 9 = .ok (.iconst (-1), 1) := by decide +kernel
theorem dX12_undo_10 : decode cX12_undo 10 = .ok (.ireturn, 1) := by decide +kernel
theorem dX12_undo_11 : decode cX12_undo 11 = .ok (.aload_n 0, 1) := by decide +kernel
theorem dX12_undo_12 : decode cX12_undo 12 = .ok (.getfield 7, 3) := by decide +kernel
theorem dX12_undo_15 : decode cX12_undo 15 = .ok (.iconst 4, 1) := by decide +kernel
theorem dX12_undo_16 : decode cX12_undo 16 = .ok (.dup2, 1) := by decide +kernel
theorem dX12_undo_17 : decode cX12_undo 17 = .ok (.iaload, 1) := by decide +kernel
theorem dX12_undo_18 : decode cX12_undo 18 = .ok (.iconst 1, 1) := by decide +kernel
theorem dX12_undo_19 : decode cX12_undo 19 = .ok (.isub, 1) := by decide +kernel
theorem dX12_undo_20 : decode cX12_undo 20 = .ok (.iastore, 1) := by decide +kernel
theorem dX12_undo_21 : decode cX12_undo 21 = .ok (.bipush 65, 2) := by decide +kernel
theorem dX12_undo_23 : decode cX12_undo 23 = .ok (.bipush 43, 2) := by decide +kernel
theorem dX12_undo_25 : decode cX12_undo 25 = .ok (.aload_n 0, 1) := by decide +kernel
theorem dX12_undo_26 : decode cX12_undo 26 = .ok (.getfield 7, 3) := by decide +kernel
theorem dX12_undo_29 : decode cX12_undo 29 = .ok (.iconst 4, 1) := by decide +kernel
theorem dX12_undo_30 : decode cX12_undo 30 = .ok (.iaload, 1) := by decide +kernel
theorem dX12_undo_31 : decode cX12_undo 31 = .ok (.imul, 1) := by decide +kernel
theorem dX12_undo_32 : decode cX12_undo 32 = .ok (.iadd, 1) := by decide +kernel
theorem dX12_undo_33 : decode cX12_undo 33 = .ok (.istore_n 1, 1) := by decide +kernel
theorem dX12_undo_34 : decode cX12_undo 34 = .ok (.iconst 0, 1) := by decide +kernel
theorem dX12_undo_35 : decode cX12_undo 35 = .ok (.istore_n 2, 1) := by decide +kernel
theorem dX12_undo_36 : decode cX12_undo 36 = .ok (.iload_n 2, 1) := by decide +kernel
theorem dX12_undo_37 : decode cX12_undo 37 = .ok (.bipush 12, 2) := by decide +kernel
theorem dX12_undo_39 : decode cX12_undo 39 = .ok (.if_icmp .ge 28, 3) := by decide +kernel
theorem dX12_undo_42 : decode cX12_undo 42 = .ok (.aload_n 0, 1) := by decide +kernel
theorem dX12_undo_43 : decode cX12_undo 43 = .ok (.getfield 7, 3) := by decide +kernel
theorem dX12_undo_46 : decode cX12_undo 46 = .ok (.bipush 8, 2) := by decide +kernel
theorem dX12_undo_48 : decode cX12_undo 48 = .ok (.iload_n 2, 1) := by decide +kernel
theorem dX12_undo_49 : decode cX12_undo 49 = .ok (.iadd, 1) := by decide +kernel
theorem dX12_undo_50 : decode cX12_undo 50 = .ok (.aload_n 0, 1) := by decide +kernel
theorem dX12_undo_51 : decode cX12_undo 51 = .ok (.getfield 7, 3) := by decide +kernel
theorem dX12_undo_54 : decode cX12_undo 54 = .ok (.iload_n 1, 1) := by decide +kernel
theorem dX12_undo_55 : decode cX12_undo 55 = .ok (.iconst 1, 1) := by decide +kernel
theorem dX12_undo_56 : decode cX12_undo 56 = .ok (.iadd, 1) := by decide +kernel
theorem dX12_undo_57 : decode cX12_undo 57 = .ok (.iload_n 2, 1) := by decide +kernel
theorem dX12_undo_58 : decode cX12_undo 58 = .ok (.iadd, 1) := by decide +kernel
theorem dX12_undo_59 : decode cX12_undo 59 = .ok (.iaload, 1) := by decide +kernel
theorem dX12_undo_60 : decode cX12_undo 60 = .ok (.iastore, 1) := by decide +kernel
theorem dX12_undo_61 : decode cX12_undo 61 = .ok (.iinc 2 1, 3) := by decide +kernel
theorem dX12_undo_64 : decode cX12_undo 64 = .ok (.goto (-28), 3) := by decide +kernel
theorem dX12_undo_67 : decode cX12_undo 67 = .ok (.aload_n 0, 1) := by decide +kernel
theorem dX12_undo_68 : decode cX12_undo 68 = .ok (.getfield 7, 3) := by decide +kernel
theorem dX12_undo_71 : decode cX12_undo 71 = .ok (.iload_n 1, 1) := by decide +kernel
theorem dX12_undo_72 : decode cX12_undo 72 = .ok (.iaload, 1) := by decide +kernel
theorem dX12_undo_73 : decode cX12_undo 73 = .ok (.istore_n 2, 1) := by decide +kernel
theorem dX12_undo_74 : decode cX12_undo 74 = .ok (.iload_n 2, 1) := by decide +kernel
theorem dX12_undo_75 : decode cX12_undo 75 = .ok (.aload_n 0, 1) := by decide +kernel
theorem dX12_undo_76 : decode cX12_undo 76 = .ok (.getfield 7, 3) := by decide +kernel
theorem dX12_undo_79 : decode cX12_undo 79 = .ok (.iconst 0, 1) := by decide +kernel
theorem dX12_undo_80 : decode cX12_undo 80 = .ok (.iaload, 1) := by decide +kernel
theorem dX12_undo_81 : decode cX12_undo 81 = .ok (.if_icmp .ge 14, 3) := by decide +kernel
theorem dX12_undo_84 : decode cX12_undo 84 = .ok (.aload_n 0, 1) := by decide +kernel
theorem dX12_undo_85 : decode cX12_undo 85 = .ok (.iload_n 2, 1) := by decide +kernel
theorem dX12_undo_86 : decode cX12_undo 86 = .ok (.invokevirtual 104, 3) := by decide +kernel
theorem dX12_undo_89 : decode cX12_undo 89 = .ok (.iinc 2 1, 3) := by decide +kernel
theorem dX12_undo_92 : decode cX12_undo 92 = .ok (.goto (-18), 3) := by decide +kernel
theorem dX12_undo_95 : decode cX12_undo 95 = .ok (.iconst 0, 1) := by decide +kernel
theorem dX12_undo_96 : decode cX12_undo 96 = .ok (.istore_n 2, 1) := by decide +kernel
theorem dX12_undo_97 : decode cX12_undo 97 = .ok (.iload_n 2, 1) := by decide +kernel
theorem dX12_undo_98 : decode cX12_undo 98 = .ok (.bipush 30, 2) := by decide +kernel
theorem dX12_undo_100 : decode cX12_undo 100 = .ok (.if_icmp .ge 32, 3) := by decide +kernel
theorem dX12_undo_103 : decode cX12_undo 103 = .ok (.aload_n 0, 1) := by decide +kernel
theorem dX12_undo_104 : decode cX12_undo 104 = .ok (.getfield 7, 3) := by decide +kernel
theorem dX12_undo_107 : decode cX12_undo 107 = .ok (.sipush 1355, 3) := by decide +kernel
theorem dX12_undo_110 : decode cX12_undo 110 = .ok (.iload_n 2, 1) := by decide +kernel
theorem dX12_undo_111 : decode cX12_undo 111 = .ok (.iadd, 1) := by decide +kernel
theorem dX12_undo_112 : decode cX12_undo 112 = .ok (.aload_n 0, 1) := by decide +kernel
theorem dX12_undo_113 : decode cX12_undo 113 = .ok (.getfield 7, 3) := by decide +kernel
theorem dX12_undo_116 : decode cX12_undo 116 = .ok (.iload_n 1, 1) := by decide +kernel
theorem dX12_undo_117 : decode cX12_undo 117 = .ok (.iconst 1, 1) := by decide +kernel
theorem dX12_undo_118 : decode cX12_undo 118 = .ok (.iadd, 1) := by decide +kernel
theorem dX12_undo_119 : decode cX12_undo 119 = .ok (.bipush 12, 2) := by decide +kernel
theorem dX12_undo_121 : decode cX12_undo 121 = .ok (.iadd, 1) := by decide +kernel
theorem dX12_undo_122 : decode cX12_undo 122 = .ok (.iload_n 2, 1) := by decide +kernel
theorem dX12_undo_123 : decode cX12_undo 123 = .ok (.iadd, 1) := by decide +kernel
theorem dX12_undo_124 : decode cX12_undo 124 = .ok (.iaload, 1) := by decide +kernel
theorem dX12_undo_125 : decode cX12_undo 125 = .ok (.iastore, 1) := by decide +kernel
theorem dX12_undo_126 : decode cX12_undo 126 = .ok (.iinc 2 1, 3) := by decide +kernel
theorem dX12_undo_129 : decode cX12_undo 129 = .ok (.goto (-32), 3) := by decide +kernel
theorem dX12_undo_132 : decode cX12_undo 132 = .ok (.aload_n 0, 1) := by decide +kernel
theorem dX12_undo_133 : decode cX12_undo 133 = .ok (.getfield 7, 3) := by decide +kernel
theorem dX12_undo_136 : decode cX12_undo 136 = .ok (.iconst 4, 1) := by decide +kernel
theorem dX12_undo_137 : decode cX12_undo 137 = .ok (.iaload, 1) := by decide +kernel
theorem dX12_undo_138 : decode cX12_undo 138 = .ok (.ireturn, 1) := by decide +kernel
def Md_undo_97 : Nat → Int32 → Int32 → Nm → Option (Int32 × Nm)
  | 0, _, _, _ => none
  | f + 1, x1, x2, ν =>
    (if (30 : Int32) ≤ x2 then
      some ((gi ν 314 4), ν)
    else
      if inb (((x1 + (1 : Int32)) + (12 : Int32)) + x2) 1385 then
      if inb ((1355 : Int32) + x2) 1385 then
      (Md_undo_97 f) x1 (x2 + (1 : Int32)) (si ν 314 ((1355 : Int32) + x2).toNatClampNeg (gi ν 314 (((x1 + (1 : Int32)) + (12 : Int32)) + x2).toNatClampNeg))
      else none
      else none)
set_option maxRecDepth 100000 in
set_option maxHeartbeats 4000000 in
theorem t_Md_undo_97 {g : GG} {d : Nat} (hd0 : 3 ≤ d) : ∀ (f : Nat), ∀ (x1 : Int32) (x2 : Int32) (ν : Nm) (r : (Int32 × Nm)), Md_undo_97 f x1 x2 ν = some r → Z g d (0, 0) mX12_undo 333 0 0 97 [(0, .ref 313), (1, .int x1), (2, .int x2)] [] (zem ν) (zF g (some (.int r.1), zem r.2)) := by
  intro f
  induction f with
  | zero =>
    intro x1 x2 ν r h
    cases h
  | succ f ih =>
    intro x1 x2 ν r h
    rw [Md_undo_97] at h
    refine z_iload_n dX12_undo_97 2 rfl ?_
    refine z_bipush (M := mX12_undo) (v := 30) dX12_undo_98 rfl ?_
    refine z_icmp_ge 132 dX12_undo_100 rfl (fun hc1 => ?_) (fun hc1 => ?_)
    · replace h := oT hc1 h
      refine z_aload_n dX12_undo_132 0 rfl ?_
      refine y_getR (M := mX12_undo) (r := 314) dX12_undo_133 zk_313 flRX12_7 fr_10_0.1 (fr_10_0.2 _) ?_
      refine z_iconst (M := mX12_undo) (v := 4) dX12_undo_136 rfl ?_
      refine y_iald (M := mX12_undo) (jj := 4) dX12_undo_137 zk_314 rfl rfl ?_
      cases h
      exact z_iret dX12_undo_138 rfl
    · replace h := oF hc1 h
      refine z_aload_n dX12_undo_103 0 rfl ?_
      refine y_getR (M := mX12_undo) (r := 314) dX12_undo_104 zk_313 flRX12_7 fr_10_0.1 (fr_10_0.2 _) ?_
      refine z_sipush (M := mX12_undo) (v := 1355) dX12_undo_107 rfl ?_
      refine z_iload_n dX12_undo_110 2 rfl ?_
      refine z_iadd dX12_undo_111 ?_
      refine z_aload_n dX12_undo_112 0 rfl ?_
      refine y_getR (M := mX12_undo) (r := 314) dX12_undo_113 zk_313 flRX12_7 fr_10_0.1 (fr_10_0.2 _) ?_
      refine z_iload_n dX12_undo_116 1 rfl ?_
      refine z_iconst (M := mX12_undo) (v := 1) dX12_undo_117 rfl ?_
      refine z_iadd dX12_undo_118 ?_
      refine z_bipush (M := mX12_undo) (v := 12) dX12_undo_119 rfl ?_
      refine z_iadd dX12_undo_121 ?_
      refine z_iload_n dX12_undo_122 2 rfl ?_
      refine z_iadd dX12_undo_123 ?_
      obtain ⟨hi2, h⟩ := oif h
      refine y_iald (M := mX12_undo) (jj := (((x1 + (1 : Int32)) + (12 : Int32)) + x2).toNatClampNeg) dX12_undo_124 zk_314 hi2 rfl ?_
      obtain ⟨hi3, h⟩ := oif h
      refine y_iast (M := mX12_undo) (jj := ((1355 : Int32) + x2).toNatClampNeg) dX12_undo_125 zk_314 hi3 rfl ?_
      refine z_iinc (M := mX12_undo) (v := (x2 + (1 : Int32))) (lv2 := [(2, .int (x2 + (1 : Int32))), (0, .ref 313), (1, .int x1)]) dX12_undo_126 2 rfl rfl (Nat.le_of_ble_eq_true rfl) rfl ?_
      refine z_goto 97 dX12_undo_129 rfl ?_
      refine z_lv (lv2 := [(0, .ref 313), (1, .int x1), (2, .int (x2 + (1 : Int32)))]) [1, 2, 0] rfl ?_
      exact ih x1 (x2 + (1 : Int32)) (si ν 314 ((1355 : Int32) + x2).toNatClampNeg (gi ν 314 (((x1 + (1 : Int32)) + (12 : Int32)) + x2).toNatClampNeg)) _ h
def Md_undo_74 : Nat → Int32 → Int32 → Nm → Option (Int32 × Nm)
  | 0, _, _, _ => none
  | f + 1, x1, x2, ν =>
    (if (gi ν 314 0) ≤ x2 then
      Md_undo_97 FU x1 (0 : Int32) ν
    else
      (Md_begin x2 ν).bind fun v2 =>
      (Md_undo_74 f) x1 (x2 + (1 : Int32)) v2)
set_option maxRecDepth 100000 in
set_option maxHeartbeats 4000000 in
theorem t_Md_undo_74 {g : GG} {d : Nat} (hd0 : 3 ≤ d) : ∀ (f : Nat), ∀ (x1 : Int32) (x2 : Int32) (ν : Nm) (r : (Int32 × Nm)), Md_undo_74 f x1 x2 ν = some r → Z g d (0, 0) mX12_undo 333 0 0 74 [(0, .ref 313), (1, .int x1), (2, .int x2)] [] (zem ν) (zF g (some (.int r.1), zem r.2)) := by
  intro f
  induction f with
  | zero =>
    intro x1 x2 ν r h
    cases h
  | succ f ih =>
    intro x1 x2 ν r h
    rw [Md_undo_74] at h
    refine z_iload_n dX12_undo_74 2 rfl ?_
    refine z_aload_n dX12_undo_75 0 rfl ?_
    refine y_getR (M := mX12_undo) (r := 314) dX12_undo_76 zk_313 flRX12_7 fr_10_0.1 (fr_10_0.2 _) ?_
    refine z_iconst (M := mX12_undo) (v := 0) dX12_undo_79 rfl ?_
    refine y_iald (M := mX12_undo) (jj := 0) dX12_undo_80 zk_314 rfl rfl ?_
    refine z_icmp_ge 95 dX12_undo_81 rfl (fun hc1 => ?_) (fun hc1 => ?_)
    · replace h := oT hc1 h
      refine z_iconst (M := mX12_undo) (v := 0) dX12_undo_95 rfl ?_
      refine z_istore_n (M := mX12_undo) (lv2 := [(2, .int (0 : Int32)), (0, .ref 313), (1, .int x1)]) dX12_undo_96 (Nat.le_of_ble_eq_true rfl) rfl ?_
      refine z_lv (lv2 := [(0, .ref 313), (1, .int x1), (2, .int (0 : Int32))]) [1, 2, 0] rfl ?_
      exact t_Md_undo_97 hd0 FU x1 (0 : Int32) ν _ h
    · replace h := oF hc1 h
      refine z_aload_n dX12_undo_84 0 rfl ?_
      refine z_iload_n dX12_undo_85 2 rfl ?_
      obtain ⟨v2, he2, h⟩ := obind h
      refine y_Vv (M := mX12_undo) (Y := mX12_begin) (d2 := d - 1) (As := [.int x2]) (st := []) dX12_undo_86 mlRX12_104 cv_X12_begin zk_313 (ct_Md_begin (dle (Nat.le_of_ble_eq_true rfl) hd0) he2) (dps (Nat.le_of_ble_eq_true rfl) hd0) rfl rfl (Nat.le_of_ble_eq_true rfl) ?_
      refine z_iinc (M := mX12_undo) (v := (x2 + (1 : Int32))) (lv2 := [(2, .int (x2 + (1 : Int32))), (0, .ref 313), (1, .int x1)]) dX12_undo_89 2 rfl rfl (Nat.le_of_ble_eq_true rfl) rfl ?_
      refine z_goto 74 dX12_undo_92 rfl ?_
      refine z_lv (lv2 := [(0, .ref 313), (1, .int x1), (2, .int (x2 + (1 : Int32)))]) [1, 2, 0] rfl ?_
      exact ih x1 (x2 + (1 : Int32)) v2 _ h
def Md_undo_36 : Nat → Int32 → Int32 → Nm → Option (Int32 × Nm)
  | 0, _, _, _ => none
  | f + 1, x1, x2, ν =>
    (if (12 : Int32) ≤ x2 then
      if inb x1 1385 then
      Md_undo_74 FU x1 (gi ν 314 x1.toNatClampNeg) ν
      else none
    else
      if inb ((x1 + (1 : Int32)) + x2) 1385 then
      if inb ((8 : Int32) + x2) 1385 then
      (Md_undo_36 f) x1 (x2 + (1 : Int32)) (si ν 314 ((8 : Int32) + x2).toNatClampNeg (gi ν 314 ((x1 + (1 : Int32)) + x2).toNatClampNeg))
      else none
      else none)
set_option maxRecDepth 100000 in
set_option maxHeartbeats 4000000 in
theorem t_Md_undo_36 {g : GG} {d : Nat} (hd0 : 3 ≤ d) : ∀ (f : Nat), ∀ (x1 : Int32) (x2 : Int32) (ν : Nm) (r : (Int32 × Nm)), Md_undo_36 f x1 x2 ν = some r → Z g d (0, 0) mX12_undo 333 0 0 36 [(0, .ref 313), (1, .int x1), (2, .int x2)] [] (zem ν) (zF g (some (.int r.1), zem r.2)) := by
  intro f
  induction f with
  | zero =>
    intro x1 x2 ν r h
    cases h
  | succ f ih =>
    intro x1 x2 ν r h
    rw [Md_undo_36] at h
    refine z_iload_n dX12_undo_36 2 rfl ?_
    refine z_bipush (M := mX12_undo) (v := 12) dX12_undo_37 rfl ?_
    refine z_icmp_ge 67 dX12_undo_39 rfl (fun hc1 => ?_) (fun hc1 => ?_)
    · replace h := oT hc1 h
      refine z_aload_n dX12_undo_67 0 rfl ?_
      refine y_getR (M := mX12_undo) (r := 314) dX12_undo_68 zk_313 flRX12_7 fr_10_0.1 (fr_10_0.2 _) ?_
      refine z_iload_n dX12_undo_71 1 rfl ?_
      obtain ⟨hi2, h⟩ := oif h
      refine y_iald (M := mX12_undo) (jj := x1.toNatClampNeg) dX12_undo_72 zk_314 hi2 rfl ?_
      refine z_istore_n (M := mX12_undo) (lv2 := [(2, .int (gi ν 314 x1.toNatClampNeg)), (0, .ref 313), (1, .int x1)]) dX12_undo_73 (Nat.le_of_ble_eq_true rfl) rfl ?_
      refine z_lv (lv2 := [(0, .ref 313), (1, .int x1), (2, .int (gi ν 314 x1.toNatClampNeg))]) [1, 2, 0] rfl ?_
      exact t_Md_undo_74 hd0 FU x1 (gi ν 314 x1.toNatClampNeg) ν _ h
    · replace h := oF hc1 h
      refine z_aload_n dX12_undo_42 0 rfl ?_
      refine y_getR (M := mX12_undo) (r := 314) dX12_undo_43 zk_313 flRX12_7 fr_10_0.1 (fr_10_0.2 _) ?_
      refine z_bipush (M := mX12_undo) (v := 8) dX12_undo_46 rfl ?_
      refine z_iload_n dX12_undo_48 2 rfl ?_
      refine z_iadd dX12_undo_49 ?_
      refine z_aload_n dX12_undo_50 0 rfl ?_
      refine y_getR (M := mX12_undo) (r := 314) dX12_undo_51 zk_313 flRX12_7 fr_10_0.1 (fr_10_0.2 _) ?_
      refine z_iload_n dX12_undo_54 1 rfl ?_
      refine z_iconst (M := mX12_undo) (v := 1) dX12_undo_55 rfl ?_
      refine z_iadd dX12_undo_56 ?_
      refine z_iload_n dX12_undo_57 2 rfl ?_
      refine z_iadd dX12_undo_58 ?_
      obtain ⟨hi3, h⟩ := oif h
      refine y_iald (M := mX12_undo) (jj := ((x1 + (1 : Int32)) + x2).toNatClampNeg) dX12_undo_59 zk_314 hi3 rfl ?_
      obtain ⟨hi4, h⟩ := oif h
      refine y_iast (M := mX12_undo) (jj := ((8 : Int32) + x2).toNatClampNeg) dX12_undo_60 zk_314 hi4 rfl ?_
      refine z_iinc (M := mX12_undo) (v := (x2 + (1 : Int32))) (lv2 := [(2, .int (x2 + (1 : Int32))), (0, .ref 313), (1, .int x1)]) dX12_undo_61 2 rfl rfl (Nat.le_of_ble_eq_true rfl) rfl ?_
      refine z_goto 36 dX12_undo_64 rfl ?_
      refine z_lv (lv2 := [(0, .ref 313), (1, .int x1), (2, .int (x2 + (1 : Int32)))]) [1, 2, 0] rfl ?_
      exact ih x1 (x2 + (1 : Int32)) (si ν 314 ((8 : Int32) + x2).toNatClampNeg (gi ν 314 ((x1 + (1 : Int32)) + x2).toNatClampNeg)) _ h
def Md_undo (ν : Nm) : Option (Int32 × Nm) :=
  (if ¬ (gi ν 314 4) = 0 then
    Md_undo_36 FU ((65 : Int32) + ((43 : Int32) * (gi (si ν 314 4 ((gi ν 314 4) - (1 : Int32))) 314 4))) (0 : Int32) (si ν 314 4 ((gi ν 314 4) - (1 : Int32)))
  else
    some ((-1 : Int32), ν))
set_option maxRecDepth 100000 in
set_option maxHeartbeats 4000000 in
theorem t_Md_undo {g : GG} {d : Nat} (hd0 : 3 ≤ d) : ∀ (ν : Nm) (r : (Int32 × Nm)), Md_undo ν = some r → Z g d (0, 0) mX12_undo 333 0 0 0 [(0, .ref 313)] [] (zem ν) (zF g (some (.int r.1), zem r.2)) := by
  intro ν r h
  unfold Md_undo at h
  refine z_aload_n dX12_undo_0 0 rfl ?_
  refine y_getR (M := mX12_undo) (r := 314) dX12_undo_1 zk_313 flRX12_7 fr_10_0.1 (fr_10_0.2 _) ?_
  refine z_iconst (M := mX12_undo) (v := 4) dX12_undo_4 rfl ?_
  refine y_iald (M := mX12_undo) (jj := 4) dX12_undo_5 zk_314 rfl rfl ?_
  refine z_if_ne 11 dX12_undo_6 rfl (fun hc1 => ?_) (fun hc1 => ?_)
  · replace h := oT hc1 h
    refine z_aload_n dX12_undo_11 0 rfl ?_
    refine y_getR (M := mX12_undo) (r := 314) dX12_undo_12 zk_313 flRX12_7 fr_10_0.1 (fr_10_0.2 _) ?_
    refine z_iconst (M := mX12_undo) (v := 4) dX12_undo_15 rfl ?_
    refine z_dup2 dX12_undo_16 rfl rfl ?_
    refine y_iald (M := mX12_undo) (jj := 4) dX12_undo_17 zk_314 rfl rfl ?_
    refine z_iconst (M := mX12_undo) (v := 1) dX12_undo_18 rfl ?_
    refine z_isub dX12_undo_19 ?_
    refine y_iast (M := mX12_undo) (jj := 4) dX12_undo_20 zk_314 rfl rfl ?_
    refine z_bipush (M := mX12_undo) (v := 65) dX12_undo_21 rfl ?_
    refine z_bipush (M := mX12_undo) (v := 43) dX12_undo_23 rfl ?_
    refine z_aload_n dX12_undo_25 0 rfl ?_
    refine y_getR (M := mX12_undo) (r := 314) dX12_undo_26 zk_313 flRX12_7 fr_10_0.1 (fr_10_0.2 _) ?_
    refine z_iconst (M := mX12_undo) (v := 4) dX12_undo_29 rfl ?_
    refine y_iald (M := mX12_undo) (jj := 4) dX12_undo_30 zk_314 rfl rfl ?_
    refine z_imul dX12_undo_31 ?_
    refine z_iadd dX12_undo_32 ?_
    refine z_istore_n (M := mX12_undo) (lv2 := [(1, .int ((65 : Int32) + ((43 : Int32) * (gi (si ν 314 4 ((gi ν 314 4) - (1 : Int32))) 314 4)))), (0, .ref 313)]) dX12_undo_33 (Nat.le_of_ble_eq_true rfl) rfl ?_
    refine z_iconst (M := mX12_undo) (v := 0) dX12_undo_34 rfl ?_
    refine z_istore_n (M := mX12_undo) (lv2 := [(2, .int (0 : Int32)), (1, .int ((65 : Int32) + ((43 : Int32) * (gi (si ν 314 4 ((gi ν 314 4) - (1 : Int32))) 314 4)))), (0, .ref 313)]) dX12_undo_35 (Nat.le_of_ble_eq_true rfl) rfl ?_
    refine z_lv (lv2 := [(0, .ref 313), (1, .int ((65 : Int32) + ((43 : Int32) * (gi (si ν 314 4 ((gi ν 314 4) - (1 : Int32))) 314 4)))), (2, .int (0 : Int32))]) [2, 1, 0] rfl ?_
    exact t_Md_undo_36 hd0 FU ((65 : Int32) + ((43 : Int32) * (gi (si ν 314 4 ((gi ν 314 4) - (1 : Int32))) 314 4))) (0 : Int32) (si ν 314 4 ((gi ν 314 4) - (1 : Int32))) _ h
  · replace h := oFn hc1 h
    refine z_iconst (M := mX12_undo) (v := -1) dX12_undo_9 rfl ?_
    cases h
    exact z_iret dX12_undo_10 rfl
theorem ct_Md_undo {g : GG} {d : Nat} {ν : Nm} {r : (Int32 × Nm)} (hd0 : 3 ≤ d)  (h : Md_undo ν = some r) : Ct g d mX12_undo [.ref 313] (zem ν) (some (.int r.1), zem r.2) := y_entry in_X12_undo (Nat.le_of_ble_eq_true rfl) rfl (t_Md_undo hd0 ν r h)
-- FuseMinutesModel.canPass()Z
theorem dX12_canPass_0 : decode cX12_canPass 0 = .ok (.aload_n 0, 1) := by decide +kernel
theorem dX12_canPass_1 : decode cX12_canPass 1 = .ok (.getfield 7, 3) := by decide +kernel
theorem dX12_canPass_4 : decode cX12_canPass 4 = .ok (.bipush 8, 2) := by decide +kernel
theorem dX12_canPass_6 : decode cX12_canPass 6 = .ok (.iaload, 1) := by decide +kernel
theorem dX12_canPass_7 : decode cX12_canPass 7 = .ok (.bipush 64, 2) := by decide +kernel
theorem dX12_canPass_9 : decode cX12_canPass 9 = .ok (.iadd, 1) := by decide +kernel
theorem dX12_canPass_10 : decode cX12_canPass 10 = .ok (.ldc_w 336, 3) := by decide +kernel
theorem dX12_canPass_13 : decode cX12_canPass 13 = .ok (.if_icmp .gt 7, 3) := by decide +kernel
theorem dX12_canPass_16 : decode cX12_canPass 16 = .ok (.iconst 1, 1) := by decide +kernel
theorem dX12_canPass_17 : decode cX12_canPass 17 = .ok (.goto 4, 3) := by decide +kernel
theorem dX12_canPass_20 : decode cX12_canPass 20 = .ok (.iconst 0, 1) := by decide +kernel
theorem dX12_canPass_21 : decode cX12_canPass 21 = .ok (.ireturn, 1) := by decide +kernel
def Md_canPass (ν : Nm) : Option Bool :=
  (if (639936 : Int32) < ((gi ν 314 8) + (64 : Int32)) then
    some false
  else
    some true)
set_option maxRecDepth 100000 in
set_option maxHeartbeats 4000000 in
theorem t_Md_canPass {g : GG} {d : Nat} {ν : Nm} (hd0 : 1 ≤ d) : ∀ (r : Bool), Md_canPass ν = some r → Z g d (0, 0) mX12_canPass 333 0 0 0 [(0, .ref 313)] [] (zem ν) (zF g (some (.int (b2i r)), zem ν)) := by
  intro r h
  unfold Md_canPass at h
  refine z_aload_n dX12_canPass_0 0 rfl ?_
  refine y_getR (M := mX12_canPass) (r := 314) dX12_canPass_1 zk_313 flRX12_7 fr_10_0.1 (fr_10_0.2 _) ?_
  refine z_bipush (M := mX12_canPass) (v := 8) dX12_canPass_4 rfl ?_
  refine y_iald (M := mX12_canPass) (jj := 8) dX12_canPass_6 zk_314 rfl rfl ?_
  refine z_bipush (M := mX12_canPass) (v := 64) dX12_canPass_7 rfl ?_
  refine z_iadd dX12_canPass_9 ?_
  refine z_ldcw dX12_canPass_10 csRX12_336 ?_
  refine z_icmp_gt 20 dX12_canPass_13 rfl (fun hc1 => ?_) (fun hc1 => ?_)
  · replace h := oT hc1 h
    refine z_iconst (M := mX12_canPass) (v := 0) dX12_canPass_20 rfl ?_
    cases h
    exact z_zret dX12_canPass_21 rfl rfl
  · replace h := oF hc1 h
    refine z_iconst (M := mX12_canPass) (v := 1) dX12_canPass_16 rfl ?_
    refine z_goto 21 dX12_canPass_17 rfl ?_
    cases h
    exact z_zret dX12_canPass_21 rfl rfl
theorem ct_Md_canPass {g : GG} {d : Nat} {ν : Nm} {r : Bool} (hd0 : 1 ≤ d)  (h : Md_canPass ν = some r) : Ct g d mX12_canPass [.ref 313] (zem ν) (some (.int (b2i r)), zem ν) := y_entry in_X12_canPass (Nat.le_of_ble_eq_true rfl) rfl (t_Md_canPass hd0 r h)
-- FuseMinutesModel.keep()V
theorem dX12_keep_0 : decode cX12_keep 0 = .ok (.aload_n 0, 1) := by decide +kernel
theorem dX12_keep_1 : decode cX12_keep 1 = .ok (.getfield 7, 3) := by decide +kernel
theorem dX12_keep_4 : decode cX12_keep 4 = .ok (.iconst 4, 1) := by decide +kernel
theorem dX12_keep_5 : decode cX12_keep 5 = .ok (.iaload, 1) := by decide +kernel
theorem dX12_keep_6 : decode cX12_keep 6 = .ok (.bipush 30, 2) := by decide +kernel
theorem dX12_keep_8 : decode cX12_keep 8 = .ok (.if_icmp .ne 46, 3) := by decide +kernel
theorem dX12_keep_11 : decode cX12_keep 11 = .ok (.iconst 0, 1) := by decide +kernel
theorem dX12_keep_12 : decode cX12_keep 12 = .ok (.istore_n 1, 1) := by decide +kernel
theorem dX12_keep_13 : decode cX12_keep 13 = .ok (.iload_n 1, 1) := by decide +kernel
theorem dX12_keep_14 : decode cX12_keep 14 = .ok (.sipush 1247, 3) := by decide +kernel
theorem dX12_keep_17 : decode cX12_keep 17 = .ok (.if_icmp .ge 27, 3) := by decide +kernel
theorem dX12_keep_20 : decode cX12_keep 20 = .ok (.aload_n 0, 1) := by decide +kernel
theorem dX12_keep_21 : decode cX12_keep 21 = .ok (.getfield 7, 3) := by decide +kernel
theorem dX12_keep_24 : decode cX12_keep 24 = .ok (.bipush 65, 2) := by decide +kernel
theorem dX12_keep_26 : decode cX12_keep 26 = .ok (.iload_n 1, 1) := by decide +kernel
theorem dX12_keep_27 : decode cX12_keep 27 = .ok (.iadd, 1) := by decide +kernel
theorem dX12_keep_28 : decode cX12_keep 28 = .ok (.aload_n 0, 1) := by decide +kernel
theorem dX12_keep_29 : decode cX12_keep 29 = .ok (.getfield 7, 3) := by decide +kernel
theorem dX12_keep_32 : decode cX12_keep 32 = .ok (.bipush 108, 2) := by decide +kernel
theorem dX12_keep_34 : decode cX12_keep 34 = .ok (.iload_n 1, 1) := by decide +kernel
theorem dX12_keep_35 : decode cX12_keep 35 = .ok (.iadd, 1) := by decide +kernel
theorem dX12_keep_36 : decode cX12_keep 36 = .ok (.iaload, 1) := by decide +kernel
theorem dX12_keep_37 : decode cX12_keep 37 = .ok (.iastore, 1) := by decide +kernel
theorem dX12_keep_38 : decode cX12_keep 38 = .ok (.iinc 1 1, 3) := by decide +kernel
theorem dX12_keep_41 : decode cX12_keep 41 = .ok (.goto (-28), 3) := by decide +kernel
theorem dX12_keep_44 : decode cX12_keep 44 = .ok (.aload_n 0, 1) := by decide +kernel
theorem dX12_keep_45 : decode cX12_keep 45 = .ok (.getfield 7, 3) := by decide +kernel
theorem dX12_keep_48 : decode cX12_keep 48 = .ok (.iconst 4, 1) := by decide +kernel
theorem dX12_keep_49 : decode cX12_keep 49 = .ok (.dup2, 1) := by decide +kernel
theorem dX12_keep_50 : decode cX12_keep 50 = .ok (.iaload, 1) := by decide +kernel
theorem dX12_keep_51 : decode cX12_keep 51 = .ok (.iconst 1, 1) := by decide +kernel
theorem dX12_keep_52 : decode cX12_keep 52 = .ok (.isub, 1) := by decide +kernel
theorem dX12_keep_53 : decode cX12_keep 53 = .ok (.iastore, 1) := by decide +kernel
theorem dX12_keep_54 : decode cX12_keep 54 = .ok (.bipush 65, 2) := by decide +kernel
theorem dX12_keep_56 : decode cX12_keep 56 = .ok (.bipush 43, 2) := by decide +kernel
theorem dX12_keep_58 : decode cX12_keep 58 = .ok (.aload_n 0, 1) := by decide +kernel
theorem dX12_keep_59 : decode cX12_keep 59 = .ok (.getfield 7, 3) := by decide +kernel
theorem dX12_keep_62 : decode cX12_keep 62 = .ok (.iconst 4, 1) := by decide +kernel
theorem dX12_keep_63 : decode cX12_keep 63 = .ok (.iaload, 1) := by decide +kernel
theorem dX12_keep_64 : decode cX12_keep 64 = .ok (.imul, 1) := by decide +kernel
theorem dX12_keep_65 : decode cX12_keep 65 = .ok (.iadd, 1) := by decide +kernel
theorem dX12_keep_66 : decode cX12_keep 66 = .ok (.istore_n 1, 1) := by decide +kernel
theorem dX12_keep_67 : decode cX12_keep 67 = .ok (.aload_n 0, 1) := by decide +kernel
theorem dX12_keep_68 : decode cX12_keep 68 = .ok (.getfield 7, 3) := by decide +kernel
theorem dX12_keep_71 : decode cX12_keep 71 = .ok (.iload_n 1, 1) := by decide +kernel
theorem dX12_keep_72 : decode cX12_keep 72 = .ok (.aload_n 0, 1) := by decide +kernel
theorem dX12_keep_73 : decode cX12_keep 73 = .ok (.getfield 7, 3) := by decide +kernel
theorem dX12_keep_76 : decode cX12_keep 76 = .ok (.iconst 0, 1) := by decide +kernel
theorem dX12_keep_77 : decode cX12_keep 77 = .ok (.iaload, 1) := by decide +kernel
theorem dX12_keep_78 : decode cX12_keep 78 = .ok (.iastore, 1) := by decide +kernel
theorem dX12_keep_79 : decode cX12_keep 79 = .ok (.iconst 0, 1) := by decide +kernel
theorem dX12_keep_80 : decode cX12_keep 80 = .ok (.istore_n 2, 1) := by decide +kernel
theorem dX12_keep_81 : decode cX12_keep 81 = .ok (.iload_n 2, 1) := by decide +kernel
theorem dX12_keep_82 : decode cX12_keep 82 = .ok (.bipush 12, 2) := by decide +kernel
theorem dX12_keep_84 : decode cX12_keep 84 = .ok (.if_icmp .ge 28, 3) := by decide +kernel
theorem dX12_keep_87 : decode cX12_keep 87 = .ok (.aload_n 0, 1) := by decide +kernel
theorem dX12_keep_88 : decode cX12_keep 88 = .ok (.getfield 7, 3) := by decide +kernel
theorem dX12_keep_91 : decode cX12_keep 91 = .ok (.iload_n 1, 1) := by decide +kernel
theorem dX12_keep_92 : decode cX12_keep 92 = .ok (.iconst 1, 1) := by decide +kernel
theorem dX12_keep_93 : decode cX12_keep 93 = .ok (.iadd, 1) := by decide +kernel
theorem dX12_keep_94 : decode cX12_keep 94 = .ok (.iload_n 2, 1) := by decide +kernel
theorem dX12_keep_95 : decode cX12_keep 95 = .ok (.iadd, 1) := by decide +kernel
theorem dX12_keep_96 : decode cX12_keep 96 = .ok (.aload_n 0, 1) := by decide +kernel
theorem dX12_keep_97 : decode cX12_keep 97 = .ok (.getfield 7, 3) := by decide +kernel
theorem dX12_keep_100 : decode cX12_keep 100 = .ok (.bipush 8, 2) := by decide +kernel
theorem dX12_keep_102 : decode cX12_keep 102 = .ok (.iload_n 2, 1) := by decide +kernel
theorem dX12_keep_103 : decode cX12_keep 103 = .ok (.iadd, 1) := by decide +kernel
theorem dX12_keep_104 : decode cX12_keep 104 = .ok (.iaload, 1) := by decide +kernel
theorem dX12_keep_105 : decode cX12_keep 105 = .ok (.iastore, 1) := by decide +kernel
theorem dX12_keep_106 : decode cX12_keep 106 = .ok (.iinc 2 1, 3) := by decide +kernel
theorem dX12_keep_109 : decode cX12_keep 109 = .ok (.goto (-28), 3) := by decide +kernel
theorem dX12_keep_112 : decode cX12_keep 112 = .ok (.iconst 0, 1) := by decide +kernel
theorem dX12_keep_113 : decode cX12_keep 113 = .ok (.istore_n 2, 1) := by decide +kernel
theorem dX12_keep_114 : decode cX12_keep 114 = .ok (.iload_n 2, 1) := by decide +kernel
theorem dX12_keep_115 : decode cX12_keep 115 = .ok (.bipush 30, 2) := by decide +kernel
theorem dX12_keep_117 : decode cX12_keep 117 = .ok (.if_icmp .ge 32, 3) := by decide +kernel
theorem dX12_keep_120 : decode cX12_keep 120 = .ok (.aload_n 0, 1) := by decide +kernel
theorem dX12_keep_121 : decode cX12_keep 121 = .ok (.getfield 7, 3) := by decide +kernel
theorem dX12_keep_124 : decode cX12_keep 124 = .ok (.iload_n 1, 1) := by decide +kernel
theorem dX12_keep_125 : decode cX12_keep 125 = .ok (.iconst 1, 1) := by decide +kernel
theorem dX12_keep_126 : decode cX12_keep 126 = .ok (.iadd, 1) := by decide +kernel
theorem dX12_keep_127 : decode cX12_keep 127 = .ok (.bipush 12, 2) := by decide +kernel
theorem dX12_keep_129 : decode cX12_keep 129 = .ok (.iadd, 1) := by decide +kernel
theorem dX12_keep_130 : decode cX12_keep 130 = .ok (.iload_n 2, 1) := by decide +kernel
theorem dX12_keep_131 : decode cX12_keep 131 = .ok (.iadd, 1) := by decide +kernel
theorem dX12_keep_132 : decode cX12_keep 132 = .ok (.aload_n 0, 1) := by decide +kernel
theorem dX12_keep_133 : decode cX12_keep 133 = .ok (.getfield 7, 3) := by decide +kernel
theorem dX12_keep_136 : decode cX12_keep 136 = .ok (.sipush 1355, 3) := by decide +kernel
theorem dX12_keep_139 : decode cX12_keep 139 = .ok (.iload_n 2, 1) := by decide +kernel
theorem dX12_keep_140 : decode cX12_keep 140 = .ok (.iadd, 1) := by decide +kernel
theorem dX12_keep_141 : decode cX12_keep 141 = .ok (.iaload, 1) := by decide +kernel
theorem dX12_keep_142 : decode cX12_keep 142 = .ok (.iastore, 1) := by decide +kernel
theorem dX12_keep_143 : decode cX12_keep 143 = .ok (.iinc 2 1, 3) := by decide +kernel
theorem dX12_keep_146 : decode cX12_keep 146 = .ok (.goto (-32), 3) := by decide +kernel
theorem dX12_keep_149 : decode cX12_keep 149 = .ok (.aload_n 0, 1) := by decide +kernel
theorem dX12_keep_150 : decode cX12_keep 150 = .ok (.getfield 7, 3) := by decide +kernel
theorem dX12_keep_153 : decode cX12_keep 153 = .ok (.iconst 4, 1) := by decide +kernel
theorem dX12_keep_154 : decode cX12_keep 154 = .ok (.dup2, 1) := by decide +kernel
theorem dX12_keep_155 : decode cX12_keep 155 = .ok (.iaload, 1) := by decide +kernel
theorem dX12_keep_156 : decode cX12_keep 156 = .ok (.iconst 1, 1) := by decide +kernel
theorem dX12_keep_157 : decode cX12_keep 157 = .ok (.iadd, 1) := by decide +kernel
theorem dX12_keep_158 : decode cX12_keep 158 = .ok (.iastore, 1) := by decide +kernel
theorem dX12_keep_159 : decode cX12_keep 159 = .ok (.return_, 1) := by decide +kernel
def Md_keep_114 : Nat → Int32 → Int32 → Nm → Option Nm
  | 0, _, _, _ => none
  | f + 1, x1, x2, ν =>
    (if (30 : Int32) ≤ x2 then
      some (si ν 314 4 ((gi ν 314 4) + (1 : Int32)))
    else
      if inb ((1355 : Int32) + x2) 1385 then
      if inb (((x1 + (1 : Int32)) + (12 : Int32)) + x2) 1385 then
      (Md_keep_114 f) x1 (x2 + (1 : Int32)) (si ν 314 (((x1 + (1 : Int32)) + (12 : Int32)) + x2).toNatClampNeg (gi ν 314 ((1355 : Int32) + x2).toNatClampNeg))
      else none
      else none)
set_option maxRecDepth 100000 in
set_option maxHeartbeats 4000000 in
theorem t_Md_keep_114 {g : GG} {d : Nat} (hd0 : 1 ≤ d) : ∀ (f : Nat), ∀ (x1 : Int32) (x2 : Int32) (ν : Nm) (r : Nm), Md_keep_114 f x1 x2 ν = some r → Z g d (0, 0) mX12_keep 333 0 0 114 [(0, .ref 313), (1, .int x1), (2, .int x2)] [] (zem ν) (zF g (none, zem r)) := by
  intro f
  induction f with
  | zero =>
    intro x1 x2 ν r h
    cases h
  | succ f ih =>
    intro x1 x2 ν r h
    rw [Md_keep_114] at h
    refine z_iload_n dX12_keep_114 2 rfl ?_
    refine z_bipush (M := mX12_keep) (v := 30) dX12_keep_115 rfl ?_
    refine z_icmp_ge 149 dX12_keep_117 rfl (fun hc1 => ?_) (fun hc1 => ?_)
    · replace h := oT hc1 h
      refine z_aload_n dX12_keep_149 0 rfl ?_
      refine y_getR (M := mX12_keep) (r := 314) dX12_keep_150 zk_313 flRX12_7 fr_10_0.1 (fr_10_0.2 _) ?_
      refine z_iconst (M := mX12_keep) (v := 4) dX12_keep_153 rfl ?_
      refine z_dup2 dX12_keep_154 rfl rfl ?_
      refine y_iald (M := mX12_keep) (jj := 4) dX12_keep_155 zk_314 rfl rfl ?_
      refine z_iconst (M := mX12_keep) (v := 1) dX12_keep_156 rfl ?_
      refine z_iadd dX12_keep_157 ?_
      refine y_iast (M := mX12_keep) (jj := 4) dX12_keep_158 zk_314 rfl rfl ?_
      cases h
      exact z_vret dX12_keep_159 rfl
    · replace h := oF hc1 h
      refine z_aload_n dX12_keep_120 0 rfl ?_
      refine y_getR (M := mX12_keep) (r := 314) dX12_keep_121 zk_313 flRX12_7 fr_10_0.1 (fr_10_0.2 _) ?_
      refine z_iload_n dX12_keep_124 1 rfl ?_
      refine z_iconst (M := mX12_keep) (v := 1) dX12_keep_125 rfl ?_
      refine z_iadd dX12_keep_126 ?_
      refine z_bipush (M := mX12_keep) (v := 12) dX12_keep_127 rfl ?_
      refine z_iadd dX12_keep_129 ?_
      refine z_iload_n dX12_keep_130 2 rfl ?_
      refine z_iadd dX12_keep_131 ?_
      refine z_aload_n dX12_keep_132 0 rfl ?_
      refine y_getR (M := mX12_keep) (r := 314) dX12_keep_133 zk_313 flRX12_7 fr_10_0.1 (fr_10_0.2 _) ?_
      refine z_sipush (M := mX12_keep) (v := 1355) dX12_keep_136 rfl ?_
      refine z_iload_n dX12_keep_139 2 rfl ?_
      refine z_iadd dX12_keep_140 ?_
      obtain ⟨hi2, h⟩ := oif h
      refine y_iald (M := mX12_keep) (jj := ((1355 : Int32) + x2).toNatClampNeg) dX12_keep_141 zk_314 hi2 rfl ?_
      obtain ⟨hi3, h⟩ := oif h
      refine y_iast (M := mX12_keep) (jj := (((x1 + (1 : Int32)) + (12 : Int32)) + x2).toNatClampNeg) dX12_keep_142 zk_314 hi3 rfl ?_
      refine z_iinc (M := mX12_keep) (v := (x2 + (1 : Int32))) (lv2 := [(2, .int (x2 + (1 : Int32))), (0, .ref 313), (1, .int x1)]) dX12_keep_143 2 rfl rfl (Nat.le_of_ble_eq_true rfl) rfl ?_
      refine z_goto 114 dX12_keep_146 rfl ?_
      refine z_lv (lv2 := [(0, .ref 313), (1, .int x1), (2, .int (x2 + (1 : Int32)))]) [1, 2, 0] rfl ?_
      exact ih x1 (x2 + (1 : Int32)) (si ν 314 (((x1 + (1 : Int32)) + (12 : Int32)) + x2).toNatClampNeg (gi ν 314 ((1355 : Int32) + x2).toNatClampNeg)) _ h
def Md_keep_81 : Nat → Int32 → Int32 → Nm → Option Nm
  | 0, _, _, _ => none
  | f + 1, x1, x2, ν =>
    (if (12 : Int32) ≤ x2 then
      Md_keep_114 FU x1 (0 : Int32) ν
    else
      if inb ((8 : Int32) + x2) 1385 then
      if inb ((x1 + (1 : Int32)) + x2) 1385 then
      (Md_keep_81 f) x1 (x2 + (1 : Int32)) (si ν 314 ((x1 + (1 : Int32)) + x2).toNatClampNeg (gi ν 314 ((8 : Int32) + x2).toNatClampNeg))
      else none
      else none)
set_option maxRecDepth 100000 in
set_option maxHeartbeats 4000000 in
theorem t_Md_keep_81 {g : GG} {d : Nat} (hd0 : 1 ≤ d) : ∀ (f : Nat), ∀ (x1 : Int32) (x2 : Int32) (ν : Nm) (r : Nm), Md_keep_81 f x1 x2 ν = some r → Z g d (0, 0) mX12_keep 333 0 0 81 [(0, .ref 313), (1, .int x1), (2, .int x2)] [] (zem ν) (zF g (none, zem r)) := by
  intro f
  induction f with
  | zero =>
    intro x1 x2 ν r h
    cases h
  | succ f ih =>
    intro x1 x2 ν r h
    rw [Md_keep_81] at h
    refine z_iload_n dX12_keep_81 2 rfl ?_
    refine z_bipush (M := mX12_keep) (v := 12) dX12_keep_82 rfl ?_
    refine z_icmp_ge 112 dX12_keep_84 rfl (fun hc1 => ?_) (fun hc1 => ?_)
    · replace h := oT hc1 h
      refine z_iconst (M := mX12_keep) (v := 0) dX12_keep_112 rfl ?_
      refine z_istore_n (M := mX12_keep) (lv2 := [(2, .int (0 : Int32)), (0, .ref 313), (1, .int x1)]) dX12_keep_113 (Nat.le_of_ble_eq_true rfl) rfl ?_
      refine z_lv (lv2 := [(0, .ref 313), (1, .int x1), (2, .int (0 : Int32))]) [1, 2, 0] rfl ?_
      exact t_Md_keep_114 hd0 FU x1 (0 : Int32) ν _ h
    · replace h := oF hc1 h
      refine z_aload_n dX12_keep_87 0 rfl ?_
      refine y_getR (M := mX12_keep) (r := 314) dX12_keep_88 zk_313 flRX12_7 fr_10_0.1 (fr_10_0.2 _) ?_
      refine z_iload_n dX12_keep_91 1 rfl ?_
      refine z_iconst (M := mX12_keep) (v := 1) dX12_keep_92 rfl ?_
      refine z_iadd dX12_keep_93 ?_
      refine z_iload_n dX12_keep_94 2 rfl ?_
      refine z_iadd dX12_keep_95 ?_
      refine z_aload_n dX12_keep_96 0 rfl ?_
      refine y_getR (M := mX12_keep) (r := 314) dX12_keep_97 zk_313 flRX12_7 fr_10_0.1 (fr_10_0.2 _) ?_
      refine z_bipush (M := mX12_keep) (v := 8) dX12_keep_100 rfl ?_
      refine z_iload_n dX12_keep_102 2 rfl ?_
      refine z_iadd dX12_keep_103 ?_
      obtain ⟨hi2, h⟩ := oif h
      refine y_iald (M := mX12_keep) (jj := ((8 : Int32) + x2).toNatClampNeg) dX12_keep_104 zk_314 hi2 rfl ?_
      obtain ⟨hi3, h⟩ := oif h
      refine y_iast (M := mX12_keep) (jj := ((x1 + (1 : Int32)) + x2).toNatClampNeg) dX12_keep_105 zk_314 hi3 rfl ?_
      refine z_iinc (M := mX12_keep) (v := (x2 + (1 : Int32))) (lv2 := [(2, .int (x2 + (1 : Int32))), (0, .ref 313), (1, .int x1)]) dX12_keep_106 2 rfl rfl (Nat.le_of_ble_eq_true rfl) rfl ?_
      refine z_goto 81 dX12_keep_109 rfl ?_
      refine z_lv (lv2 := [(0, .ref 313), (1, .int x1), (2, .int (x2 + (1 : Int32)))]) [1, 2, 0] rfl ?_
      exact ih x1 (x2 + (1 : Int32)) (si ν 314 ((x1 + (1 : Int32)) + x2).toNatClampNeg (gi ν 314 ((8 : Int32) + x2).toNatClampNeg)) _ h
def Md_keep_54 (ν : Nm) : Option Nm :=
  if inb ((65 : Int32) + ((43 : Int32) * (gi ν 314 4))) 1385 then
  Md_keep_81 FU ((65 : Int32) + ((43 : Int32) * (gi ν 314 4))) (0 : Int32) (si ν 314 ((65 : Int32) + ((43 : Int32) * (gi ν 314 4))).toNatClampNeg (gi ν 314 0))
  else none
set_option maxRecDepth 100000 in
set_option maxHeartbeats 4000000 in
theorem t_Md_keep_54 {g : GG} {d : Nat} (hd0 : 1 ≤ d) : ∀ (ν : Nm) (r : Nm), Md_keep_54 ν = some r → Z g d (0, 0) mX12_keep 333 0 0 54 [(0, .ref 313)] [] (zem ν) (zF g (none, zem r)) := by
  intro ν r h
  unfold Md_keep_54 at h
  refine z_bipush (M := mX12_keep) (v := 65) dX12_keep_54 rfl ?_
  refine z_bipush (M := mX12_keep) (v := 43) dX12_keep_56 rfl ?_
  refine z_aload_n dX12_keep_58 0 rfl ?_
  refine y_getR (M := mX12_keep) (r := 314) dX12_keep_59 zk_313 flRX12_7 fr_10_0.1 (fr_10_0.2 _) ?_
  refine z_iconst (M := mX12_keep) (v := 4) dX12_keep_62 rfl ?_
  refine y_iald (M := mX12_keep) (jj := 4) dX12_keep_63 zk_314 rfl rfl ?_
  refine z_imul dX12_keep_64 ?_
  refine z_iadd dX12_keep_65 ?_
  refine z_istore_n (M := mX12_keep) (lv2 := [(1, .int ((65 : Int32) + ((43 : Int32) * (gi ν 314 4)))), (0, .ref 313)]) dX12_keep_66 (Nat.le_of_ble_eq_true rfl) rfl ?_
  refine z_aload_n dX12_keep_67 1 rfl ?_
  refine y_getR (M := mX12_keep) (r := 314) dX12_keep_68 zk_313 flRX12_7 fr_10_0.1 (fr_10_0.2 _) ?_
  refine z_iload_n dX12_keep_71 0 rfl ?_
  refine z_aload_n dX12_keep_72 1 rfl ?_
  refine y_getR (M := mX12_keep) (r := 314) dX12_keep_73 zk_313 flRX12_7 fr_10_0.1 (fr_10_0.2 _) ?_
  refine z_iconst (M := mX12_keep) (v := 0) dX12_keep_76 rfl ?_
  refine y_iald (M := mX12_keep) (jj := 0) dX12_keep_77 zk_314 rfl rfl ?_
  obtain ⟨hi1, h⟩ := oif h
  refine y_iast (M := mX12_keep) (jj := ((65 : Int32) + ((43 : Int32) * (gi ν 314 4))).toNatClampNeg) dX12_keep_78 zk_314 hi1 rfl ?_
  refine z_iconst (M := mX12_keep) (v := 0) dX12_keep_79 rfl ?_
  refine z_istore_n (M := mX12_keep) (lv2 := [(2, .int (0 : Int32)), (1, .int ((65 : Int32) + ((43 : Int32) * (gi ν 314 4)))), (0, .ref 313)]) dX12_keep_80 (Nat.le_of_ble_eq_true rfl) rfl ?_
  refine z_lv (lv2 := [(0, .ref 313), (1, .int ((65 : Int32) + ((43 : Int32) * (gi ν 314 4)))), (2, .int (0 : Int32))]) [2, 1, 0] rfl ?_
  exact t_Md_keep_81 hd0 FU ((65 : Int32) + ((43 : Int32) * (gi ν 314 4))) (0 : Int32) (si ν 314 ((65 : Int32) + ((43 : Int32) * (gi ν 314 4))).toNatClampNeg (gi ν 314 0)) _ h
def Md_keep_13 : Nat → Int32 → Nm → Option Nm
  | 0, _, _ => none
  | f + 1, x1, ν =>
    (if (1247 : Int32) ≤ x1 then
      Md_keep_54 (si ν 314 4 ((gi ν 314 4) - (1 : Int32)))
    else
      if inb ((108 : Int32) + x1) 1385 then
      if inb ((65 : Int32) + x1) 1385 then
      (Md_keep_13 f) (x1 + (1 : Int32)) (si ν 314 ((65 : Int32) + x1).toNatClampNeg (gi ν 314 ((108 : Int32) + x1).toNatClampNeg))
      else none
      else none)
set_option maxRecDepth 100000 in
set_option maxHeartbeats 4000000 in
theorem t_Md_keep_13 {g : GG} {d : Nat} (hd0 : 1 ≤ d) : ∀ (f : Nat), ∀ (x1 : Int32) (ν : Nm) (r : Nm), Md_keep_13 f x1 ν = some r → Z g d (0, 0) mX12_keep 333 0 0 13 [(0, .ref 313), (1, .int x1)] [] (zem ν) (zF g (none, zem r)) := by
  intro f
  induction f with
  | zero =>
    intro x1 ν r h
    cases h
  | succ f ih =>
    intro x1 ν r h
    rw [Md_keep_13] at h
    refine z_iload_n dX12_keep_13 1 rfl ?_
    refine z_sipush (M := mX12_keep) (v := 1247) dX12_keep_14 rfl ?_
    refine z_icmp_ge 44 dX12_keep_17 rfl (fun hc1 => ?_) (fun hc1 => ?_)
    · replace h := oT hc1 h
      refine z_aload_n dX12_keep_44 0 rfl ?_
      refine y_getR (M := mX12_keep) (r := 314) dX12_keep_45 zk_313 flRX12_7 fr_10_0.1 (fr_10_0.2 _) ?_
      refine z_iconst (M := mX12_keep) (v := 4) dX12_keep_48 rfl ?_
      refine z_dup2 dX12_keep_49 rfl rfl ?_
      refine y_iald (M := mX12_keep) (jj := 4) dX12_keep_50 zk_314 rfl rfl ?_
      refine z_iconst (M := mX12_keep) (v := 1) dX12_keep_51 rfl ?_
      refine z_isub dX12_keep_52 ?_
      refine y_iast (M := mX12_keep) (jj := 4) dX12_keep_53 zk_314 rfl rfl ?_
      refine z_lv (lv2 := [(0, .ref 313)]) [0] rfl ?_
      exact t_Md_keep_54 hd0  (si ν 314 4 ((gi ν 314 4) - (1 : Int32))) _ h
    · replace h := oF hc1 h
      refine z_aload_n dX12_keep_20 0 rfl ?_
      refine y_getR (M := mX12_keep) (r := 314) dX12_keep_21 zk_313 flRX12_7 fr_10_0.1 (fr_10_0.2 _) ?_
      refine z_bipush (M := mX12_keep) (v := 65) dX12_keep_24 rfl ?_
      refine z_iload_n dX12_keep_26 1 rfl ?_
      refine z_iadd dX12_keep_27 ?_
      refine z_aload_n dX12_keep_28 0 rfl ?_
      refine y_getR (M := mX12_keep) (r := 314) dX12_keep_29 zk_313 flRX12_7 fr_10_0.1 (fr_10_0.2 _) ?_
      refine z_bipush (M := mX12_keep) (v := 108) dX12_keep_32 rfl ?_
      refine z_iload_n dX12_keep_34 1 rfl ?_
      refine z_iadd dX12_keep_35 ?_
      obtain ⟨hi2, h⟩ := oif h
      refine y_iald (M := mX12_keep) (jj := ((108 : Int32) + x1).toNatClampNeg) dX12_keep_36 zk_314 hi2 rfl ?_
      obtain ⟨hi3, h⟩ := oif h
      refine y_iast (M := mX12_keep) (jj := ((65 : Int32) + x1).toNatClampNeg) dX12_keep_37 zk_314 hi3 rfl ?_
      refine z_iinc (M := mX12_keep) (v := (x1 + (1 : Int32))) (lv2 := [(1, .int (x1 + (1 : Int32))), (0, .ref 313)]) dX12_keep_38 1 rfl rfl (Nat.le_of_ble_eq_true rfl) rfl ?_
      refine z_goto 13 dX12_keep_41 rfl ?_
      refine z_lv (lv2 := [(0, .ref 313), (1, .int (x1 + (1 : Int32)))]) [1, 0] rfl ?_
      exact ih (x1 + (1 : Int32)) (si ν 314 ((65 : Int32) + x1).toNatClampNeg (gi ν 314 ((108 : Int32) + x1).toNatClampNeg)) _ h
def Md_keep (ν : Nm) : Option Nm :=
  (if ¬ (gi ν 314 4) = (30 : Int32) then
    Md_keep_54 ν
  else
    Md_keep_13 FU (0 : Int32) ν)
set_option maxRecDepth 100000 in
set_option maxHeartbeats 4000000 in
theorem t_Md_keep {g : GG} {d : Nat} (hd0 : 1 ≤ d) : ∀ (ν : Nm) (r : Nm), Md_keep ν = some r → Z g d (0, 0) mX12_keep 333 0 0 0 [(0, .ref 313)] [] (zem ν) (zF g (none, zem r)) := by
  intro ν r h
  unfold Md_keep at h
  refine z_aload_n dX12_keep_0 0 rfl ?_
  refine y_getR (M := mX12_keep) (r := 314) dX12_keep_1 zk_313 flRX12_7 fr_10_0.1 (fr_10_0.2 _) ?_
  refine z_iconst (M := mX12_keep) (v := 4) dX12_keep_4 rfl ?_
  refine y_iald (M := mX12_keep) (jj := 4) dX12_keep_5 zk_314 rfl rfl ?_
  refine z_bipush (M := mX12_keep) (v := 30) dX12_keep_6 rfl ?_
  refine z_icmp_ne 54 dX12_keep_8 rfl (fun hc1 => ?_) (fun hc1 => ?_)
  · replace h := oT hc1 h
    exact t_Md_keep_54 hd0  ν _ h
  · replace h := oFn hc1 h
    refine z_iconst (M := mX12_keep) (v := 0) dX12_keep_11 rfl ?_
    refine z_istore_n (M := mX12_keep) (lv2 := [(1, .int (0 : Int32)), (0, .ref 313)]) dX12_keep_12 (Nat.le_of_ble_eq_true rfl) rfl ?_
    refine z_lv (lv2 := [(0, .ref 313), (1, .int (0 : Int32))]) [1, 0] rfl ?_
    exact t_Md_keep_13 hd0 FU (0 : Int32) ν _ h
theorem ct_Md_keep {g : GG} {d : Nat} {ν : Nm} {r : Nm} (hd0 : 1 ≤ d)  (h : Md_keep ν = some r) : Ct g d mX12_keep [.ref 313] (zem ν) (none, zem r) := y_entry in_X12_keep (Nat.le_of_ble_eq_true rfl) rfl (t_Md_keep hd0 ν r h)
-- FuseMinutesModel.bits(I)I
theorem dX12_bits_0 : decode cX12_bits 0 = .ok (.iconst 0, 1) := by decide +kernel
theorem dX12_bits_1 : decode cX12_bits 1 = .ok (.istore_n 1, 1) := by decide +kernel
theorem dX12_bits_2 : decode cX12_bits 2 = .ok (.iload_n 0, 1) := by decide +kernel
theorem dX12_bits_3 : decode cX12_bits 3 = .ok (.istore_n 2, 1) := by decide +kernel
theorem dX12_bits_4 : decode cX12_bits 4 = .ok (.iload_n 2, 1) := by decide +kernel
theorem dX12_bits_5 : decode cX12_bits 5 = .ok (.ifCond .eq 15, 3) := by decide +kernel
theorem dX12_bits_8 : decode cX12_bits 8 = .ok (.iinc 1 1, 3) := by decide +kernel
theorem dX12_bits_11 : decode cX12_bits 11 = .ok (.iload_n 2, 1) := by decide +kernel
theorem dX12_bits_12 : decode cX12_bits 12 = .ok (.iload_n 2, 1) := by decide +kernel
theorem dX12_bits_13 : decode cX12_bits 13 = .ok (.iconst 1, 1) := by decide +kernel
theorem dX12_bits_14 : decode cX12_bits 14 = .ok (.isub, 1) := by decide +kernel
theorem dX12_bits_15 : decode cX12_bits 15 = .ok (.iand, 1) := by decide +kernel
theorem dX12_bits_16 : decode cX12_bits 16 = .ok (.istore_n 2, 1) := by decide +kernel
theorem dX12_bits_17 : decode cX12_bits 17 = .ok (.goto (-13), 3) := by decide +kernel
theorem dX12_bits_20 : decode cX12_bits 20 = .ok (.iload_n 1, 1) := by decide +kernel
theorem dX12_bits_21 : decode cX12_bits 21 = .ok (.ireturn, 1) := by decide +kernel
def Md_bits_4 : Nat → Int32 → Int32 → Option Int32
  | 0, _, _ => none
  | f + 1, x1, x2 =>
    (if x2 = 0 then
      some x1
    else
      (Md_bits_4 f) (x1 + (1 : Int32)) (x2 &&& (x2 - (1 : Int32))))
set_option maxRecDepth 100000 in
set_option maxHeartbeats 4000000 in
theorem t_Md_bits_4 {g : GG} {d : Nat} {μ : Mm} (hd0 : 1 ≤ d) : ∀ (f : Nat), ∀ (x1 : Int32) (x2 : Int32) (r : Int32), Md_bits_4 f x1 x2 = some r → Z g d (0, 0) mX12_bits 333 0 0 4 [(1, .int x1), (2, .int x2)] [] μ (zF g (some (.int r), μ)) := by
  intro f
  induction f with
  | zero =>
    intro x1 x2 r h
    cases h
  | succ f ih =>
    intro x1 x2 r h
    rw [Md_bits_4] at h
    refine z_iload_n dX12_bits_4 1 rfl ?_
    refine z_if_eq 20 dX12_bits_5 rfl (fun hc1 => ?_) (fun hc1 => ?_)
    · replace h := oT hc1 h
      refine z_iload_n dX12_bits_20 0 rfl ?_
      cases h
      exact z_iret dX12_bits_21 rfl
    · replace h := oF hc1 h
      refine z_iinc (M := mX12_bits) (v := (x1 + (1 : Int32))) (lv2 := [(1, .int (x1 + (1 : Int32))), (2, .int x2)]) dX12_bits_8 0 rfl rfl (Nat.le_of_ble_eq_true rfl) rfl ?_
      refine z_iload_n dX12_bits_11 1 rfl ?_
      refine z_iload_n dX12_bits_12 1 rfl ?_
      refine z_iconst (M := mX12_bits) (v := 1) dX12_bits_13 rfl ?_
      refine z_isub dX12_bits_14 ?_
      refine z_iand dX12_bits_15 ?_
      refine z_istore_n (M := mX12_bits) (lv2 := [(2, .int (x2 &&& (x2 - (1 : Int32)))), (1, .int (x1 + (1 : Int32)))]) dX12_bits_16 (Nat.le_of_ble_eq_true rfl) rfl ?_
      refine z_goto 4 dX12_bits_17 rfl ?_
      refine z_lv (lv2 := [(1, .int (x1 + (1 : Int32))), (2, .int (x2 &&& (x2 - (1 : Int32))))]) [1, 0] rfl ?_
      exact ih (x1 + (1 : Int32)) (x2 &&& (x2 - (1 : Int32))) _ h
def Md_bits (x0 : Int32) : Option Int32 :=
  Md_bits_4 FU (0 : Int32) x0
set_option maxRecDepth 100000 in
set_option maxHeartbeats 4000000 in
theorem t_Md_bits {g : GG} {d : Nat} {μ : Mm} (hd0 : 1 ≤ d) : ∀ (x0 : Int32) (r : Int32), Md_bits x0 = some r → Z g d (0, 0) mX12_bits 333 0 0 0 [(0, .int x0)] [] μ (zF g (some (.int r), μ)) := by
  intro x0 r h
  unfold Md_bits at h
  refine z_iconst (M := mX12_bits) (v := 0) dX12_bits_0 rfl ?_
  refine z_istore_n (M := mX12_bits) (lv2 := [(1, .int (0 : Int32)), (0, .int x0)]) dX12_bits_1 (Nat.le_of_ble_eq_true rfl) rfl ?_
  refine z_iload_n dX12_bits_2 1 rfl ?_
  refine z_istore_n (M := mX12_bits) (lv2 := [(2, .int x0), (1, .int (0 : Int32)), (0, .int x0)]) dX12_bits_3 (Nat.le_of_ble_eq_true rfl) rfl ?_
  refine z_lv (lv2 := [(1, .int (0 : Int32)), (2, .int x0)]) [1, 0] rfl ?_
  exact t_Md_bits_4 hd0 FU (0 : Int32) x0 _ h
theorem ct_Md_bits {g : GG} {d : Nat} {x0 : Int32} {μ : Mm} {r : Int32} (hd0 : 1 ≤ d)  (h : Md_bits x0 = some r) : Ct g d mX12_bits [.int x0] μ (some (.int r), μ) := y_entry in_X12_bits (Nat.le_of_ble_eq_true rfl) rfl (t_Md_bits hd0 x0 r h)
-- FuseMinutesModel.get(II)I
theorem dX12_get_0 : decode cX12_get 0 = .ok (.aload_n 0, 1) := by decide +kernel
theorem dX12_get_1 : decode cX12_get 1 = .ok (.getfield 7, 3) := by decide +kernel
theorem dX12_get_4 : decode cX12_get 4 = .ok (.bipush 12, 2) := by decide +kernel
theorem dX12_get_6 : decode cX12_get 6 = .ok (.iconst 2, 1) := by decide +kernel
theorem dX12_get_7 : decode cX12_get 7 = .ok (.iload_n 1, 1) := by decide +kernel
theorem dX12_get_8 : decode cX12_get 8 = .ok (.imul, 1) := by decide +kernel
theorem dX12_get_9 : decode cX12_get 9 = .ok (.iadd, 1) := by decide +kernel
theorem dX12_get_10 : decode cX12_get 10 = .ok (.iload_n 2, 1) := by decide +kernel
theorem dX12_get_11 : decode cX12_get 11 = .ok (.iadd, 1) := by decide +kernel
theorem dX12_get_12 : decode cX12_get 12 = .ok (.iaload, 1) := by decide +kernel
theorem dX12_get_13 : decode cX12_get 13 = .ok (.ireturn, 1) := by decide +kernel
def Md_get (ν : Nm) (x1 : Int32) (x2 : Int32) : Option Int32 :=
  if inb (((12 : Int32) + ((2 : Int32) * x1)) + x2) 1385 then
  some (gi ν 314 (((12 : Int32) + ((2 : Int32) * x1)) + x2).toNatClampNeg)
  else none
set_option maxRecDepth 100000 in
set_option maxHeartbeats 4000000 in
theorem t_Md_get {g : GG} {d : Nat} {ν : Nm} (hd0 : 1 ≤ d) : ∀ (x1 : Int32) (x2 : Int32) (r : Int32), Md_get ν x1 x2 = some r → Z g d (0, 0) mX12_get 333 0 0 0 [(0, .ref 313), (1, .int x1), (2, .int x2)] [] (zem ν) (zF g (some (.int r), zem ν)) := by
  intro x1 x2 r h
  unfold Md_get at h
  refine z_aload_n dX12_get_0 0 rfl ?_
  refine y_getR (M := mX12_get) (r := 314) dX12_get_1 zk_313 flRX12_7 fr_10_0.1 (fr_10_0.2 _) ?_
  refine z_bipush (M := mX12_get) (v := 12) dX12_get_4 rfl ?_
  refine z_iconst (M := mX12_get) (v := 2) dX12_get_6 rfl ?_
  refine z_iload_n dX12_get_7 1 rfl ?_
  refine z_imul dX12_get_8 ?_
  refine z_iadd dX12_get_9 ?_
  refine z_iload_n dX12_get_10 2 rfl ?_
  refine z_iadd dX12_get_11 ?_
  obtain ⟨hi1, h⟩ := oif h
  refine y_iald (M := mX12_get) (jj := (((12 : Int32) + ((2 : Int32) * x1)) + x2).toNatClampNeg) dX12_get_12 zk_314 hi1 rfl ?_
  cases h
  exact z_iret dX12_get_13 rfl
theorem ct_Md_get {g : GG} {d : Nat} {x1 : Int32} {x2 : Int32} {ν : Nm} {r : Int32} (hd0 : 1 ≤ d)  (h : Md_get ν x1 x2 = some r) : Ct g d mX12_get [.ref 313, .int x1, .int x2] (zem ν) (some (.int r), zem ν) := y_entry in_X12_get (Nat.le_of_ble_eq_true rfl) rfl (t_Md_get hd0 x1 x2 r h)
-- FuseMinutesModel.outIn(I)I
theorem dX12_outIn_0 : decode cX12_outIn 0 = .ok (.aload_n 0, 1) := by decide +kernel
theorem dX12_outIn_1 : decode cX12_outIn 1 = .ok (.iload_n 1, 1) := by decide +kernel
theorem dX12_outIn_2 : decode cX12_outIn 2 = .ok (.iconst 1, 1) := by decide +kernel
theorem dX12_outIn_3 : decode cX12_outIn 3 = .ok (.invokevirtual 96, 3) := by decide +kernel
theorem dX12_outIn_6 : decode cX12_outIn 6 = .ok (.invokestatic 100, 3) := by decide +kernel
theorem dX12_outIn_9 : decode cX12_outIn 9 = .ok (.istore_n 2, 1) := by decide +kernel
theorem dX12_outIn_10 : decode cX12_outIn 10 = .ok (.iload_n 2, 1) := by decide +kernel
theorem dX12_outIn_11 : decode cX12_outIn 11 = .ok (.ifCond .ne 9, 3) := by decide +kernel
theorem dX12_outIn_14 : decode cX12_outIn 14 = .ok (.ldc_w 332, 3) := by decide +kernel
theorem dX12_outIn_17 : decode cX12_outIn 17 = .ok (.goto 15, 3) := by decide +kernel
theorem dX12_outIn_20 : decode cX12_outIn 20 = .ok (.aload_n 0, 1) := by decide +kernel
theorem dX12_outIn_21 : decode cX12_outIn 21 = .ok (.iload_n 1, 1) := by decide +kernel
theorem dX12_outIn_22 : decode cX12_outIn 22 = .ok (.iconst 0, 1) := by decide +kernel
theorem dX12_outIn_23 : decode cX12_outIn 23 = .ok (.invokevirtual 96, 3) := by decide +kernel
theorem dX12_outIn_26 : decode cX12_outIn 26 = .ok (.iload_n 2, 1) := by decide +kernel
theorem dX12_outIn_27 : decode cX12_outIn 27 = .ok (.iadd, 1) := by decide +kernel
theorem dX12_outIn_28 : decode cX12_outIn 28 = .ok (.iconst 1, 1) := by decide +kernel
theorem dX12_outIn_29 : decode cX12_outIn 29 = .ok (.isub, 1) := by decide +kernel
theorem dX12_outIn_30 : decode cX12_outIn 30 = .ok (.iload_n 2, 1) := by decide +kernel
theorem dX12_outIn_31 : decode cX12_outIn 31 = .ok (.idiv, 1) := by decide +kernel
theorem dX12_outIn_32 : decode cX12_outIn 32 = .ok (.ireturn, 1) := by decide +kernel
def Md_outIn (ν : Nm) (x1 : Int32) : Option Int32 :=
  (Md_get ν x1 (1 : Int32)).bind fun v1 =>
  (Md_bits v1).bind fun v2 =>
  (if ¬ v2 = 0 then
    (Md_get ν x1 (0 : Int32)).bind fun v4 =>
    if v2 = 0 then none else
    some (((v4 + v2) - (1 : Int32)) / v2)
  else
    some (1000000 : Int32))
set_option maxRecDepth 100000 in
set_option maxHeartbeats 4000000 in
theorem t_Md_outIn {g : GG} {d : Nat} {ν : Nm} (hd0 : 2 ≤ d) : ∀ (x1 : Int32) (r : Int32), Md_outIn ν x1 = some r → Z g d (0, 0) mX12_outIn 333 0 0 0 [(0, .ref 313), (1, .int x1)] [] (zem ν) (zF g (some (.int r), zem ν)) := by
  intro x1 r h
  unfold Md_outIn at h
  refine z_aload_n dX12_outIn_0 0 rfl ?_
  refine z_iload_n dX12_outIn_1 1 rfl ?_
  refine z_iconst (M := mX12_outIn) (v := 1) dX12_outIn_2 rfl ?_
  obtain ⟨v1, he1, h⟩ := obind h
  refine y_Vi (M := mX12_outIn) (Y := mX12_get) (d2 := d - 1) (As := [.int x1, .int (1 : Int32)]) (st := []) dX12_outIn_3 mlRX12_96 cv_X12_get zk_313 (ct_Md_get (dle (Nat.le_of_ble_eq_true rfl) hd0) he1) (dps (Nat.le_of_ble_eq_true rfl) hd0) rfl rfl (Nat.le_of_ble_eq_true rfl) ?_
  obtain ⟨v2, he2, h⟩ := obind h
  refine y_Si (M := mX12_outIn) (Y := mX12_bits) (d2 := d - 1) (As := [.int v1]) (st := []) dX12_outIn_6 mlRX12_100 cv_X12_bits (ct_Md_bits (dle (Nat.le_of_ble_eq_true rfl) hd0) he2) (dps (Nat.le_of_ble_eq_true rfl) hd0) rfl rfl (Nat.le_of_ble_eq_true rfl) ?_
  refine z_istore_n (M := mX12_outIn) (lv2 := [(2, .int v2), (0, .ref 313), (1, .int x1)]) dX12_outIn_9 (Nat.le_of_ble_eq_true rfl) rfl ?_
  refine z_iload_n dX12_outIn_10 0 rfl ?_
  refine z_if_ne 20 dX12_outIn_11 rfl (fun hc3 => ?_) (fun hc3 => ?_)
  · replace h := oT hc3 h
    refine z_aload_n dX12_outIn_20 1 rfl ?_
    refine z_iload_n dX12_outIn_21 2 rfl ?_
    refine z_iconst (M := mX12_outIn) (v := 0) dX12_outIn_22 rfl ?_
    obtain ⟨v4, he4, h⟩ := obind h
    refine y_Vi (M := mX12_outIn) (Y := mX12_get) (d2 := d - 1) (As := [.int x1, .int (0 : Int32)]) (st := []) dX12_outIn_23 mlRX12_96 cv_X12_get zk_313 (ct_Md_get (dle (Nat.le_of_ble_eq_true rfl) hd0) he4) (dps (Nat.le_of_ble_eq_true rfl) hd0) rfl rfl (Nat.le_of_ble_eq_true rfl) ?_
    refine z_iload_n dX12_outIn_26 0 rfl ?_
    refine z_iadd dX12_outIn_27 ?_
    refine z_iconst (M := mX12_outIn) (v := 1) dX12_outIn_28 rfl ?_
    refine z_isub dX12_outIn_29 ?_
    refine z_iload_n dX12_outIn_30 0 rfl ?_
    obtain ⟨hz5, h⟩ := oifn h
    refine z_idiv dX12_outIn_31 hz5 ?_
    cases h
    exact z_iret dX12_outIn_32 rfl
  · replace h := oFn hc3 h
    refine z_ldcw dX12_outIn_14 csRX12_332 ?_
    refine z_goto 32 dX12_outIn_17 rfl ?_
    cases h
    exact z_iret dX12_outIn_32 rfl
theorem ct_Md_outIn {g : GG} {d : Nat} {x1 : Int32} {ν : Nm} {r : Int32} (hd0 : 2 ≤ d)  (h : Md_outIn ν x1 = some r) : Ct g d mX12_outIn [.ref 313, .int x1] (zem ν) (some (.int r), zem ν) := y_entry in_X12_outIn (Nat.le_of_ble_eq_true rfl) rfl (t_Md_outIn hd0 x1 r h)
-- FuseMinutesModel.nextOut()I
theorem dX12_nextOut_0 : decode cX12_nextOut 0 = .ok (.ldc_w 332, 3) := by decide +kernel
theorem dX12_nextOut_3 : decode cX12_nextOut 3 = .ok (.istore_n 1, 1) := by decide +kernel
theorem dX12_nextOut_4 : decode cX12_nextOut 4 = .ok (.iconst 0, 1) := by decide +kernel
theorem dX12_nextOut_5 : decode cX12_nextOut 5 = .ok (.istore_n 2, 1) := by decide +kernel
theorem dX12_nextOut_6 : decode cX12_nextOut 6 = .ok (.iload_n 2, 1) := by decide +kernel
theorem dX12_nextOut_7 : decode cX12_nextOut 7 = .ok (.aload_n 0, 1) := by decide +kernel
theorem dX12_nextOut_8 : decode cX12_nextOut 8 = .ok (.getfield 7, 3) := by decide +kernel
theorem dX12_nextOut_11 : decode cX12_nextOut 11 = .ok (.iconst 0, 1) := by decide +kernel
theorem dX12_nextOut_12 : decode cX12_nextOut 12 = .ok (.iaload, 1) := by decide +kernel
theorem dX12_nextOut_13 : decode cX12_nextOut 13 = .ok (.if_icmp .ge 28, 3) := by decide +kernel
theorem dX12_nextOut_16 : decode cX12_nextOut 16 = .ok (.aload_n 0, 1) := by decide +kernel
theorem dX12_nextOut_17 : decode cX12_nextOut 17 = .ok (.iload_n 2, 1) := by decide +kernel
theorem dX12_nextOut_18 : decode cX12_nextOut 18 = .ok (.invokevirtual 333, 3) := by decide +kernel
theorem dX12_nextOut_21 : decode cX12_nextOut 21 = .ok (.iload_n 1, 1) := by decide +kernel
theorem dX12_nextOut_22 : decode cX12_nextOut 22 = .ok (.if_icmp .ge 11, 3) := by decide +kernel
theorem dX12_nextOut_25 : decode cX12_nextOut 25 = .ok (.aload_n 0, 1) := by decide +kernel
theorem dX12_nextOut_26 : decode cX12_nextOut 26 = .ok (.iload_n 2, 1) := by decide +kernel
theorem dX12_nextOut_27 : decode cX12_nextOut 27 = .ok (.invokevirtual 333, 3) := by decide +kernel
theorem dX12_nextOut_30 : decode cX12_nextOut 30 = .ok (.goto 4, 3) := by decide +kernel
theorem dX12_nextOut_33 : decode cX12_nextOut 33 = .ok (.iload_n 1, 1) := by decide +kernel
theorem dX12_nextOut_34 : decode cX12_nextOut 34 = .ok (.istore_n 1, 1) := by decide +kernel
theorem dX12_nextOut_35 : decode cX12_nextOut 35 = .ok (.iinc 2 1, 3) := by decide +kernel
theorem dX12_nextOut_38 : decode cX12_nextOut 38 = .ok (.goto (-32), 3) := by decide +kernel
theorem dX12_nextOut_41 : decode cX12_nextOut 41 = .ok (.iload_n 1, 1) := by decide +kernel
theorem dX12_nextOut_42 : decode cX12_nextOut 42 = .ok (.ireturn, 1) := by decide +kernel
def Md_nextOut_34 (ν : Nm) (k6 : Int32 → Int32 → Option Int32) (x2 : Int32) (s0 : Int32) : Option Int32 :=
  k6 s0 (x2 + (1 : Int32))
set_option maxRecDepth 100000 in
set_option maxHeartbeats 4000000 in
theorem t_Md_nextOut_34 {g : GG} {d : Nat} {ν : Nm} (hd0 : 3 ≤ d) {k6 : Int32 → Int32 → Option Int32} (hk6 : ∀ (x1 : Int32) (x2 : Int32) (r : Int32), k6 x1 x2 = some r → Z g d (0, 0) mX12_nextOut 333 0 0 6 [(0, .ref 313), (1, .int x1), (2, .int x2)] [] (zem ν) (zF g (some (.int r), zem ν))) : ∀ (x2 : Int32) (s0 : Int32) (r : Int32), Md_nextOut_34 ν k6 x2 s0 = some r → Z g d (0, 0) mX12_nextOut 333 0 0 34 [(0, .ref 313), (2, .int x2)] [.int s0] (zem ν) (zF g (some (.int r), zem ν)) := by
  intro x2 s0 r h
  unfold Md_nextOut_34 at h
  refine z_istore_n (M := mX12_nextOut) (lv2 := [(1, .int s0), (0, .ref 313), (2, .int x2)]) dX12_nextOut_34 (Nat.le_of_ble_eq_true rfl) rfl ?_
  refine z_iinc (M := mX12_nextOut) (v := (x2 + (1 : Int32))) (lv2 := [(2, .int (x2 + (1 : Int32))), (1, .int s0), (0, .ref 313)]) dX12_nextOut_35 2 rfl rfl (Nat.le_of_ble_eq_true rfl) rfl ?_
  refine z_goto 6 dX12_nextOut_38 rfl ?_
  refine z_lv (lv2 := [(0, .ref 313), (1, .int s0), (2, .int (x2 + (1 : Int32)))]) [2, 1, 0] rfl ?_
  exact hk6 s0 (x2 + (1 : Int32)) _ h
def Md_nextOut_6 (ν : Nm) : Nat → Int32 → Int32 → Option Int32
  | 0, _, _ => none
  | f + 1, x1, x2 =>
    (if (gi ν 314 0) ≤ x2 then
      some x1
    else
      (Md_outIn ν x2).bind fun v2 =>
      (if x1 ≤ v2 then
        Md_nextOut_34 ν (Md_nextOut_6 ν f) x2 x1
      else
        (Md_outIn ν x2).bind fun v4 =>
        Md_nextOut_34 ν (Md_nextOut_6 ν f) x2 v4))
set_option maxRecDepth 100000 in
set_option maxHeartbeats 4000000 in
theorem t_Md_nextOut_6 {g : GG} {d : Nat} {ν : Nm} (hd0 : 3 ≤ d) : ∀ (f : Nat), ∀ (x1 : Int32) (x2 : Int32) (r : Int32), Md_nextOut_6 ν f x1 x2 = some r → Z g d (0, 0) mX12_nextOut 333 0 0 6 [(0, .ref 313), (1, .int x1), (2, .int x2)] [] (zem ν) (zF g (some (.int r), zem ν)) := by
  intro f
  induction f with
  | zero =>
    intro x1 x2 r h
    cases h
  | succ f ih =>
    intro x1 x2 r h
    rw [Md_nextOut_6] at h
    refine z_iload_n dX12_nextOut_6 2 rfl ?_
    refine z_aload_n dX12_nextOut_7 0 rfl ?_
    refine y_getR (M := mX12_nextOut) (r := 314) dX12_nextOut_8 zk_313 flRX12_7 fr_10_0.1 (fr_10_0.2 _) ?_
    refine z_iconst (M := mX12_nextOut) (v := 0) dX12_nextOut_11 rfl ?_
    refine y_iald (M := mX12_nextOut) (jj := 0) dX12_nextOut_12 zk_314 rfl rfl ?_
    refine z_icmp_ge 41 dX12_nextOut_13 rfl (fun hc1 => ?_) (fun hc1 => ?_)
    · replace h := oT hc1 h
      refine z_iload_n dX12_nextOut_41 1 rfl ?_
      cases h
      exact z_iret dX12_nextOut_42 rfl
    · replace h := oF hc1 h
      refine z_aload_n dX12_nextOut_16 0 rfl ?_
      refine z_iload_n dX12_nextOut_17 2 rfl ?_
      obtain ⟨v2, he2, h⟩ := obind h
      refine y_Vi (M := mX12_nextOut) (Y := mX12_outIn) (d2 := d - 1) (As := [.int x2]) (st := []) dX12_nextOut_18 mlRX12_333 cv_X12_outIn zk_313 (ct_Md_outIn (dle (Nat.le_of_ble_eq_true rfl) hd0) he2) (dps (Nat.le_of_ble_eq_true rfl) hd0) rfl rfl (Nat.le_of_ble_eq_true rfl) ?_
      refine z_iload_n dX12_nextOut_21 1 rfl ?_
      refine z_icmp_ge 33 dX12_nextOut_22 rfl (fun hc3 => ?_) (fun hc3 => ?_)
      · replace h := oT hc3 h
        refine z_iload_n dX12_nextOut_33 1 rfl ?_
        refine z_lv (lv2 := [(0, .ref 313), (2, .int x2)]) [0, 2] rfl ?_
        exact t_Md_nextOut_34 hd0 ih x2 x1 _ h
      · replace h := oF hc3 h
        refine z_aload_n dX12_nextOut_25 0 rfl ?_
        refine z_iload_n dX12_nextOut_26 2 rfl ?_
        obtain ⟨v4, he4, h⟩ := obind h
        refine y_Vi (M := mX12_nextOut) (Y := mX12_outIn) (d2 := d - 1) (As := [.int x2]) (st := []) dX12_nextOut_27 mlRX12_333 cv_X12_outIn zk_313 (ct_Md_outIn (dle (Nat.le_of_ble_eq_true rfl) hd0) he4) (dps (Nat.le_of_ble_eq_true rfl) hd0) rfl rfl (Nat.le_of_ble_eq_true rfl) ?_
        refine z_goto 34 dX12_nextOut_30 rfl ?_
        refine z_lv (lv2 := [(0, .ref 313), (2, .int x2)]) [0, 2] rfl ?_
        exact t_Md_nextOut_34 hd0 ih x2 v4 _ h
def Md_nextOut (ν : Nm) : Option Int32 :=
  Md_nextOut_6 ν FU (1000000 : Int32) (0 : Int32)
set_option maxRecDepth 100000 in
set_option maxHeartbeats 4000000 in
theorem t_Md_nextOut {g : GG} {d : Nat} {ν : Nm} (hd0 : 3 ≤ d) : ∀ (r : Int32), Md_nextOut ν = some r → Z g d (0, 0) mX12_nextOut 333 0 0 0 [(0, .ref 313)] [] (zem ν) (zF g (some (.int r), zem ν)) := by
  intro r h
  unfold Md_nextOut at h
  refine z_ldcw dX12_nextOut_0 csRX12_332 ?_
  refine z_istore_n (M := mX12_nextOut) (lv2 := [(1, .int (1000000 : Int32)), (0, .ref 313)]) dX12_nextOut_3 (Nat.le_of_ble_eq_true rfl) rfl ?_
  refine z_iconst (M := mX12_nextOut) (v := 0) dX12_nextOut_4 rfl ?_
  refine z_istore_n (M := mX12_nextOut) (lv2 := [(2, .int (0 : Int32)), (1, .int (1000000 : Int32)), (0, .ref 313)]) dX12_nextOut_5 (Nat.le_of_ble_eq_true rfl) rfl ?_
  refine z_lv (lv2 := [(0, .ref 313), (1, .int (1000000 : Int32)), (2, .int (0 : Int32))]) [2, 1, 0] rfl ?_
  exact t_Md_nextOut_6 hd0 FU (1000000 : Int32) (0 : Int32) _ h
theorem ct_Md_nextOut {g : GG} {d : Nat} {ν : Nm} {r : Int32} (hd0 : 3 ≤ d)  (h : Md_nextOut ν = some r) : Ct g d mX12_nextOut [.ref 313] (zem ν) (some (.int r), zem ν) := y_entry in_X12_nextOut (Nat.le_of_ble_eq_true rfl) rfl (t_Md_nextOut hd0 r h)
-- FuseMinutesModel.cut(JII)I
theorem dX12_cut_0 : decode cX12_cut 0 = .ok (.lload_n 0, 1) := by decide +kernel
theorem dX12_cut_1 : decode cX12_cut 1 = .ok (.iload_n 2, 1) := by decide +kernel
theorem dX12_cut_2 : decode cX12_cut 2 = .ok (.i2l, 1) := by decide +kernel
theorem dX12_cut_3 : decode cX12_cut 3 = .ok (.lcmp, 1) := by decide +kernel
theorem dX12_cut_4 : decode cX12_cut 4 = .ok (.ifCond .ge 7, 3) := by decide +kernel
theorem dX12_cut_7 : decode cX12_cut 7 = .ok (.iload_n 2, 1) := by decide +kernel
theorem dX12_cut_8 : decode cX12_cut 8 = .ok (.goto 16, 3) := by decide +kernel
theorem dX12_cut_11 : decode cX12_cut 11 = .ok (.lload_n 0, 1) := by decide +kernel
theorem dX12_cut_12 : decode cX12_cut 12 = .ok (.iload_n 3, 1) := by decide +kernel
theorem dX12_cut_13 : decode cX12_cut 13 = .ok (.i2l, 1) := by decide +kernel
theorem dX12_cut_14 : decode cX12_cut 14 = .ok (.lcmp, 1) := by decide +kernel
theorem dX12_cut_15 : decode cX12_cut 15 = .ok (.ifCond .le 7, 3) := by decide +kernel
theorem dX12_cut_18 : decode cX12_cut 18 = .ok (.iload_n 3, 1) := by decide +kernel
theorem dX12_cut_19 : decode cX12_cut 19 = .ok (.goto 5, 3) := by decide +kernel
theorem dX12_cut_22 : decode cX12_cut 22 = .ok (.lload_n 0, 1) := by decide +kernel
theorem dX12_cut_23 : decode cX12_cut 23 = .ok (.l2i, 1) := by decide +kernel
theorem dX12_cut_24 : decode cX12_cut 24 = .ok (.ireturn, 1) := by decide +kernel
def Md_cut (x0 : Int64) (x2 : Int32) (x3 : Int32) : Option Int32 :=
  (if 0 ≤ (lg_cmp x0 x2.toInt64) then
    (if (lg_cmp x0 x3.toInt64) ≤ 0 then
      some x0.toInt32
    else
      some x3)
  else
    some x2)
set_option maxRecDepth 100000 in
set_option maxHeartbeats 4000000 in
theorem t_Md_cut {g : GG} {d : Nat} {μ : Mm} (hd0 : 1 ≤ d) : ∀ (x0 : Int64) (x2 : Int32) (x3 : Int32) (r : Int32), Md_cut x0 x2 x3 = some r → Z g d (0, 0) mX12_cut 333 0 0 0 [(0, .long x0), (2, .int x2), (3, .int x3)] [] μ (zF g (some (.int r), μ)) := by
  intro x0 x2 x3 r h
  unfold Md_cut at h
  refine z_lload_n dX12_cut_0 0 rfl ?_
  refine z_iload_n dX12_cut_1 1 rfl ?_
  refine z_i2l dX12_cut_2 ?_
  refine z_lcmp dX12_cut_3 ?_
  refine z_if_ge 11 dX12_cut_4 rfl (fun hc1 => ?_) (fun hc1 => ?_)
  · replace h := oT hc1 h
    refine z_lload_n dX12_cut_11 0 rfl ?_
    refine z_iload_n dX12_cut_12 2 rfl ?_
    refine z_i2l dX12_cut_13 ?_
    refine z_lcmp dX12_cut_14 ?_
    refine z_if_le 22 dX12_cut_15 rfl (fun hc2 => ?_) (fun hc2 => ?_)
    · replace h := oT hc2 h
      refine z_lload_n dX12_cut_22 0 rfl ?_
      refine z_l2i dX12_cut_23 ?_
      cases h
      exact z_iret dX12_cut_24 rfl
    · replace h := oF hc2 h
      refine z_iload_n dX12_cut_18 2 rfl ?_
      refine z_goto 24 dX12_cut_19 rfl ?_
      cases h
      exact z_iret dX12_cut_24 rfl
  · replace h := oF hc1 h
    refine z_iload_n dX12_cut_7 1 rfl ?_
    refine z_goto 24 dX12_cut_8 rfl ?_
    cases h
    exact z_iret dX12_cut_24 rfl
theorem ct_Md_cut {g : GG} {d : Nat} {x0 : Int64} {x2 : Int32} {x3 : Int32} {μ : Mm} {r : Int32} (hd0 : 1 ≤ d)  (h : Md_cut x0 x2 x3 = some r) : Ct g d mX12_cut [.long x0, .int x2, .int x3] μ (some (.int r), μ) := y_entry in_X12_cut (Nat.le_of_ble_eq_true rfl) rfl (t_Md_cut hd0 x0 x2 x3 r h)
-- FuseMinutesModel.isOut(I)Z
theorem dX12_isOut_0 : decode cX12_isOut 0 = .ok (.aload_n 0, 1) := by decide +kernel
theorem dX12_isOut_1 : decode cX12_isOut 1 = .ok (.iload_n 1, 1) := by decide +kernel
theorem dX12_isOut_2 : decode cX12_isOut 2 = .ok (.iconst 0, 1) := by decide +kernel
theorem dX12_isOut_3 : decode cX12_isOut 3 = .ok (.invokevirtual 96, 3) := by decide +kernel
theorem dX12_isOut_6 : decode cX12_isOut 6 = .ok (.ifCond .ne 7, 3) := by decide +kernel
theorem dX12_isOut_9 : decode cX12_isOut 9 = .ok (.iconst 1, 1) := by decide +kernel
theorem dX12_isOut_10 : decode cX12_isOut 10 = .ok (.goto 4, 3) := by decide +kernel
theorem dX12_isOut_13 : decode cX12_isOut 13 = .ok (.iconst 0, 1) := by decide +kernel
theorem dX12_isOut_14 : decode cX12_isOut 14 = .ok (.ireturn, 1) := by decide +kernel
def Md_isOut (ν : Nm) (x1 : Int32) : Option Bool :=
  (Md_get ν x1 (0 : Int32)).bind fun v1 =>
  (if ¬ v1 = 0 then
    some false
  else
    some true)
set_option maxRecDepth 100000 in
set_option maxHeartbeats 4000000 in
theorem t_Md_isOut {g : GG} {d : Nat} {ν : Nm} (hd0 : 2 ≤ d) : ∀ (x1 : Int32) (r : Bool), Md_isOut ν x1 = some r → Z g d (0, 0) mX12_isOut 333 0 0 0 [(0, .ref 313), (1, .int x1)] [] (zem ν) (zF g (some (.int (b2i r)), zem ν)) := by
  intro x1 r h
  unfold Md_isOut at h
  refine z_aload_n dX12_isOut_0 0 rfl ?_
  refine z_iload_n dX12_isOut_1 1 rfl ?_
  refine z_iconst (M := mX12_isOut) (v := 0) dX12_isOut_2 rfl ?_
  obtain ⟨v1, he1, h⟩ := obind h
  refine y_Vi (M := mX12_isOut) (Y := mX12_get) (d2 := d - 1) (As := [.int x1, .int (0 : Int32)]) (st := []) dX12_isOut_3 mlRX12_96 cv_X12_get zk_313 (ct_Md_get (dle (Nat.le_of_ble_eq_true rfl) hd0) he1) (dps (Nat.le_of_ble_eq_true rfl) hd0) rfl rfl (Nat.le_of_ble_eq_true rfl) ?_
  refine z_if_ne 13 dX12_isOut_6 rfl (fun hc2 => ?_) (fun hc2 => ?_)
  · replace h := oT hc2 h
    refine z_iconst (M := mX12_isOut) (v := 0) dX12_isOut_13 rfl ?_
    cases h
    exact z_zret dX12_isOut_14 rfl rfl
  · replace h := oFn hc2 h
    refine z_iconst (M := mX12_isOut) (v := 1) dX12_isOut_9 rfl ?_
    refine z_goto 14 dX12_isOut_10 rfl ?_
    cases h
    exact z_zret dX12_isOut_14 rfl rfl
theorem ct_Md_isOut {g : GG} {d : Nat} {x1 : Int32} {ν : Nm} {r : Bool} (hd0 : 2 ≤ d)  (h : Md_isOut ν x1 = some r) : Ct g d mX12_isOut [.ref 313, .int x1] (zem ν) (some (.int (b2i r)), zem ν) := y_entry in_X12_isOut (Nat.le_of_ble_eq_true rfl) rfl (t_Md_isOut hd0 x1 r h)
-- FuseMinutesModel.write(III)V
theorem dX12_write_0 : decode cX12_write 0 = .ok (.aload_n 0, 1) := by decide +kernel
theorem dX12_write_1 : decode cX12_write 1 = .ok (.getfield 43, 3) := by decide +kernel
theorem dX12_write_4 : decode cX12_write 4 = .ok (.ifCond .ne 4, 3) := by decide +kernel
theorem dX12_write_7 : decode cX12_write 7 = .ok (.return_, 1) := by decide +kernel
theorem dX12_write_8 : decode cX12_write 8 = .ok (.aload_n 0, 1) := by decide +kernel
theorem dX12_write_9 : decode cX12_write 9 = .ok (.getfield 7, 3) := by decide +kernel
theorem dX12_write_12 : decode cX12_write 12 = .ok (.bipush 11, 2) := by decide +kernel
theorem dX12_write_14 : decode cX12_write 14 = .ok (.iaload, 1) := by decide +kernel
theorem dX12_write_15 : decode cX12_write 15 = .ok (.bipush 30, 2) := by decide +kernel
theorem dX12_write_17 : decode cX12_write 17 = .ok (.if_icmp .ne 54, 3) := by decide +kernel
theorem dX12_write_20 : decode cX12_write 20 = .ok (.iconst 1, 1) := by decide +kernel
theorem dX12_write_21 : decode cX12_write 21 = .ok (.istore 4, 2) := by decide +kernel
theorem dX12_write_23 : decode cX12_write 23 = .ok (.iload 4, 2) := by decide +kernel
theorem dX12_write_25 : decode cX12_write 25 = .ok (.bipush 30, 2) := by decide +kernel
theorem dX12_write_27 : decode cX12_write 27 = .ok (.if_icmp .ge 33, 3) := by decide +kernel
theorem dX12_write_30 : decode cX12_write 30 = .ok (.aload_n 0, 1) := by decide +kernel
theorem dX12_write_31 : decode cX12_write 31 = .ok (.getfield 7, 3) := by decide +kernel
theorem dX12_write_34 : decode cX12_write 34 = .ok (.sipush 1355, 3) := by decide +kernel
theorem dX12_write_37 : decode cX12_write 37 = .ok (.iload 4, 2) := by decide +kernel
theorem dX12_write_39 : decode cX12_write 39 = .ok (.iadd, 1) := by decide +kernel
theorem dX12_write_40 : decode cX12_write 40 = .ok (.iconst 1, 1) := by decide +kernel
theorem dX12_write_41 : decode cX12_write 41 = .ok (.isub, 1) := by decide +kernel
theorem dX12_write_42 : decode cX12_write 42 = .ok (.aload_n 0, 1) := by decide +kernel
theorem dX12_write_43 : decode cX12_write 43 = .ok (.getfield 7, 3) := by decide +kernel
theorem dX12_write_46 : decode cX12_write 46 = .ok (.sipush 1355, 3) := by decide +kernel
theorem dX12_write_49 : decode cX12_write 49 = .ok (.iload 4, 2) := by decide +kernel
theorem dX12_write_51 : decode cX12_write 51 = .ok (.iadd, 1) := by decide +kernel
theorem dX12_write_52 : decode cX12_write 52 = .ok (.iaload, 1) := by decide +kernel
theorem dX12_write_53 : decode cX12_write 53 = .ok (.iastore, 1) := by decide +kernel
theorem dX12_write_54 : decode cX12_write 54 = .ok (.iinc 4 1, 3) := by decide +kernel
theorem dX12_write_57 : decode cX12_write 57 = .ok (.goto (-34), 3) := by decide +kernel
theorem dX12_write_60 : decode cX12_write 60 = .ok (.aload_n 0, 1) := by decide +kernel
theorem dX12_write_61 : decode cX12_write 61 = .ok (.getfield 7, 3) := by decide +kernel
theorem dX12_write_64 : decode cX12_write 64 = .ok (.bipush 11, 2) := by decide +kernel
theorem dX12_write_66 : decode cX12_write 66 = .ok (.dup2, 1) := by decide +kernel
theorem dX12_write_67 : decode cX12_write 67 = .ok (.iaload, 1) := by decide +kernel
theorem dX12_write_68 : decode cX12_write 68 = .ok (.iconst 1, 1) := by decide +kernel
theorem dX12_write_69 : decode cX12_write 69 = .ok (.isub, 1) := by decide +kernel
theorem dX12_write_70 : decode cX12_write 70 = .ok (.iastore, 1) := by decide +kernel
theorem dX12_write_71 : decode cX12_write 71 = .ok (.aload_n 0, 1) := by decide +kernel
theorem dX12_write_72 : decode cX12_write 72 = .ok (.getfield 7, 3) := by decide +kernel
theorem dX12_write_75 : decode cX12_write 75 = .ok (.sipush 1355, 3) := by decide +kernel
theorem dX12_write_78 : decode cX12_write 78 = .ok (.aload_n 0, 1) := by decide +kernel
theorem dX12_write_79 : decode cX12_write 79 = .ok (.getfield 7, 3) := by decide +kernel
theorem dX12_write_82 : decode cX12_write 82 = .ok (.bipush 11, 2) := by decide +kernel
theorem dX12_write_84 : decode cX12_write 84 = .ok (.iaload, 1) := by decide +kernel
theorem dX12_write_85 : decode cX12_write 85 = .ok (.iadd, 1) := by decide +kernel
theorem dX12_write_86 : decode cX12_write 86 = .ok (.aload_n 0, 1) := by decide +kernel
theorem dX12_write_87 : decode cX12_write 87 = .ok (.getfield 7, 3) := by decide +kernel
theorem dX12_write_90 : decode cX12_write 90 = .ok (.bipush 8, 2) := by decide +kernel
theorem dX12_write_92 : decode cX12_write 92 = .ok (.iaload, 1) := by decide +kernel
theorem dX12_write_93 : decode cX12_write 93 = .ok (.iconst 4, 1) := by decide +kernel
theorem dX12_write_94 : decode cX12_write 94 = .ok (.imul, 1) := by decide +kernel
theorem dX12_write_95 : decode cX12_write 95 = .ok (.iload_n 1, 1) := by decide +kernel
theorem dX12_write_96 : decode cX12_write 96 = .ok (.iadd, 1) := by decide +kernel
theorem dX12_write_97 : decode cX12_write 97 = .ok (.bipush 8, 2) := by decide +kernel
theorem dX12_write_99 : decode cX12_write 99 = .ok (.imul, 1) := by decide +kernel
theorem dX12_write_100 : decode cX12_write 100 = .ok (.iconst 2, 1) := by decide +kernel
theorem dX12_write_101 : decode cX12_write 101 = .ok (.iload_n 2, 1) := by decide +kernel
theorem dX12_write_102 : decode cX12_write 102 = .ok (.imul, 1) := by decide +kernel
theorem dX12_write_103 : decode cX12_write 103 = .ok (.iadd, 1) := by decide +kernel
theorem dX12_write_104 : decode cX12_write 104 = .ok (.iload_n 3, 1) := by decide +kernel
theorem dX12_write_105 : decode cX12_write 105 = .ok (.iadd, 1) := by decide +kernel
theorem dX12_write_106 : decode cX12_write 106 = .ok (.iastore, 1) := by decide +kernel
theorem dX12_write_107 : decode cX12_write 107 = .ok (.aload_n 0, 1) := by decide +kernel
theorem dX12_write_108 : decode cX12_write 108 = .ok (.getfield 7, 3) := by decide +kernel
theorem dX12_write_111 : decode cX12_write 111 = .ok (.bipush 11, 2) := by decide +kernel
theorem dX12_write_113 : decode cX12_write 113 = .ok (.dup2, 1) := by decide +kernel
theorem dX12_write_114 : decode cX12_write 114 = .ok (.iaload, 1) := by decide +kernel
theorem dX12_write_115 : decode cX12_write 115 = .ok (.iconst 1, 1) := by decide +kernel
theorem dX12_write_116 : decode cX12_write 116 = .ok (.iadd, 1) := by decide +kernel
theorem dX12_write_117 : decode cX12_write 117 = .ok (.iastore, 1) := by decide +kernel
theorem dX12_write_118 : decode cX12_write 118 = .ok (.return_, 1) := by decide +kernel
def Md_write_118 (ν : Nm) : Option Nm :=
  some ν
set_option maxRecDepth 100000 in
set_option maxHeartbeats 4000000 in
theorem t_Md_write_118 {g : GG} {d : Nat} (hd0 : 1 ≤ d) : ∀ (ν : Nm) (r : Nm), Md_write_118 ν = some r → Z g d (0, 0) mX12_write 333 0 0 118 [] [] (zem ν) (zF g (none, zem r)) := by
  intro ν r h
  unfold Md_write_118 at h
  cases h
  exact z_vret dX12_write_118 rfl
def Md_write_71 (x1 : Int32) (x2 : Int32) (x3 : Int32) (ν : Nm) : Option Nm :=
  if inb ((1355 : Int32) + (gi ν 314 11)) 1385 then
  Md_write_118 (si (si ν 314 ((1355 : Int32) + (gi ν 314 11)).toNatClampNeg ((((((gi ν 314 8) * (4 : Int32)) + x1) * (8 : Int32)) + ((2 : Int32) * x2)) + x3)) 314 11 ((gi (si ν 314 ((1355 : Int32) + (gi ν 314 11)).toNatClampNeg ((((((gi ν 314 8) * (4 : Int32)) + x1) * (8 : Int32)) + ((2 : Int32) * x2)) + x3)) 314 11) + (1 : Int32)))
  else none
set_option maxRecDepth 100000 in
set_option maxHeartbeats 4000000 in
theorem t_Md_write_71 {g : GG} {d : Nat} (hd0 : 1 ≤ d) : ∀ (x1 : Int32) (x2 : Int32) (x3 : Int32) (ν : Nm) (r : Nm), Md_write_71 x1 x2 x3 ν = some r → Z g d (0, 0) mX12_write 333 0 0 71 [(0, .ref 313), (1, .int x1), (2, .int x2), (3, .int x3)] [] (zem ν) (zF g (none, zem r)) := by
  intro x1 x2 x3 ν r h
  unfold Md_write_71 at h
  refine z_aload_n dX12_write_71 0 rfl ?_
  refine y_getR (M := mX12_write) (r := 314) dX12_write_72 zk_313 flRX12_7 fr_10_0.1 (fr_10_0.2 _) ?_
  refine z_sipush (M := mX12_write) (v := 1355) dX12_write_75 rfl ?_
  refine z_aload_n dX12_write_78 0 rfl ?_
  refine y_getR (M := mX12_write) (r := 314) dX12_write_79 zk_313 flRX12_7 fr_10_0.1 (fr_10_0.2 _) ?_
  refine z_bipush (M := mX12_write) (v := 11) dX12_write_82 rfl ?_
  refine y_iald (M := mX12_write) (jj := 11) dX12_write_84 zk_314 rfl rfl ?_
  refine z_iadd dX12_write_85 ?_
  refine z_aload_n dX12_write_86 0 rfl ?_
  refine y_getR (M := mX12_write) (r := 314) dX12_write_87 zk_313 flRX12_7 fr_10_0.1 (fr_10_0.2 _) ?_
  refine z_bipush (M := mX12_write) (v := 8) dX12_write_90 rfl ?_
  refine y_iald (M := mX12_write) (jj := 8) dX12_write_92 zk_314 rfl rfl ?_
  refine z_iconst (M := mX12_write) (v := 4) dX12_write_93 rfl ?_
  refine z_imul dX12_write_94 ?_
  refine z_iload_n dX12_write_95 1 rfl ?_
  refine z_iadd dX12_write_96 ?_
  refine z_bipush (M := mX12_write) (v := 8) dX12_write_97 rfl ?_
  refine z_imul dX12_write_99 ?_
  refine z_iconst (M := mX12_write) (v := 2) dX12_write_100 rfl ?_
  refine z_iload_n dX12_write_101 2 rfl ?_
  refine z_imul dX12_write_102 ?_
  refine z_iadd dX12_write_103 ?_
  refine z_iload_n dX12_write_104 3 rfl ?_
  refine z_iadd dX12_write_105 ?_
  obtain ⟨hi1, h⟩ := oif h
  refine y_iast (M := mX12_write) (jj := ((1355 : Int32) + (gi ν 314 11)).toNatClampNeg) dX12_write_106 zk_314 hi1 rfl ?_
  refine z_aload_n dX12_write_107 0 rfl ?_
  refine y_getR (M := mX12_write) (r := 314) dX12_write_108 zk_313 flRX12_7 fr_10_0.1 (fr_10_0.2 _) ?_
  refine z_bipush (M := mX12_write) (v := 11) dX12_write_111 rfl ?_
  refine z_dup2 dX12_write_113 rfl rfl ?_
  refine y_iald (M := mX12_write) (jj := 11) dX12_write_114 zk_314 rfl rfl ?_
  refine z_iconst (M := mX12_write) (v := 1) dX12_write_115 rfl ?_
  refine z_iadd dX12_write_116 ?_
  refine y_iast (M := mX12_write) (jj := 11) dX12_write_117 zk_314 rfl rfl ?_
  refine z_lv (lv2 := []) [] rfl ?_
  exact t_Md_write_118 hd0  (si (si ν 314 ((1355 : Int32) + (gi ν 314 11)).toNatClampNeg ((((((gi ν 314 8) * (4 : Int32)) + x1) * (8 : Int32)) + ((2 : Int32) * x2)) + x3)) 314 11 ((gi (si ν 314 ((1355 : Int32) + (gi ν 314 11)).toNatClampNeg ((((((gi ν 314 8) * (4 : Int32)) + x1) * (8 : Int32)) + ((2 : Int32) * x2)) + x3)) 314 11) + (1 : Int32))) _ h
def Md_write_23 : Nat → Int32 → Int32 → Int32 → Int32 → Nm → Option Nm
  | 0, _, _, _, _, _ => none
  | f + 1, x1, x2, x3, x4, ν =>
    (if (30 : Int32) ≤ x4 then
      Md_write_71 x1 x2 x3 (si ν 314 11 ((gi ν 314 11) - (1 : Int32)))
    else
      if inb ((1355 : Int32) + x4) 1385 then
      if inb (((1355 : Int32) + x4) - (1 : Int32)) 1385 then
      (Md_write_23 f) x1 x2 x3 (x4 + (1 : Int32)) (si ν 314 (((1355 : Int32) + x4) - (1 : Int32)).toNatClampNeg (gi ν 314 ((1355 : Int32) + x4).toNatClampNeg))
      else none
      else none)
set_option maxRecDepth 100000 in
set_option maxHeartbeats 4000000 in
theorem t_Md_write_23 {g : GG} {d : Nat} (hd0 : 1 ≤ d) : ∀ (f : Nat), ∀ (x1 : Int32) (x2 : Int32) (x3 : Int32) (x4 : Int32) (ν : Nm) (r : Nm), Md_write_23 f x1 x2 x3 x4 ν = some r → Z g d (0, 0) mX12_write 333 0 0 23 [(0, .ref 313), (1, .int x1), (2, .int x2), (3, .int x3), (4, .int x4)] [] (zem ν) (zF g (none, zem r)) := by
  intro f
  induction f with
  | zero =>
    intro x1 x2 x3 x4 ν r h
    cases h
  | succ f ih =>
    intro x1 x2 x3 x4 ν r h
    rw [Md_write_23] at h
    refine z_iload dX12_write_23 4 rfl ?_
    refine z_bipush (M := mX12_write) (v := 30) dX12_write_25 rfl ?_
    refine z_icmp_ge 60 dX12_write_27 rfl (fun hc1 => ?_) (fun hc1 => ?_)
    · replace h := oT hc1 h
      refine z_aload_n dX12_write_60 0 rfl ?_
      refine y_getR (M := mX12_write) (r := 314) dX12_write_61 zk_313 flRX12_7 fr_10_0.1 (fr_10_0.2 _) ?_
      refine z_bipush (M := mX12_write) (v := 11) dX12_write_64 rfl ?_
      refine z_dup2 dX12_write_66 rfl rfl ?_
      refine y_iald (M := mX12_write) (jj := 11) dX12_write_67 zk_314 rfl rfl ?_
      refine z_iconst (M := mX12_write) (v := 1) dX12_write_68 rfl ?_
      refine z_isub dX12_write_69 ?_
      refine y_iast (M := mX12_write) (jj := 11) dX12_write_70 zk_314 rfl rfl ?_
      refine z_lv (lv2 := [(0, .ref 313), (1, .int x1), (2, .int x2), (3, .int x3)]) [0, 1, 2, 3] rfl ?_
      exact t_Md_write_71 hd0  x1 x2 x3 (si ν 314 11 ((gi ν 314 11) - (1 : Int32))) _ h
    · replace h := oF hc1 h
      refine z_aload_n dX12_write_30 0 rfl ?_
      refine y_getR (M := mX12_write) (r := 314) dX12_write_31 zk_313 flRX12_7 fr_10_0.1 (fr_10_0.2 _) ?_
      refine z_sipush (M := mX12_write) (v := 1355) dX12_write_34 rfl ?_
      refine z_iload dX12_write_37 4 rfl ?_
      refine z_iadd dX12_write_39 ?_
      refine z_iconst (M := mX12_write) (v := 1) dX12_write_40 rfl ?_
      refine z_isub dX12_write_41 ?_
      refine z_aload_n dX12_write_42 0 rfl ?_
      refine y_getR (M := mX12_write) (r := 314) dX12_write_43 zk_313 flRX12_7 fr_10_0.1 (fr_10_0.2 _) ?_
      refine z_sipush (M := mX12_write) (v := 1355) dX12_write_46 rfl ?_
      refine z_iload dX12_write_49 4 rfl ?_
      refine z_iadd dX12_write_51 ?_
      obtain ⟨hi2, h⟩ := oif h
      refine y_iald (M := mX12_write) (jj := ((1355 : Int32) + x4).toNatClampNeg) dX12_write_52 zk_314 hi2 rfl ?_
      obtain ⟨hi3, h⟩ := oif h
      refine y_iast (M := mX12_write) (jj := (((1355 : Int32) + x4) - (1 : Int32)).toNatClampNeg) dX12_write_53 zk_314 hi3 rfl ?_
      refine z_iinc (M := mX12_write) (v := (x4 + (1 : Int32))) (lv2 := [(4, .int (x4 + (1 : Int32))), (0, .ref 313), (1, .int x1), (2, .int x2), (3, .int x3)]) dX12_write_54 4 rfl rfl (Nat.le_of_ble_eq_true rfl) rfl ?_
      refine z_goto 23 dX12_write_57 rfl ?_
      refine z_lv (lv2 := [(0, .ref 313), (1, .int x1), (2, .int x2), (3, .int x3), (4, .int (x4 + (1 : Int32)))]) [1, 2, 3, 4, 0] rfl ?_
      exact ih x1 x2 x3 (x4 + (1 : Int32)) (si ν 314 (((1355 : Int32) + x4) - (1 : Int32)).toNatClampNeg (gi ν 314 ((1355 : Int32) + x4).toNatClampNeg)) _ h
def Md_write (x1 : Int32) (x2 : Int32) (x3 : Int32) (ν : Nm) : Option Nm :=
  (if ¬ (gi ν 313 23) = 0 then
    (if ¬ (gi ν 314 11) = (30 : Int32) then
      Md_write_71 x1 x2 x3 ν
    else
      Md_write_23 FU x1 x2 x3 (1 : Int32) ν)
  else
    some ν)
set_option maxRecDepth 100000 in
set_option maxHeartbeats 4000000 in
theorem t_Md_write {g : GG} {d : Nat} (hd0 : 1 ≤ d) : ∀ (x1 : Int32) (x2 : Int32) (x3 : Int32) (ν : Nm) (r : Nm), Md_write x1 x2 x3 ν = some r → Z g d (0, 0) mX12_write 333 0 0 0 [(0, .ref 313), (1, .int x1), (2, .int x2), (3, .int x3)] [] (zem ν) (zF g (none, zem r)) := by
  intro x1 x2 x3 ν r h
  unfold Md_write at h
  refine z_aload_n dX12_write_0 0 rfl ?_
  refine y_getI dX12_write_1 zk_313 flRX12_43 ?_
  refine z_if_ne 8 dX12_write_4 rfl (fun hc1 => ?_) (fun hc1 => ?_)
  · replace h := oT hc1 h
    refine z_aload_n dX12_write_8 0 rfl ?_
    refine y_getR (M := mX12_write) (r := 314) dX12_write_9 zk_313 flRX12_7 fr_10_0.1 (fr_10_0.2 _) ?_
    refine z_bipush (M := mX12_write) (v := 11) dX12_write_12 rfl ?_
    refine y_iald (M := mX12_write) (jj := 11) dX12_write_14 zk_314 rfl rfl ?_
    refine z_bipush (M := mX12_write) (v := 30) dX12_write_15 rfl ?_
    refine z_icmp_ne 71 dX12_write_17 rfl (fun hc2 => ?_) (fun hc2 => ?_)
    · replace h := oT hc2 h
      exact t_Md_write_71 hd0  x1 x2 x3 ν _ h
    · replace h := oFn hc2 h
      refine z_iconst (M := mX12_write) (v := 1) dX12_write_20 rfl ?_
      refine z_istore (M := mX12_write) (lv2 := [(4, .int (1 : Int32)), (0, .ref 313), (1, .int x1), (2, .int x2), (3, .int x3)]) dX12_write_21 (Nat.le_of_ble_eq_true rfl) rfl ?_
      refine z_lv (lv2 := [(0, .ref 313), (1, .int x1), (2, .int x2), (3, .int x3), (4, .int (1 : Int32))]) [1, 2, 3, 4, 0] rfl ?_
      exact t_Md_write_23 hd0 FU x1 x2 x3 (1 : Int32) ν _ h
  · replace h := oFn hc1 h
    cases h
    exact z_vret dX12_write_7 rfl
theorem ct_Md_write {g : GG} {d : Nat} {x1 : Int32} {x2 : Int32} {x3 : Int32} {ν : Nm} {r : Nm} (hd0 : 1 ≤ d)  (h : Md_write x1 x2 x3 ν = some r) : Ct g d mX12_write [.ref 313, .int x1, .int x2, .int x3] (zem ν) (none, zem r) := y_entry in_X12_write (Nat.le_of_ble_eq_true rfl) rfl (t_Md_write hd0 x1 x2 x3 ν r h)
-- FuseMinutesModel.passOne(I)V
theorem dX12_passOne_0 : decode cX12_passOne 0 = .ok (.iload_n 1, 1) := by decide +kernel
theorem dX12_passOne_1 : decode cX12_passOne 1 = .ok (.ifCond .ne 4, 3) := by decide +kernel
theorem dX12_passOne_4 : decode cX12_passOne 4 = .ok (.return_, 1) := by decide +kernel
theorem dX12_passOne_5 : decode cX12_passOne 5 = .ok (.aload_n 0, 1) := by decide +kernel
theorem dX12_passOne_6 : decode cX12_passOne 6 = .ok (.getfield 7, 3) := by decide +kernel
theorem dX12_passOne_9 : decode cX12_passOne 9 = .ok (.bipush 8, 2) := by decide +kernel
theorem dX12_passOne_11 : decode cX12_passOne 11 = .ok (.dup2, 1) := by decide +kernel
theorem dX12_passOne_12 : decode cX12_passOne 12 = .ok (.iaload, 1) := by decide +kernel
theorem dX12_passOne_13 : decode cX12_passOne 13 = .ok (.iload_n 1, 1) := by decide +kernel
theorem dX12_passOne_14 : decode cX12_passOne 14 = .ok (.iadd, 1) := by decide +kernel
theorem dX12_passOne_15 : decode cX12_passOne 15 = .ok (.iastore, 1) := by decide +kernel
theorem dX12_passOne_16 : decode cX12_passOne 16 = .ok (.aload_n 0, 1) := by decide +kernel
theorem dX12_passOne_17 : decode cX12_passOne 17 = .ok (.getfield 7, 3) := by decide +kernel
theorem dX12_passOne_20 : decode cX12_passOne 20 = .ok (.bipush 10, 2) := by decide +kernel
theorem dX12_passOne_22 : decode cX12_passOne 22 = .ok (.iconst 0, 1) := by decide +kernel
theorem dX12_passOne_23 : decode cX12_passOne 23 = .ok (.iastore, 1) := by decide +kernel
theorem dX12_passOne_24 : decode cX12_passOne 24 = .ok (.iconst 0, 1) := by decide +kernel
theorem dX12_passOne_25 : decode cX12_passOne 25 = .ok (.istore_n 2, 1) := by decide +kernel
theorem dX12_passOne_26 : decode cX12_passOne 26 = .ok (.iload_n 2, 1) := by decide +kernel
theorem dX12_passOne_27 : decode cX12_passOne 27 = .ok (.aload_n 0, 1) := by decide +kernel
theorem dX12_passOne_28 : decode cX12_passOne 28 = .ok (.getfield 7, 3) := by decide +kernel
theorem dX12_passOne_31 : decode cX12_passOne 31 = .ok (.iconst 0, 1) := by decide +kernel
theorem dX12_passOne_32 : decode cX12_passOne 32 = .ok (.iaload, 1) := by decide +kernel
theorem dX12_passOne_33 : decode cX12_passOne 33 = .ok (.if_icmp .ge 85, 3) := by decide +kernel
theorem dX12_passOne_36 : decode cX12_passOne 36 = .ok (.aload_n 0, 1) := by decide +kernel
theorem dX12_passOne_37 : decode cX12_passOne 37 = .ok (.iload_n 2, 1) := by decide +kernel
theorem dX12_passOne_38 : decode cX12_passOne 38 = .ok (.iconst 1, 1) := by decide +kernel
theorem dX12_passOne_39 : decode cX12_passOne 39 = .ok (.invokevirtual 96, 3) := by decide +kernel
theorem dX12_passOne_42 : decode cX12_passOne 42 = .ok (.invokestatic 100, 3) := by decide +kernel
theorem dX12_passOne_45 : decode cX12_passOne 45 = .ok (.istore_n 3, 1) := by decide +kernel
theorem dX12_passOne_46 : decode cX12_passOne 46 = .ok (.iload_n 3, 1) := by decide +kernel
theorem dX12_passOne_47 : decode cX12_passOne 47 = .ok (.ifCond .ne 6, 3) := by decide +kernel
theorem dX12_passOne_50 : decode cX12_passOne 50 = .ok (.goto 62, 3) := by decide +kernel
theorem dX12_passOne_53 : decode cX12_passOne 53 = .ok (.aload_n 0, 1) := by decide +kernel
theorem dX12_passOne_54 : decode cX12_passOne 54 = .ok (.iload_n 2, 1) := by decide +kernel
theorem dX12_passOne_55 : decode cX12_passOne 55 = .ok (.iconst 0, 1) := by decide +kernel
theorem dX12_passOne_56 : decode cX12_passOne 56 = .ok (.aload_n 0, 1) := by decide +kernel
theorem dX12_passOne_57 : decode cX12_passOne 57 = .ok (.iload_n 2, 1) := by decide +kernel
theorem dX12_passOne_58 : decode cX12_passOne 58 = .ok (.iconst 0, 1) := by decide +kernel
theorem dX12_passOne_59 : decode cX12_passOne 59 = .ok (.invokevirtual 96, 3) := by decide +kernel
theorem dX12_passOne_62 : decode cX12_passOne 62 = .ok (.iload_n 3, 1) := by decide +kernel
theorem dX12_passOne_63 : decode cX12_passOne 63 = .ok (.iload_n 1, 1) := by decide +kernel
theorem dX12_passOne_64 : decode cX12_passOne 64 = .ok (.imul, 1) := by decide +kernel
theorem dX12_passOne_65 : decode cX12_passOne 65 = .ok (.isub, 1) := by decide +kernel
theorem dX12_passOne_66 : decode cX12_passOne 66 = .ok (.i2l, 1) := by decide +kernel
theorem dX12_passOne_67 : decode cX12_passOne 67 = .ok (.iconst 0, 1) := by decide +kernel
theorem dX12_passOne_68 : decode cX12_passOne 68 = .ok (.ldc_w 336, 3) := by decide +kernel
theorem dX12_passOne_71 : decode cX12_passOne 71 = .ok (.invokestatic 312, 3) := by decide +kernel
theorem dX12_passOne_74 : decode cX12_passOne 74 = .ok (.invokevirtual 111, 3) := by decide +kernel
theorem dX12_passOne_77 : decode cX12_passOne 77 = .ok (.aload_n 0, 1) := by decide +kernel
theorem dX12_passOne_78 : decode cX12_passOne 78 = .ok (.iload_n 2, 1) := by decide +kernel
theorem dX12_passOne_79 : decode cX12_passOne 79 = .ok (.invokevirtual 282, 3) := by decide +kernel
theorem dX12_passOne_82 : decode cX12_passOne 82 = .ok (.ifCond .ne 6, 3) := by decide +kernel
theorem dX12_passOne_85 : decode cX12_passOne 85 = .ok (.goto 27, 3) := by decide +kernel
theorem dX12_passOne_88 : decode cX12_passOne 88 = .ok (.aload_n 0, 1) := by decide +kernel
theorem dX12_passOne_89 : decode cX12_passOne 89 = .ok (.iload_n 2, 1) := by decide +kernel
theorem dX12_passOne_90 : decode cX12_passOne 90 = .ok (.iconst 1, 1) := by decide +kernel
theorem dX12_passOne_91 : decode cX12_passOne 91 = .ok (.iconst 0, 1) := by decide +kernel
theorem dX12_passOne_92 : decode cX12_passOne 92 = .ok (.invokevirtual 111, 3) := by decide +kernel
theorem dX12_passOne_95 : decode cX12_passOne 95 = .ok (.aload_n 0, 1) := by decide +kernel
theorem dX12_passOne_96 : decode cX12_passOne 96 = .ok (.dup, 1) := by decide +kernel
theorem dX12_passOne_97 : decode cX12_passOne 97 = .ok (.getfield 337, 3) := by decide +kernel
theorem dX12_passOne_100 : decode cX12_passOne 100 = .ok (.iconst 1, 1) := by decide +kernel
theorem dX12_passOne_101 : decode cX12_passOne 101 = .ok (.iadd, 1) := by decide +kernel
theorem dX12_passOne_102 : decode cX12_passOne 102 = .ok (.putfield 337, 3) := by decide +kernel
theorem dX12_passOne_105 : decode cX12_passOne 105 = .ok (.aload_n 0, 1) := by decide +kernel
theorem dX12_passOne_106 : decode cX12_passOne 106 = .ok (.iload_n 2, 1) := by decide +kernel
theorem dX12_passOne_107 : decode cX12_passOne 107 = .ok (.iconst 3, 1) := by decide +kernel
theorem dX12_passOne_108 : decode cX12_passOne 108 = .ok (.iconst 0, 1) := by decide +kernel
theorem dX12_passOne_109 : decode cX12_passOne 109 = .ok (.invokevirtual 340, 3) := by decide +kernel
theorem dX12_passOne_112 : decode cX12_passOne 112 = .ok (.iinc 2 1, 3) := by decide +kernel
theorem dX12_passOne_115 : decode cX12_passOne 115 = .ok (.goto (-89), 3) := by decide +kernel
theorem dX12_passOne_118 : decode cX12_passOne 118 = .ok (.return_, 1) := by decide +kernel
def Md_passOne_112 (k26 : Int32 → Int32 → Nm → Option Nm) (x1 : Int32) (x2 : Int32) (ν : Nm) : Option Nm :=
  k26 x1 (x2 + (1 : Int32)) ν
set_option maxRecDepth 100000 in
set_option maxHeartbeats 4000000 in
theorem t_Md_passOne_112 {g : GG} {d : Nat} (hd0 : 3 ≤ d) {k26 : Int32 → Int32 → Nm → Option Nm} (hk26 : ∀ (x1 : Int32) (x2 : Int32) (ν : Nm) (r : Nm), k26 x1 x2 ν = some r → Z g d (0, 0) mX12_passOne 333 0 0 26 [(0, .ref 313), (1, .int x1), (2, .int x2)] [] (zem ν) (zF g (none, zem r))) : ∀ (x1 : Int32) (x2 : Int32) (ν : Nm) (r : Nm), Md_passOne_112 k26 x1 x2 ν = some r → Z g d (0, 0) mX12_passOne 333 0 0 112 [(0, .ref 313), (1, .int x1), (2, .int x2)] [] (zem ν) (zF g (none, zem r)) := by
  intro x1 x2 ν r h
  unfold Md_passOne_112 at h
  refine z_iinc (M := mX12_passOne) (v := (x2 + (1 : Int32))) (lv2 := [(2, .int (x2 + (1 : Int32))), (0, .ref 313), (1, .int x1)]) dX12_passOne_112 2 rfl rfl (Nat.le_of_ble_eq_true rfl) rfl ?_
  refine z_goto 26 dX12_passOne_115 rfl ?_
  refine z_lv (lv2 := [(0, .ref 313), (1, .int x1), (2, .int (x2 + (1 : Int32)))]) [1, 2, 0] rfl ?_
  exact hk26 x1 (x2 + (1 : Int32)) ν _ h
def Md_passOne_26 : Nat → Int32 → Int32 → Nm → Option Nm
  | 0, _, _, _ => none
  | f + 1, x1, x2, ν =>
    (if (gi ν 314 0) ≤ x2 then
      some ν
    else
      (Md_get ν x2 (1 : Int32)).bind fun v2 =>
      (Md_bits v2).bind fun v3 =>
      (if ¬ v3 = 0 then
        (Md_get ν x2 (0 : Int32)).bind fun v5 =>
        (Md_cut (v5 - (v3 * x1)).toInt64 (0 : Int32) (639936 : Int32)).bind fun v6 =>
        (Md_put x2 (0 : Int32) v6 ν).bind fun v7 =>
        (Md_isOut v7 x2).bind fun v8 =>
        (if ¬ (b2i v8) = 0 then
          (Md_put x2 (1 : Int32) (0 : Int32) v7).bind fun v10 =>
          (Md_write x2 (3 : Int32) (0 : Int32) (si v10 313 24 ((gi v10 313 24) + (1 : Int32)))).bind fun v11 =>
          Md_passOne_112 (Md_passOne_26 f) x1 x2 v11
        else
          Md_passOne_112 (Md_passOne_26 f) x1 x2 v7)
      else
        Md_passOne_112 (Md_passOne_26 f) x1 x2 ν))
set_option maxRecDepth 100000 in
set_option maxHeartbeats 4000000 in
theorem t_Md_passOne_26 {g : GG} {d : Nat} (hd0 : 3 ≤ d) : ∀ (f : Nat), ∀ (x1 : Int32) (x2 : Int32) (ν : Nm) (r : Nm), Md_passOne_26 f x1 x2 ν = some r → Z g d (0, 0) mX12_passOne 333 0 0 26 [(0, .ref 313), (1, .int x1), (2, .int x2)] [] (zem ν) (zF g (none, zem r)) := by
  intro f
  induction f with
  | zero =>
    intro x1 x2 ν r h
    cases h
  | succ f ih =>
    intro x1 x2 ν r h
    rw [Md_passOne_26] at h
    refine z_iload_n dX12_passOne_26 2 rfl ?_
    refine z_aload_n dX12_passOne_27 0 rfl ?_
    refine y_getR (M := mX12_passOne) (r := 314) dX12_passOne_28 zk_313 flRX12_7 fr_10_0.1 (fr_10_0.2 _) ?_
    refine z_iconst (M := mX12_passOne) (v := 0) dX12_passOne_31 rfl ?_
    refine y_iald (M := mX12_passOne) (jj := 0) dX12_passOne_32 zk_314 rfl rfl ?_
    refine z_icmp_ge 118 dX12_passOne_33 rfl (fun hc1 => ?_) (fun hc1 => ?_)
    · replace h := oT hc1 h
      cases h
      exact z_vret dX12_passOne_118 rfl
    · replace h := oF hc1 h
      refine z_aload_n dX12_passOne_36 0 rfl ?_
      refine z_iload_n dX12_passOne_37 2 rfl ?_
      refine z_iconst (M := mX12_passOne) (v := 1) dX12_passOne_38 rfl ?_
      obtain ⟨v2, he2, h⟩ := obind h
      refine y_Vi (M := mX12_passOne) (Y := mX12_get) (d2 := d - 1) (As := [.int x2, .int (1 : Int32)]) (st := []) dX12_passOne_39 mlRX12_96 cv_X12_get zk_313 (ct_Md_get (dle (Nat.le_of_ble_eq_true rfl) hd0) he2) (dps (Nat.le_of_ble_eq_true rfl) hd0) rfl rfl (Nat.le_of_ble_eq_true rfl) ?_
      obtain ⟨v3, he3, h⟩ := obind h
      refine y_Si (M := mX12_passOne) (Y := mX12_bits) (d2 := d - 1) (As := [.int v2]) (st := []) dX12_passOne_42 mlRX12_100 cv_X12_bits (ct_Md_bits (dle (Nat.le_of_ble_eq_true rfl) hd0) he3) (dps (Nat.le_of_ble_eq_true rfl) hd0) rfl rfl (Nat.le_of_ble_eq_true rfl) ?_
      refine z_istore_n (M := mX12_passOne) (lv2 := [(3, .int v3), (0, .ref 313), (1, .int x1), (2, .int x2)]) dX12_passOne_45 (Nat.le_of_ble_eq_true rfl) rfl ?_
      refine z_iload_n dX12_passOne_46 0 rfl ?_
      refine z_if_ne 53 dX12_passOne_47 rfl (fun hc4 => ?_) (fun hc4 => ?_)
      · replace h := oT hc4 h
        refine z_aload_n dX12_passOne_53 1 rfl ?_
        refine z_iload_n dX12_passOne_54 3 rfl ?_
        refine z_iconst (M := mX12_passOne) (v := 0) dX12_passOne_55 rfl ?_
        refine z_aload_n dX12_passOne_56 1 rfl ?_
        refine z_iload_n dX12_passOne_57 3 rfl ?_
        refine z_iconst (M := mX12_passOne) (v := 0) dX12_passOne_58 rfl ?_
        obtain ⟨v5, he5, h⟩ := obind h
        refine y_Vi (M := mX12_passOne) (Y := mX12_get) (d2 := d - 1) (As := [.int x2, .int (0 : Int32)]) (st := [.int (0 : Int32), .int x2, .ref 313]) dX12_passOne_59 mlRX12_96 cv_X12_get zk_313 (ct_Md_get (dle (Nat.le_of_ble_eq_true rfl) hd0) he5) (dps (Nat.le_of_ble_eq_true rfl) hd0) rfl rfl (Nat.le_of_ble_eq_true rfl) ?_
        refine z_iload_n dX12_passOne_62 0 rfl ?_
        refine z_iload_n dX12_passOne_63 2 rfl ?_
        refine z_imul dX12_passOne_64 ?_
        refine z_isub dX12_passOne_65 ?_
        refine z_i2l dX12_passOne_66 ?_
        refine z_iconst (M := mX12_passOne) (v := 0) dX12_passOne_67 rfl ?_
        refine z_ldcw dX12_passOne_68 csRX12_336 ?_
        obtain ⟨v6, he6, h⟩ := obind h
        refine y_Si (M := mX12_passOne) (Y := mX12_cut) (d2 := d - 1) (As := [.long (v5 - (v3 * x1)).toInt64, .int (0 : Int32), .int (639936 : Int32)]) (st := [.int (0 : Int32), .int x2, .ref 313]) dX12_passOne_71 mlRX12_312 cv_X12_cut (ct_Md_cut (dle (Nat.le_of_ble_eq_true rfl) hd0) he6) (dps (Nat.le_of_ble_eq_true rfl) hd0) rfl rfl (Nat.le_of_ble_eq_true rfl) ?_
        obtain ⟨v7, he7, h⟩ := obind h
        refine y_Vv (M := mX12_passOne) (Y := mX12_put) (d2 := d - 1) (As := [.int x2, .int (0 : Int32), .int v6]) (st := []) dX12_passOne_74 mlRX12_111 cv_X12_put zk_313 (ct_Md_put (dle (Nat.le_of_ble_eq_true rfl) hd0) he7) (dps (Nat.le_of_ble_eq_true rfl) hd0) rfl rfl (Nat.le_of_ble_eq_true rfl) ?_
        refine z_aload_n dX12_passOne_77 1 rfl ?_
        refine z_iload_n dX12_passOne_78 3 rfl ?_
        obtain ⟨v8, he8, h⟩ := obind h
        refine y_Vi (M := mX12_passOne) (Y := mX12_isOut) (d2 := d - 1) (As := [.int x2]) (st := []) dX12_passOne_79 mlRX12_282 cv_X12_isOut zk_313 (ct_Md_isOut (dle (Nat.le_of_ble_eq_true rfl) hd0) he8) (dps (Nat.le_of_ble_eq_true rfl) hd0) rfl rfl (Nat.le_of_ble_eq_true rfl) ?_
        refine z_if_ne 88 dX12_passOne_82 rfl (fun hc9 => ?_) (fun hc9 => ?_)
        · replace h := oT hc9 h
          refine z_aload_n dX12_passOne_88 1 rfl ?_
          refine z_iload_n dX12_passOne_89 3 rfl ?_
          refine z_iconst (M := mX12_passOne) (v := 1) dX12_passOne_90 rfl ?_
          refine z_iconst (M := mX12_passOne) (v := 0) dX12_passOne_91 rfl ?_
          obtain ⟨v10, he10, h⟩ := obind h
          refine y_Vv (M := mX12_passOne) (Y := mX12_put) (d2 := d - 1) (As := [.int x2, .int (1 : Int32), .int (0 : Int32)]) (st := []) dX12_passOne_92 mlRX12_111 cv_X12_put zk_313 (ct_Md_put (dle (Nat.le_of_ble_eq_true rfl) hd0) he10) (dps (Nat.le_of_ble_eq_true rfl) hd0) rfl rfl (Nat.le_of_ble_eq_true rfl) ?_
          refine z_aload_n dX12_passOne_95 1 rfl ?_
          refine z_dup dX12_passOne_96 rfl ?_
          refine y_getI dX12_passOne_97 zk_313 flRX12_337 ?_
          refine z_iconst (M := mX12_passOne) (v := 1) dX12_passOne_100 rfl ?_
          refine z_iadd dX12_passOne_101 ?_
          refine y_putI dX12_passOne_102 zk_313 flRX12_337 ⟨rfl, rfl⟩ ?_
          refine z_aload_n dX12_passOne_105 1 rfl ?_
          refine z_iload_n dX12_passOne_106 3 rfl ?_
          refine z_iconst (M := mX12_passOne) (v := 3) dX12_passOne_107 rfl ?_
          refine z_iconst (M := mX12_passOne) (v := 0) dX12_passOne_108 rfl ?_
          obtain ⟨v11, he11, h⟩ := obind h
          refine y_Vv (M := mX12_passOne) (Y := mX12_write) (d2 := d - 1) (As := [.int x2, .int (3 : Int32), .int (0 : Int32)]) (st := []) dX12_passOne_109 mlRX12_340 cv_X12_write zk_313 (ct_Md_write (dle (Nat.le_of_ble_eq_true rfl) hd0) he11) (dps (Nat.le_of_ble_eq_true rfl) hd0) rfl rfl (Nat.le_of_ble_eq_true rfl) ?_
          refine z_lv (lv2 := [(0, .ref 313), (1, .int x1), (2, .int x2)]) [1, 2, 3] rfl ?_
          exact t_Md_passOne_112 hd0 ih x1 x2 v11 _ h
        · replace h := oFn hc9 h
          refine z_goto 112 dX12_passOne_85 rfl ?_
          refine z_lv (lv2 := [(0, .ref 313), (1, .int x1), (2, .int x2)]) [1, 2, 3] rfl ?_
          exact t_Md_passOne_112 hd0 ih x1 x2 v7 _ h
      · replace h := oFn hc4 h
        refine z_goto 112 dX12_passOne_50 rfl ?_
        refine z_lv (lv2 := [(0, .ref 313), (1, .int x1), (2, .int x2)]) [1, 2, 3] rfl ?_
        exact t_Md_passOne_112 hd0 ih x1 x2 ν _ h
def Md_passOne (x1 : Int32) (ν : Nm) : Option Nm :=
  (if ¬ x1 = 0 then
    Md_passOne_26 FU x1 (0 : Int32) (si (si ν 314 8 ((gi ν 314 8) + x1)) 314 10 (0 : Int32))
  else
    some ν)
set_option maxRecDepth 100000 in
set_option maxHeartbeats 4000000 in
theorem t_Md_passOne {g : GG} {d : Nat} (hd0 : 3 ≤ d) : ∀ (x1 : Int32) (ν : Nm) (r : Nm), Md_passOne x1 ν = some r → Z g d (0, 0) mX12_passOne 333 0 0 0 [(0, .ref 313), (1, .int x1)] [] (zem ν) (zF g (none, zem r)) := by
  intro x1 ν r h
  unfold Md_passOne at h
  refine z_iload_n dX12_passOne_0 1 rfl ?_
  refine z_if_ne 5 dX12_passOne_1 rfl (fun hc1 => ?_) (fun hc1 => ?_)
  · replace h := oT hc1 h
    refine z_aload_n dX12_passOne_5 0 rfl ?_
    refine y_getR (M := mX12_passOne) (r := 314) dX12_passOne_6 zk_313 flRX12_7 fr_10_0.1 (fr_10_0.2 _) ?_
    refine z_bipush (M := mX12_passOne) (v := 8) dX12_passOne_9 rfl ?_
    refine z_dup2 dX12_passOne_11 rfl rfl ?_
    refine y_iald (M := mX12_passOne) (jj := 8) dX12_passOne_12 zk_314 rfl rfl ?_
    refine z_iload_n dX12_passOne_13 1 rfl ?_
    refine z_iadd dX12_passOne_14 ?_
    refine y_iast (M := mX12_passOne) (jj := 8) dX12_passOne_15 zk_314 rfl rfl ?_
    refine z_aload_n dX12_passOne_16 0 rfl ?_
    refine y_getR (M := mX12_passOne) (r := 314) dX12_passOne_17 zk_313 flRX12_7 fr_10_0.1 (fr_10_0.2 _) ?_
    refine z_bipush (M := mX12_passOne) (v := 10) dX12_passOne_20 rfl ?_
    refine z_iconst (M := mX12_passOne) (v := 0) dX12_passOne_22 rfl ?_
    refine y_iast (M := mX12_passOne) (jj := 10) dX12_passOne_23 zk_314 rfl rfl ?_
    refine z_iconst (M := mX12_passOne) (v := 0) dX12_passOne_24 rfl ?_
    refine z_istore_n (M := mX12_passOne) (lv2 := [(2, .int (0 : Int32)), (0, .ref 313), (1, .int x1)]) dX12_passOne_25 (Nat.le_of_ble_eq_true rfl) rfl ?_
    refine z_lv (lv2 := [(0, .ref 313), (1, .int x1), (2, .int (0 : Int32))]) [1, 2, 0] rfl ?_
    exact t_Md_passOne_26 hd0 FU x1 (0 : Int32) (si (si ν 314 8 ((gi ν 314 8) + x1)) 314 10 (0 : Int32)) _ h
  · replace h := oFn hc1 h
    cases h
    exact z_vret dX12_passOne_4 rfl
theorem ct_Md_passOne {g : GG} {d : Nat} {x1 : Int32} {ν : Nm} {r : Nm} (hd0 : 3 ≤ d)  (h : Md_passOne x1 ν = some r) : Ct g d mX12_passOne [.ref 313, .int x1] (zem ν) (none, zem r) := y_entry in_X12_passOne (Nat.le_of_ble_eq_true rfl) rfl (t_Md_passOne hd0 x1 ν r h)
-- FuseMinutesModel.pass(I)V
theorem dX12_pass_0 : decode cX12_pass 0 = .ok (.iload_n 1, 1) := by decide +kernel
theorem dX12_pass_1 : decode cX12_pass 1 = .ok (.istore_n 2, 1) := by decide +kernel
theorem dX12_pass_2 : decode cX12_pass 2 = .ok (.iload_n 2, 1) := by decide +kernel
theorem dX12_pass_3 : decode cX12_pass 3 = .ok (.ifCond .le 32, 3) := by decide +kernel
theorem dX12_pass_6 : decode cX12_pass 6 = .ok (.aload_n 0, 1) := by decide +kernel
theorem dX12_pass_7 : decode cX12_pass 7 = .ok (.invokevirtual 343, 3) := by decide +kernel
theorem dX12_pass_10 : decode cX12_pass 10 = .ok (.iload_n 2, 1) := by decide +kernel
theorem dX12_pass_11 : decode cX12_pass 11 = .ok (.if_icmp .ge 10, 3) := by decide +kernel
theorem dX12_pass_14 : decode cX12_pass 14 = .ok (.aload_n 0, 1) := by decide +kernel
theorem dX12_pass_15 : decode cX12_pass 15 = .ok (.invokevirtual 343, 3) := by decide +kernel
theorem dX12_pass_18 : decode cX12_pass 18 = .ok (.goto 4, 3) := by decide +kernel
theorem dX12_pass_21 : decode cX12_pass 21 = .ok (.iload_n 2, 1) := by decide +kernel
theorem dX12_pass_22 : decode cX12_pass 22 = .ok (.istore_n 3, 1) := by decide +kernel
theorem dX12_pass_23 : decode cX12_pass 23 = .ok (.aload_n 0, 1) := by decide +kernel
theorem dX12_pass_24 : decode cX12_pass 24 = .ok (.iload_n 3, 1) := by decide +kernel
theorem dX12_pass_25 : decode cX12_pass 25 = .ok (.invokevirtual 346, 3) := by decide +kernel
theorem dX12_pass_28 : decode cX12_pass 28 = .ok (.iload_n 2, 1) := by decide +kernel
theorem dX12_pass_29 : decode cX12_pass 29 = .ok (.iload_n 3, 1) := by decide +kernel
theorem dX12_pass_30 : decode cX12_pass 30 = .ok (.isub, 1) := by decide +kernel
theorem dX12_pass_31 : decode cX12_pass 31 = .ok (.istore_n 2, 1) := by decide +kernel
theorem dX12_pass_32 : decode cX12_pass 32 = .ok (.goto (-30), 3) := by decide +kernel
theorem dX12_pass_35 : decode cX12_pass 35 = .ok (.return_, 1) := by decide +kernel
def Md_pass_22 (k2 : Int32 → Nm → Option Nm) (x2 : Int32) (s0 : Int32) (ν : Nm) : Option Nm :=
  (Md_passOne s0 ν).bind fun v1 =>
  k2 (x2 - s0) v1
set_option maxRecDepth 100000 in
set_option maxHeartbeats 4000000 in
theorem t_Md_pass_22 {g : GG} {d : Nat} (hd0 : 4 ≤ d) {k2 : Int32 → Nm → Option Nm} (hk2 : ∀ (x2 : Int32) (ν : Nm) (r : Nm), k2 x2 ν = some r → Z g d (0, 0) mX12_pass 333 0 0 2 [(0, .ref 313), (2, .int x2)] [] (zem ν) (zF g (none, zem r))) : ∀ (x2 : Int32) (s0 : Int32) (ν : Nm) (r : Nm), Md_pass_22 k2 x2 s0 ν = some r → Z g d (0, 0) mX12_pass 333 0 0 22 [(0, .ref 313), (2, .int x2)] [.int s0] (zem ν) (zF g (none, zem r)) := by
  intro x2 s0 ν r h
  unfold Md_pass_22 at h
  refine z_istore_n (M := mX12_pass) (lv2 := [(3, .int s0), (0, .ref 313), (2, .int x2)]) dX12_pass_22 (Nat.le_of_ble_eq_true rfl) rfl ?_
  refine z_aload_n dX12_pass_23 1 rfl ?_
  refine z_iload_n dX12_pass_24 0 rfl ?_
  obtain ⟨v1, he1, h⟩ := obind h
  refine y_Vv (M := mX12_pass) (Y := mX12_passOne) (d2 := d - 1) (As := [.int s0]) (st := []) dX12_pass_25 mlRX12_346 cv_X12_passOne zk_313 (ct_Md_passOne (dle (Nat.le_of_ble_eq_true rfl) hd0) he1) (dps (Nat.le_of_ble_eq_true rfl) hd0) rfl rfl (Nat.le_of_ble_eq_true rfl) ?_
  refine z_iload_n dX12_pass_28 2 rfl ?_
  refine z_iload_n dX12_pass_29 0 rfl ?_
  refine z_isub dX12_pass_30 ?_
  refine z_istore_n (M := mX12_pass) (lv2 := [(2, .int (x2 - s0)), (3, .int s0), (0, .ref 313)]) dX12_pass_31 (Nat.le_of_ble_eq_true rfl) rfl ?_
  refine z_goto 2 dX12_pass_32 rfl ?_
  refine z_lv (lv2 := [(0, .ref 313), (2, .int (x2 - s0))]) [2, 0] rfl ?_
  exact hk2 (x2 - s0) v1 _ h
def Md_pass_2 : Nat → Int32 → Nm → Option Nm
  | 0, _, _ => none
  | f + 1, x2, ν =>
    (if x2 ≤ 0 then
      some ν
    else
      (Md_nextOut ν).bind fun v2 =>
      (if x2 ≤ v2 then
        Md_pass_22 (Md_pass_2 f) x2 x2 ν
      else
        (Md_nextOut ν).bind fun v4 =>
        Md_pass_22 (Md_pass_2 f) x2 v4 ν))
set_option maxRecDepth 100000 in
set_option maxHeartbeats 4000000 in
theorem t_Md_pass_2 {g : GG} {d : Nat} (hd0 : 4 ≤ d) : ∀ (f : Nat), ∀ (x2 : Int32) (ν : Nm) (r : Nm), Md_pass_2 f x2 ν = some r → Z g d (0, 0) mX12_pass 333 0 0 2 [(0, .ref 313), (2, .int x2)] [] (zem ν) (zF g (none, zem r)) := by
  intro f
  induction f with
  | zero =>
    intro x2 ν r h
    cases h
  | succ f ih =>
    intro x2 ν r h
    rw [Md_pass_2] at h
    refine z_iload_n dX12_pass_2 1 rfl ?_
    refine z_if_le 35 dX12_pass_3 rfl (fun hc1 => ?_) (fun hc1 => ?_)
    · replace h := oT hc1 h
      cases h
      exact z_vret dX12_pass_35 rfl
    · replace h := oF hc1 h
      refine z_aload_n dX12_pass_6 0 rfl ?_
      obtain ⟨v2, he2, h⟩ := obind h
      refine y_Vi (M := mX12_pass) (Y := mX12_nextOut) (d2 := d - 1) (As := []) (st := []) dX12_pass_7 mlRX12_343 cv_X12_nextOut zk_313 (ct_Md_nextOut (dle (Nat.le_of_ble_eq_true rfl) hd0) he2) (dps (Nat.le_of_ble_eq_true rfl) hd0) rfl rfl (Nat.le_of_ble_eq_true rfl) ?_
      refine z_iload_n dX12_pass_10 1 rfl ?_
      refine z_icmp_ge 21 dX12_pass_11 rfl (fun hc3 => ?_) (fun hc3 => ?_)
      · replace h := oT hc3 h
        refine z_iload_n dX12_pass_21 1 rfl ?_
        exact t_Md_pass_22 hd0 ih x2 x2 ν _ h
      · replace h := oF hc3 h
        refine z_aload_n dX12_pass_14 0 rfl ?_
        obtain ⟨v4, he4, h⟩ := obind h
        refine y_Vi (M := mX12_pass) (Y := mX12_nextOut) (d2 := d - 1) (As := []) (st := []) dX12_pass_15 mlRX12_343 cv_X12_nextOut zk_313 (ct_Md_nextOut (dle (Nat.le_of_ble_eq_true rfl) hd0) he4) (dps (Nat.le_of_ble_eq_true rfl) hd0) rfl rfl (Nat.le_of_ble_eq_true rfl) ?_
        refine z_goto 22 dX12_pass_18 rfl ?_
        exact t_Md_pass_22 hd0 ih x2 v4 ν _ h
def Md_pass (x1 : Int32) (ν : Nm) : Option Nm :=
  Md_pass_2 FU x1 ν
set_option maxRecDepth 100000 in
set_option maxHeartbeats 4000000 in
theorem t_Md_pass {g : GG} {d : Nat} (hd0 : 4 ≤ d) : ∀ (x1 : Int32) (ν : Nm) (r : Nm), Md_pass x1 ν = some r → Z g d (0, 0) mX12_pass 333 0 0 0 [(0, .ref 313), (1, .int x1)] [] (zem ν) (zF g (none, zem r)) := by
  intro x1 ν r h
  unfold Md_pass at h
  refine z_iload_n dX12_pass_0 1 rfl ?_
  refine z_istore_n (M := mX12_pass) (lv2 := [(2, .int x1), (0, .ref 313), (1, .int x1)]) dX12_pass_1 (Nat.le_of_ble_eq_true rfl) rfl ?_
  refine z_lv (lv2 := [(0, .ref 313), (2, .int x1)]) [1, 0] rfl ?_
  exact t_Md_pass_2 hd0 FU x1 ν _ h
theorem ct_Md_pass {g : GG} {d : Nat} {x1 : Int32} {ν : Nm} {r : Nm} (hd0 : 4 ≤ d)  (h : Md_pass x1 ν = some r) : Ct g d mX12_pass [.ref 313, .int x1] (zem ν) (none, zem r) := y_entry in_X12_pass (Nat.le_of_ble_eq_true rfl) rfl (t_Md_pass hd0 x1 ν r h)
-- FuseMinutesModel.arePassed(I)Z
theorem dX12_arePassed_0 : decode cX12_arePassed 0 = .ok (.aload_n 0, 1) := by decide +kernel
theorem dX12_arePassed_1 : decode cX12_arePassed 1 = .ok (.iconst 0, 1) := by decide +kernel
theorem dX12_arePassed_2 : decode cX12_arePassed 2 = .ok (.putfield 337, 3) := by decide +kernel
theorem dX12_arePassed_5 : decode cX12_arePassed 5 = .ok (.iconst 0, 1) := by decide +kernel
theorem dX12_arePassed_6 : decode cX12_arePassed 6 = .ok (.istore_n 2, 1) := by decide +kernel
theorem dX12_arePassed_7 : decode cX12_arePassed 7 = .ok (.iload_n 2, 1) := by decide +kernel
theorem dX12_arePassed_8 : decode cX12_arePassed 8 = .ok (.iload_n 1, 1) := by decide +kernel
theorem dX12_arePassed_9 : decode cX12_arePassed 9 = .ok (.if_icmp .ge 28, 3) := by decide +kernel
theorem dX12_arePassed_12 : decode cX12_arePassed 12 = .ok (.aload_n 0, 1) := by decide +kernel
theorem dX12_arePassed_13 : decode cX12_arePassed 13 = .ok (.invokevirtual 389, 3) := by decide +kernel
theorem dX12_arePassed_16 : decode cX12_arePassed 16 = .ok (.ifCond .ne 5, 3) := by decide +kernel
theorem dX12_arePassed_19 : decode cX12_arePassed 19 = .ok (.iconst 0, 1) := by decide +kernel
theorem dX12_arePassed_20 : decode cX12_arePassed 20 = .ok (.ireturn, 1) := by decide +kernel
theorem dX12_arePassed_21 : decode cX12_arePassed 21 = .ok (.aload_n 0, 1) := by decide +kernel
theorem dX12_arePassed_22 : decode cX12_arePassed 22 = .ok (.invokevirtual 367, 3) := by decide +kernel
theorem dX12_arePassed_25 : decode cX12_arePassed 25 = .ok (.aload_n 0, 1) := by decide +kernel
theorem dX12_arePassed_26 : decode cX12_arePassed 26 = .ok (.bipush 64, 2) := by decide +kernel
theorem dX12_arePassed_28 : decode cX12_arePassed 28 = .ok (.invokevirtual 386, 3) := by decide +kernel
theorem dX12_arePassed_31 : decode cX12_arePassed 31 = .ok (.iinc 2 1, 3) := by decide +kernel
theorem dX12_arePassed_34 : decode cX12_arePassed 34 = .ok (.goto (-27), 3) := by decide +kernel
theorem dX12_arePassed_37 : decode cX12_arePassed 37 = .ok (.iconst 1, 1) := by decide +kernel
theorem dX12_arePassed_38 : decode cX12_arePassed 38 = .ok (.ireturn, 1) := by decide +kernel
def Md_arePassed_7 : Nat → Int32 → Int32 → Nm → Option (Bool × Nm)
  | 0, _, _, _ => none
  | f + 1, x1, x2, ν =>
    (if x1 ≤ x2 then
      some (true, ν)
    else
      (Md_canPass ν).bind fun v2 =>
      (if ¬ (b2i v2) = 0 then
        (Md_keep ν).bind fun v4 =>
        (Md_pass (64 : Int32) v4).bind fun v5 =>
        (Md_arePassed_7 f) x1 (x2 + (1 : Int32)) v5
      else
        some (false, ν)))
set_option maxRecDepth 100000 in
set_option maxHeartbeats 4000000 in
theorem t_Md_arePassed_7 {g : GG} {d : Nat} (hd0 : 5 ≤ d) : ∀ (f : Nat), ∀ (x1 : Int32) (x2 : Int32) (ν : Nm) (r : (Bool × Nm)), Md_arePassed_7 f x1 x2 ν = some r → Z g d (0, 0) mX12_arePassed 333 0 0 7 [(0, .ref 313), (1, .int x1), (2, .int x2)] [] (zem ν) (zF g (some (.int (b2i r.1)), zem r.2)) := by
  intro f
  induction f with
  | zero =>
    intro x1 x2 ν r h
    cases h
  | succ f ih =>
    intro x1 x2 ν r h
    rw [Md_arePassed_7] at h
    refine z_iload_n dX12_arePassed_7 2 rfl ?_
    refine z_iload_n dX12_arePassed_8 1 rfl ?_
    refine z_icmp_ge 37 dX12_arePassed_9 rfl (fun hc1 => ?_) (fun hc1 => ?_)
    · replace h := oT hc1 h
      refine z_iconst (M := mX12_arePassed) (v := 1) dX12_arePassed_37 rfl ?_
      cases h
      exact z_zret dX12_arePassed_38 rfl rfl
    · replace h := oF hc1 h
      refine z_aload_n dX12_arePassed_12 0 rfl ?_
      obtain ⟨v2, he2, h⟩ := obind h
      refine y_Vi (M := mX12_arePassed) (Y := mX12_canPass) (d2 := d - 1) (As := []) (st := []) dX12_arePassed_13 mlRX12_389 cv_X12_canPass zk_313 (ct_Md_canPass (dle (Nat.le_of_ble_eq_true rfl) hd0) he2) (dps (Nat.le_of_ble_eq_true rfl) hd0) rfl rfl (Nat.le_of_ble_eq_true rfl) ?_
      refine z_if_ne 21 dX12_arePassed_16 rfl (fun hc3 => ?_) (fun hc3 => ?_)
      · replace h := oT hc3 h
        refine z_aload_n dX12_arePassed_21 0 rfl ?_
        obtain ⟨v4, he4, h⟩ := obind h
        refine y_Vv (M := mX12_arePassed) (Y := mX12_keep) (d2 := d - 1) (As := []) (st := []) dX12_arePassed_22 mlRX12_367 cv_X12_keep zk_313 (ct_Md_keep (dle (Nat.le_of_ble_eq_true rfl) hd0) he4) (dps (Nat.le_of_ble_eq_true rfl) hd0) rfl rfl (Nat.le_of_ble_eq_true rfl) ?_
        refine z_aload_n dX12_arePassed_25 0 rfl ?_
        refine z_bipush (M := mX12_arePassed) (v := 64) dX12_arePassed_26 rfl ?_
        obtain ⟨v5, he5, h⟩ := obind h
        refine y_Vv (M := mX12_arePassed) (Y := mX12_pass) (d2 := d - 1) (As := [.int (64 : Int32)]) (st := []) dX12_arePassed_28 mlRX12_386 cv_X12_pass zk_313 (ct_Md_pass (dle (Nat.le_of_ble_eq_true rfl) hd0) he5) (dps (Nat.le_of_ble_eq_true rfl) hd0) rfl rfl (Nat.le_of_ble_eq_true rfl) ?_
        refine z_iinc (M := mX12_arePassed) (v := (x2 + (1 : Int32))) (lv2 := [(2, .int (x2 + (1 : Int32))), (0, .ref 313), (1, .int x1)]) dX12_arePassed_31 2 rfl rfl (Nat.le_of_ble_eq_true rfl) rfl ?_
        refine z_goto 7 dX12_arePassed_34 rfl ?_
        refine z_lv (lv2 := [(0, .ref 313), (1, .int x1), (2, .int (x2 + (1 : Int32)))]) [1, 2, 0] rfl ?_
        exact ih x1 (x2 + (1 : Int32)) v5 _ h
      · replace h := oFn hc3 h
        refine z_iconst (M := mX12_arePassed) (v := 0) dX12_arePassed_19 rfl ?_
        cases h
        exact z_zret dX12_arePassed_20 rfl rfl
def Md_arePassed (x1 : Int32) (ν : Nm) : Option (Bool × Nm) :=
  Md_arePassed_7 FU x1 (0 : Int32) (si ν 313 24 (0 : Int32))
set_option maxRecDepth 100000 in
set_option maxHeartbeats 4000000 in
theorem t_Md_arePassed {g : GG} {d : Nat} (hd0 : 5 ≤ d) : ∀ (x1 : Int32) (ν : Nm) (r : (Bool × Nm)), Md_arePassed x1 ν = some r → Z g d (0, 0) mX12_arePassed 333 0 0 0 [(0, .ref 313), (1, .int x1)] [] (zem ν) (zF g (some (.int (b2i r.1)), zem r.2)) := by
  intro x1 ν r h
  unfold Md_arePassed at h
  refine z_aload_n dX12_arePassed_0 0 rfl ?_
  refine z_iconst (M := mX12_arePassed) (v := 0) dX12_arePassed_1 rfl ?_
  refine y_putI dX12_arePassed_2 zk_313 flRX12_337 ⟨rfl, rfl⟩ ?_
  refine z_iconst (M := mX12_arePassed) (v := 0) dX12_arePassed_5 rfl ?_
  refine z_istore_n (M := mX12_arePassed) (lv2 := [(2, .int (0 : Int32)), (0, .ref 313), (1, .int x1)]) dX12_arePassed_6 (Nat.le_of_ble_eq_true rfl) rfl ?_
  refine z_lv (lv2 := [(0, .ref 313), (1, .int x1), (2, .int (0 : Int32))]) [1, 2, 0] rfl ?_
  exact t_Md_arePassed_7 hd0 FU x1 (0 : Int32) (si ν 313 24 (0 : Int32)) _ h
theorem ct_Md_arePassed {g : GG} {d : Nat} {x1 : Int32} {ν : Nm} {r : (Bool × Nm)} (hd0 : 5 ≤ d)  (h : Md_arePassed x1 ν = some r) : Ct g d mX12_arePassed [.ref 313, .int x1] (zem ν) (some (.int (b2i r.1)), zem r.2) := y_entry in_X12_arePassed (Nat.le_of_ble_eq_true rfl) rfl (t_Md_arePassed hd0 x1 ν r h)
-- FuseMinutesModel.minute(I)I
theorem dX12_minute_0 : decode cX12_minute 0 = .ok (.iload_n 1, 1) := by decide +kernel
theorem dX12_minute_1 : decode cX12_minute 1 = .ok (.iconst 1, 1) := by decide +kernel
theorem dX12_minute_2 : decode cX12_minute 2 = .ok (.bipush 60, 2) := by decide +kernel
theorem dX12_minute_4 : decode cX12_minute 4 = .ok (.invokestatic 88, 3) := by decide +kernel
theorem dX12_minute_7 : decode cX12_minute 7 = .ok (.ifCond .eq 36, 3) := by decide +kernel
theorem dX12_minute_10 : decode cX12_minute 10 = .ok (.aload_n 0, 1) := by decide +kernel
theorem dX12_minute_11 : decode cX12_minute 11 = .ok (.getfield 7, 3) := by decide +kernel
theorem dX12_minute_14 : decode cX12_minute 14 = .ok (.bipush 8, 2) := by decide +kernel
theorem dX12_minute_16 : decode cX12_minute 16 = .ok (.iaload, 1) := by decide +kernel
theorem dX12_minute_17 : decode cX12_minute 17 = .ok (.bipush 64, 2) := by decide +kernel
theorem dX12_minute_19 : decode cX12_minute 19 = .ok (.iload_n 1, 1) := by decide +kernel
theorem dX12_minute_20 : decode cX12_minute 20 = .ok (.imul, 1) := by decide +kernel
theorem dX12_minute_21 : decode cX12_minute 21 = .ok (.iadd, 1) := by decide +kernel
theorem dX12_minute_22 : decode cX12_minute 22 = .ok (.ldc_w 336, 3) := by decide +kernel
theorem dX12_minute_25 : decode cX12_minute 25 = .ok (.if_icmp .gt 18, 3) := by decide +kernel
theorem dX12_minute_28 : decode cX12_minute 28 = .ok (.aload_n 0, 1) := by decide +kernel
theorem dX12_minute_29 : decode cX12_minute 29 = .ok (.iload_n 1, 1) := by decide +kernel
theorem dX12_minute_30 : decode cX12_minute 30 = .ok (.invokevirtual 392, 3) := by decide +kernel
theorem dX12_minute_33 : decode cX12_minute 33 = .ok (.ifCond .eq 10, 3) := by decide +kernel
theorem dX12_minute_36 : decode cX12_minute 36 = .ok (.aload_n 0, 1) := by decide +kernel
theorem dX12_minute_37 : decode cX12_minute 37 = .ok (.getfield 337, 3) := by decide +kernel
theorem dX12_minute_40 : decode cX12_minute 40 = .ok (.goto 4, 3) := by decide +kernel
theorem dX12_minute_43 : decode cX12_minute 43 = .ok (.iconst (-1), 1) := by decide +kernel
theorem dX12_minute_44 : decode cX12_minute 44 = .ok (.ireturn, 1) := by decide +kernel
def Md_minute (x1 : Int32) (ν : Nm) : Option (Int32 × Nm) :=
  (Md_isIn x1 (1 : Int32) (60 : Int32)).bind fun v1 =>
  (if (b2i v1) = 0 then
    some ((-1 : Int32), ν)
  else
    (if (639936 : Int32) < ((gi ν 314 8) + ((64 : Int32) * x1)) then
      some ((-1 : Int32), ν)
    else
      (Md_arePassed x1 ν).bind fun v4 =>
      (if (b2i v4.1) = 0 then
        some ((-1 : Int32), v4.2)
      else
        some ((gi v4.2 313 24), v4.2))))
set_option maxRecDepth 100000 in
set_option maxHeartbeats 4000000 in
theorem t_Md_minute {g : GG} {d : Nat} (hd0 : 6 ≤ d) : ∀ (x1 : Int32) (ν : Nm) (r : (Int32 × Nm)), Md_minute x1 ν = some r → Z g d (0, 0) mX12_minute 333 0 0 0 [(0, .ref 313), (1, .int x1)] [] (zem ν) (zF g (some (.int r.1), zem r.2)) := by
  intro x1 ν r h
  unfold Md_minute at h
  refine z_iload_n dX12_minute_0 1 rfl ?_
  refine z_iconst (M := mX12_minute) (v := 1) dX12_minute_1 rfl ?_
  refine z_bipush (M := mX12_minute) (v := 60) dX12_minute_2 rfl ?_
  obtain ⟨v1, he1, h⟩ := obind h
  refine y_Si (M := mX12_minute) (Y := mX12_isIn) (d2 := d - 1) (As := [.int x1, .int (1 : Int32), .int (60 : Int32)]) (st := []) dX12_minute_4 mlRX12_88 cv_X12_isIn (ct_Md_isIn (dle (Nat.le_of_ble_eq_true rfl) hd0) he1) (dps (Nat.le_of_ble_eq_true rfl) hd0) rfl rfl (Nat.le_of_ble_eq_true rfl) ?_
  refine z_if_eq 43 dX12_minute_7 rfl (fun hc2 => ?_) (fun hc2 => ?_)
  · replace h := oT hc2 h
    refine z_iconst (M := mX12_minute) (v := -1) dX12_minute_43 rfl ?_
    cases h
    exact z_iret dX12_minute_44 rfl
  · replace h := oF hc2 h
    refine z_aload_n dX12_minute_10 0 rfl ?_
    refine y_getR (M := mX12_minute) (r := 314) dX12_minute_11 zk_313 flRX12_7 fr_10_0.1 (fr_10_0.2 _) ?_
    refine z_bipush (M := mX12_minute) (v := 8) dX12_minute_14 rfl ?_
    refine y_iald (M := mX12_minute) (jj := 8) dX12_minute_16 zk_314 rfl rfl ?_
    refine z_bipush (M := mX12_minute) (v := 64) dX12_minute_17 rfl ?_
    refine z_iload_n dX12_minute_19 1 rfl ?_
    refine z_imul dX12_minute_20 ?_
    refine z_iadd dX12_minute_21 ?_
    refine z_ldcw dX12_minute_22 csRX12_336 ?_
    refine z_icmp_gt 43 dX12_minute_25 rfl (fun hc3 => ?_) (fun hc3 => ?_)
    · replace h := oT hc3 h
      refine z_iconst (M := mX12_minute) (v := -1) dX12_minute_43 rfl ?_
      cases h
      exact z_iret dX12_minute_44 rfl
    · replace h := oF hc3 h
      refine z_aload_n dX12_minute_28 0 rfl ?_
      refine z_iload_n dX12_minute_29 1 rfl ?_
      obtain ⟨v4, he4, h⟩ := obind h
      refine y_Vi (M := mX12_minute) (Y := mX12_arePassed) (d2 := d - 1) (As := [.int x1]) (st := []) dX12_minute_30 mlRX12_392 cv_X12_arePassed zk_313 (ct_Md_arePassed (dle (Nat.le_of_ble_eq_true rfl) hd0) he4) (dps (Nat.le_of_ble_eq_true rfl) hd0) rfl rfl (Nat.le_of_ble_eq_true rfl) ?_
      refine z_if_eq 43 dX12_minute_33 rfl (fun hc5 => ?_) (fun hc5 => ?_)
      · replace h := oT hc5 h
        refine z_iconst (M := mX12_minute) (v := -1) dX12_minute_43 rfl ?_
        cases h
        exact z_iret dX12_minute_44 rfl
      · replace h := oF hc5 h
        refine z_aload_n dX12_minute_36 0 rfl ?_
        refine y_getI dX12_minute_37 zk_313 flRX12_337 ?_
        refine z_goto 44 dX12_minute_40 rfl ?_
        cases h
        exact z_iret dX12_minute_44 rfl
theorem ct_Md_minute {g : GG} {d : Nat} {x1 : Int32} {ν : Nm} {r : (Int32 × Nm)} (hd0 : 6 ≤ d)  (h : Md_minute x1 ν = some r) : Ct g d mX12_minute [.ref 313, .int x1] (zem ν) (some (.int r.1), zem r.2) := y_entry in_X12_minute (Nat.le_of_ble_eq_true rfl) rfl (t_Md_minute hd0 x1 ν r h)
-- FuseMinutesModel.canBurn()Z
theorem dX12_canBurn_0 : decode cX12_canBurn 0 = .ok (.aload_n 0, 1) := by decide +kernel
theorem dX12_canBurn_1 : decode cX12_canBurn 1 = .ok (.invokevirtual 343, 3) := by decide +kernel
theorem dX12_canBurn_4 : decode cX12_canBurn 4 = .ok (.ldc_w 332, 3) := by decide +kernel
theorem dX12_canBurn_7 : decode cX12_canBurn 7 = .ok (.if_icmp .ge 25, 3) := by decide +kernel
theorem dX12_canBurn_10 : decode cX12_canBurn 10 = .ok (.aload_n 0, 1) := by decide +kernel
theorem dX12_canBurn_11 : decode cX12_canBurn 11 = .ok (.getfield 7, 3) := by decide +kernel
theorem dX12_canBurn_14 : decode cX12_canBurn 14 = .ok (.bipush 8, 2) := by decide +kernel
theorem dX12_canBurn_16 : decode cX12_canBurn 16 = .ok (.iaload, 1) := by decide +kernel
theorem dX12_canBurn_17 : decode cX12_canBurn 17 = .ok (.aload_n 0, 1) := by decide +kernel
theorem dX12_canBurn_18 : decode cX12_canBurn 18 = .ok (.invokevirtual 343, 3) := by decide +kernel
theorem dX12_canBurn_21 : decode cX12_canBurn 21 = .ok (.iadd, 1) := by decide +kernel
theorem dX12_canBurn_22 : decode cX12_canBurn 22 = .ok (.ldc_w 336, 3) := by decide +kernel
theorem dX12_canBurn_25 : decode cX12_canBurn 25 = .ok (.if_icmp .gt 7, 3) := by decide +kernel
theorem dX12_canBurn_28 : decode cX12_canBurn 28 = .ok (.iconst 1, 1) := by decide +kernel
theorem dX12_canBurn_29 : decode cX12_canBurn 29 = .ok (.goto 4, 3) := by decide +kernel
theorem dX12_canBurn_32 : decode cX12_canBurn 32 = .ok (.iconst 0, 1) := by decide +kernel
theorem dX12_canBurn_33 : decode cX12_canBurn 33 = .ok (.ireturn, 1) := by decide +kernel
def Md_canBurn (ν : Nm) : Option Bool :=
  (Md_nextOut ν).bind fun v1 =>
  (if (1000000 : Int32) ≤ v1 then
    some false
  else
    (Md_nextOut ν).bind fun v3 =>
    (if (639936 : Int32) < ((gi ν 314 8) + v3) then
      some false
    else
      some true))
set_option maxRecDepth 100000 in
set_option maxHeartbeats 4000000 in
theorem t_Md_canBurn {g : GG} {d : Nat} {ν : Nm} (hd0 : 4 ≤ d) : ∀ (r : Bool), Md_canBurn ν = some r → Z g d (0, 0) mX12_canBurn 333 0 0 0 [(0, .ref 313)] [] (zem ν) (zF g (some (.int (b2i r)), zem ν)) := by
  intro r h
  unfold Md_canBurn at h
  refine z_aload_n dX12_canBurn_0 0 rfl ?_
  obtain ⟨v1, he1, h⟩ := obind h
  refine y_Vi (M := mX12_canBurn) (Y := mX12_nextOut) (d2 := d - 1) (As := []) (st := []) dX12_canBurn_1 mlRX12_343 cv_X12_nextOut zk_313 (ct_Md_nextOut (dle (Nat.le_of_ble_eq_true rfl) hd0) he1) (dps (Nat.le_of_ble_eq_true rfl) hd0) rfl rfl (Nat.le_of_ble_eq_true rfl) ?_
  refine z_ldcw dX12_canBurn_4 csRX12_332 ?_
  refine z_icmp_ge 32 dX12_canBurn_7 rfl (fun hc2 => ?_) (fun hc2 => ?_)
  · replace h := oT hc2 h
    refine z_iconst (M := mX12_canBurn) (v := 0) dX12_canBurn_32 rfl ?_
    cases h
    exact z_zret dX12_canBurn_33 rfl rfl
  · replace h := oF hc2 h
    refine z_aload_n dX12_canBurn_10 0 rfl ?_
    refine y_getR (M := mX12_canBurn) (r := 314) dX12_canBurn_11 zk_313 flRX12_7 fr_10_0.1 (fr_10_0.2 _) ?_
    refine z_bipush (M := mX12_canBurn) (v := 8) dX12_canBurn_14 rfl ?_
    refine y_iald (M := mX12_canBurn) (jj := 8) dX12_canBurn_16 zk_314 rfl rfl ?_
    refine z_aload_n dX12_canBurn_17 0 rfl ?_
    obtain ⟨v3, he3, h⟩ := obind h
    refine y_Vi (M := mX12_canBurn) (Y := mX12_nextOut) (d2 := d - 1) (As := []) (st := [.int (gi ν 314 8)]) dX12_canBurn_18 mlRX12_343 cv_X12_nextOut zk_313 (ct_Md_nextOut (dle (Nat.le_of_ble_eq_true rfl) hd0) he3) (dps (Nat.le_of_ble_eq_true rfl) hd0) rfl rfl (Nat.le_of_ble_eq_true rfl) ?_
    refine z_iadd dX12_canBurn_21 ?_
    refine z_ldcw dX12_canBurn_22 csRX12_336 ?_
    refine z_icmp_gt 32 dX12_canBurn_25 rfl (fun hc4 => ?_) (fun hc4 => ?_)
    · replace h := oT hc4 h
      refine z_iconst (M := mX12_canBurn) (v := 0) dX12_canBurn_32 rfl ?_
      cases h
      exact z_zret dX12_canBurn_33 rfl rfl
    · replace h := oF hc4 h
      refine z_iconst (M := mX12_canBurn) (v := 1) dX12_canBurn_28 rfl ?_
      refine z_goto 33 dX12_canBurn_29 rfl ?_
      cases h
      exact z_zret dX12_canBurn_33 rfl rfl
theorem ct_Md_canBurn {g : GG} {d : Nat} {ν : Nm} {r : Bool} (hd0 : 4 ≤ d)  (h : Md_canBurn ν = some r) : Ct g d mX12_canBurn [.ref 313] (zem ν) (some (.int (b2i r)), zem ν) := y_entry in_X12_canBurn (Nat.le_of_ble_eq_true rfl) rfl (t_Md_canBurn hd0 r h)
-- FuseMinutesModel.burn()I
theorem dX12_burn_0 : decode cX12_burn 0 = .ok (.aload_n 0, 1) := by decide +kernel
theorem dX12_burn_1 : decode cX12_burn 1 = .ok (.invokevirtual 383, 3) := by decide +kernel
theorem dX12_burn_4 : decode cX12_burn 4 = .ok (.ifCond .ne 5, 3) := by decide +kernel
theorem dX12_burn_7 : decode cX12_burn 7 = .ok (.iconst (-1), 1) := by decide +kernel
theorem dX12_burn_8 : decode cX12_burn 8 = .ok (.ireturn, 1) := by decide +kernel
theorem dX12_burn_9 : decode cX12_burn 9 = .ok (.aload_n 0, 1) := by decide +kernel
theorem dX12_burn_10 : decode cX12_burn 10 = .ok (.invokevirtual 367, 3) := by decide +kernel
theorem dX12_burn_13 : decode cX12_burn 13 = .ok (.aload_n 0, 1) := by decide +kernel
theorem dX12_burn_14 : decode cX12_burn 14 = .ok (.invokevirtual 343, 3) := by decide +kernel
theorem dX12_burn_17 : decode cX12_burn 17 = .ok (.istore_n 1, 1) := by decide +kernel
theorem dX12_burn_18 : decode cX12_burn 18 = .ok (.aload_n 0, 1) := by decide +kernel
theorem dX12_burn_19 : decode cX12_burn 19 = .ok (.iload_n 1, 1) := by decide +kernel
theorem dX12_burn_20 : decode cX12_burn 20 = .ok (.invokevirtual 386, 3) := by decide +kernel
theorem dX12_burn_23 : decode cX12_burn 23 = .ok (.iload_n 1, 1) := by decide +kernel
theorem dX12_burn_24 : decode cX12_burn 24 = .ok (.ireturn, 1) := by decide +kernel
def Md_burn (ν : Nm) : Option (Int32 × Nm) :=
  (Md_canBurn ν).bind fun v1 =>
  (if ¬ (b2i v1) = 0 then
    (Md_keep ν).bind fun v3 =>
    (Md_nextOut v3).bind fun v4 =>
    (Md_pass v4 v3).bind fun v5 =>
    some (v4, v5)
  else
    some ((-1 : Int32), ν))
set_option maxRecDepth 100000 in
set_option maxHeartbeats 4000000 in
theorem t_Md_burn {g : GG} {d : Nat} (hd0 : 5 ≤ d) : ∀ (ν : Nm) (r : (Int32 × Nm)), Md_burn ν = some r → Z g d (0, 0) mX12_burn 333 0 0 0 [(0, .ref 313)] [] (zem ν) (zF g (some (.int r.1), zem r.2)) := by
  intro ν r h
  unfold Md_burn at h
  refine z_aload_n dX12_burn_0 0 rfl ?_
  obtain ⟨v1, he1, h⟩ := obind h
  refine y_Vi (M := mX12_burn) (Y := mX12_canBurn) (d2 := d - 1) (As := []) (st := []) dX12_burn_1 mlRX12_383 cv_X12_canBurn zk_313 (ct_Md_canBurn (dle (Nat.le_of_ble_eq_true rfl) hd0) he1) (dps (Nat.le_of_ble_eq_true rfl) hd0) rfl rfl (Nat.le_of_ble_eq_true rfl) ?_
  refine z_if_ne 9 dX12_burn_4 rfl (fun hc2 => ?_) (fun hc2 => ?_)
  · replace h := oT hc2 h
    refine z_aload_n dX12_burn_9 0 rfl ?_
    obtain ⟨v3, he3, h⟩ := obind h
    refine y_Vv (M := mX12_burn) (Y := mX12_keep) (d2 := d - 1) (As := []) (st := []) dX12_burn_10 mlRX12_367 cv_X12_keep zk_313 (ct_Md_keep (dle (Nat.le_of_ble_eq_true rfl) hd0) he3) (dps (Nat.le_of_ble_eq_true rfl) hd0) rfl rfl (Nat.le_of_ble_eq_true rfl) ?_
    refine z_aload_n dX12_burn_13 0 rfl ?_
    obtain ⟨v4, he4, h⟩ := obind h
    refine y_Vi (M := mX12_burn) (Y := mX12_nextOut) (d2 := d - 1) (As := []) (st := []) dX12_burn_14 mlRX12_343 cv_X12_nextOut zk_313 (ct_Md_nextOut (dle (Nat.le_of_ble_eq_true rfl) hd0) he4) (dps (Nat.le_of_ble_eq_true rfl) hd0) rfl rfl (Nat.le_of_ble_eq_true rfl) ?_
    refine z_istore_n (M := mX12_burn) (lv2 := [(1, .int v4), (0, .ref 313)]) dX12_burn_17 (Nat.le_of_ble_eq_true rfl) rfl ?_
    refine z_aload_n dX12_burn_18 1 rfl ?_
    refine z_iload_n dX12_burn_19 0 rfl ?_
    obtain ⟨v5, he5, h⟩ := obind h
    refine y_Vv (M := mX12_burn) (Y := mX12_pass) (d2 := d - 1) (As := [.int v4]) (st := []) dX12_burn_20 mlRX12_386 cv_X12_pass zk_313 (ct_Md_pass (dle (Nat.le_of_ble_eq_true rfl) hd0) he5) (dps (Nat.le_of_ble_eq_true rfl) hd0) rfl rfl (Nat.le_of_ble_eq_true rfl) ?_
    refine z_iload_n dX12_burn_23 0 rfl ?_
    cases h
    exact z_iret dX12_burn_24 rfl
  · replace h := oFn hc2 h
    refine z_iconst (M := mX12_burn) (v := -1) dX12_burn_7 rfl ?_
    cases h
    exact z_iret dX12_burn_8 rfl
theorem ct_Md_burn {g : GG} {d : Nat} {ν : Nm} {r : (Int32 × Nm)} (hd0 : 5 ≤ d)  (h : Md_burn ν = some r) : Ct g d mX12_burn [.ref 313] (zem ν) (some (.int r.1), zem r.2) := y_entry in_X12_burn (Nat.le_of_ble_eq_true rfl) rfl (t_Md_burn hd0 ν r h)
-- FuseMinutesModel.isCord(I)Z
theorem dX12_isCord_0 : decode cX12_isCord 0 = .ok (.iload_n 1, 1) := by decide +kernel
theorem dX12_isCord_1 : decode cX12_isCord 1 = .ok (.iconst 0, 1) := by decide +kernel
theorem dX12_isCord_2 : decode cX12_isCord 2 = .ok (.aload_n 0, 1) := by decide +kernel
theorem dX12_isCord_3 : decode cX12_isCord 3 = .ok (.getfield 7, 3) := by decide +kernel
theorem dX12_isCord_6 : decode cX12_isCord 6 = .ok (.iconst 0, 1) := by decide +kernel
theorem dX12_isCord_7 : decode cX12_isCord 7 = .ok (.iaload, 1) := by decide +kernel
theorem dX12_isCord_8 : decode cX12_isCord 8 = .ok (.iconst 1, 1) := by decide +kernel
theorem dX12_isCord_9 : decode cX12_isCord 9 = .ok (.isub, 1) := by decide +kernel
theorem dX12_isCord_10 : decode cX12_isCord 10 = .ok (.invokestatic 88, 3) := by decide +kernel
theorem dX12_isCord_13 : decode cX12_isCord 13 = .ok (.ireturn, 1) := by decide +kernel
def Md_isCord (ν : Nm) (x1 : Int32) : Option Bool :=
  (Md_isIn x1 (0 : Int32) ((gi ν 314 0) - (1 : Int32))).bind fun v1 =>
  some v1
set_option maxRecDepth 100000 in
set_option maxHeartbeats 4000000 in
theorem t_Md_isCord {g : GG} {d : Nat} {ν : Nm} (hd0 : 2 ≤ d) : ∀ (x1 : Int32) (r : Bool), Md_isCord ν x1 = some r → Z g d (0, 0) mX12_isCord 333 0 0 0 [(0, .ref 313), (1, .int x1)] [] (zem ν) (zF g (some (.int (b2i r)), zem ν)) := by
  intro x1 r h
  unfold Md_isCord at h
  refine z_iload_n dX12_isCord_0 1 rfl ?_
  refine z_iconst (M := mX12_isCord) (v := 0) dX12_isCord_1 rfl ?_
  refine z_aload_n dX12_isCord_2 0 rfl ?_
  refine y_getR (M := mX12_isCord) (r := 314) dX12_isCord_3 zk_313 flRX12_7 fr_10_0.1 (fr_10_0.2 _) ?_
  refine z_iconst (M := mX12_isCord) (v := 0) dX12_isCord_6 rfl ?_
  refine y_iald (M := mX12_isCord) (jj := 0) dX12_isCord_7 zk_314 rfl rfl ?_
  refine z_iconst (M := mX12_isCord) (v := 1) dX12_isCord_8 rfl ?_
  refine z_isub dX12_isCord_9 ?_
  obtain ⟨v1, he1, h⟩ := obind h
  refine y_Si (M := mX12_isCord) (Y := mX12_isIn) (d2 := d - 1) (As := [.int x1, .int (0 : Int32), .int ((gi ν 314 0) - (1 : Int32))]) (st := []) dX12_isCord_10 mlRX12_88 cv_X12_isIn (ct_Md_isIn (dle (Nat.le_of_ble_eq_true rfl) hd0) he1) (dps (Nat.le_of_ble_eq_true rfl) hd0) rfl rfl (Nat.le_of_ble_eq_true rfl) ?_
  cases h
  exact z_zret dX12_isCord_13 rfl (nar_b2i _)
theorem ct_Md_isCord {g : GG} {d : Nat} {x1 : Int32} {ν : Nm} {r : Bool} (hd0 : 2 ≤ d)  (h : Md_isCord ν x1 = some r) : Ct g d mX12_isCord [.ref 313, .int x1] (zem ν) (some (.int (b2i r)), zem ν) := y_entry in_X12_isCord (Nat.le_of_ble_eq_true rfl) rfl (t_Md_isCord hd0 x1 r h)
-- FuseMinutesModel.sideBit(Z)I
theorem dX12_sideBit_0 : decode cX12_sideBit 0 = .ok (.iload_n 0, 1) := by decide +kernel
theorem dX12_sideBit_1 : decode cX12_sideBit 1 = .ok (.ifCond .eq 7, 3) := by decide +kernel
theorem dX12_sideBit_4 : decode cX12_sideBit 4 = .ok (.iconst 2, 1) := by decide +kernel
theorem dX12_sideBit_5 : decode cX12_sideBit 5 = .ok (.goto 4, 3) := by decide +kernel
theorem dX12_sideBit_8 : decode cX12_sideBit 8 = .ok (.iconst 1, 1) := by decide +kernel
theorem dX12_sideBit_9 : decode cX12_sideBit 9 = .ok (.ireturn, 1) := by decide +kernel
def Md_sideBit (x0 : Int32) : Option Int32 :=
  (if x0 = 0 then
    some (1 : Int32)
  else
    some (2 : Int32))
set_option maxRecDepth 100000 in
set_option maxHeartbeats 4000000 in
theorem t_Md_sideBit {g : GG} {d : Nat} {μ : Mm} (hd0 : 1 ≤ d) : ∀ (x0 : Int32) (r : Int32), Md_sideBit x0 = some r → Z g d (0, 0) mX12_sideBit 333 0 0 0 [(0, .int x0)] [] μ (zF g (some (.int r), μ)) := by
  intro x0 r h
  unfold Md_sideBit at h
  refine z_iload_n dX12_sideBit_0 0 rfl ?_
  refine z_if_eq 8 dX12_sideBit_1 rfl (fun hc1 => ?_) (fun hc1 => ?_)
  · replace h := oT hc1 h
    refine z_iconst (M := mX12_sideBit) (v := 1) dX12_sideBit_8 rfl ?_
    cases h
    exact z_iret dX12_sideBit_9 rfl
  · replace h := oF hc1 h
    refine z_iconst (M := mX12_sideBit) (v := 2) dX12_sideBit_4 rfl ?_
    refine z_goto 9 dX12_sideBit_5 rfl ?_
    cases h
    exact z_iret dX12_sideBit_9 rfl
theorem ct_Md_sideBit {g : GG} {d : Nat} {x0 : Int32} {μ : Mm} {r : Int32} (hd0 : 1 ≤ d)  (h : Md_sideBit x0 = some r) : Ct g d mX12_sideBit [.int x0] μ (some (.int r), μ) := y_entry in_X12_sideBit (Nat.le_of_ble_eq_true rfl) rfl (t_Md_sideBit hd0 x0 r h)
-- FuseMinutesModel.canSnuff(IZ)Z
theorem dX12_canSnuff_0 : decode cX12_canSnuff 0 = .ok (.aload_n 0, 1) := by decide +kernel
theorem dX12_canSnuff_1 : decode cX12_canSnuff 1 = .ok (.iload_n 1, 1) := by decide +kernel
theorem dX12_canSnuff_2 : decode cX12_canSnuff 2 = .ok (.invokevirtual 115, 3) := by decide +kernel
theorem dX12_canSnuff_5 : decode cX12_canSnuff 5 = .ok (.ifCond .eq 21, 3) := by decide +kernel
theorem dX12_canSnuff_8 : decode cX12_canSnuff 8 = .ok (.aload_n 0, 1) := by decide +kernel
theorem dX12_canSnuff_9 : decode cX12_canSnuff 9 = .ok (.iload_n 1, 1) := by decide +kernel
theorem dX12_canSnuff_10 : decode cX12_canSnuff 10 = .ok (.iconst 1, 1) := by decide +kernel
theorem dX12_canSnuff_11 : decode cX12_canSnuff 11 = .ok (.invokevirtual 96, 3) := by decide +kernel
theorem dX12_canSnuff_14 : decode cX12_canSnuff 14 = .ok (.iload_n 2, 1) := by decide +kernel
theorem dX12_canSnuff_15 : decode cX12_canSnuff 15 = .ok (.invokestatic 349, 3) := by decide +kernel
theorem dX12_canSnuff_18 : decode cX12_canSnuff 18 = .ok (.iand, 1) := by decide +kernel
theorem dX12_canSnuff_19 : decode cX12_canSnuff 19 = .ok (.ifCond .eq 7, 3) := by decide +kernel
theorem dX12_canSnuff_22 : decode cX12_canSnuff 22 = .ok (.iconst 1, 1) := by decide +kernel
theorem dX12_canSnuff_23 : decode cX12_canSnuff 23 = .ok (.goto 4, 3) := by decide +kernel
theorem dX12_canSnuff_26 : decode cX12_canSnuff 26 = .ok (.iconst 0, 1) := by decide +kernel
theorem dX12_canSnuff_27 : decode cX12_canSnuff 27 = .ok (.ireturn, 1) := by decide +kernel
def Md_canSnuff (ν : Nm) (x1 : Int32) (x2 : Int32) : Option Bool :=
  (Md_isCord ν x1).bind fun v1 =>
  (if (b2i v1) = 0 then
    some false
  else
    (Md_get ν x1 (1 : Int32)).bind fun v3 =>
    (Md_sideBit x2).bind fun v4 =>
    (if (v3 &&& v4) = 0 then
      some false
    else
      some true))
set_option maxRecDepth 100000 in
set_option maxHeartbeats 4000000 in
theorem t_Md_canSnuff {g : GG} {d : Nat} {ν : Nm} (hd0 : 3 ≤ d) : ∀ (x1 : Int32) (x2 : Int32) (r : Bool), Md_canSnuff ν x1 x2 = some r → Z g d (0, 0) mX12_canSnuff 333 0 0 0 [(0, .ref 313), (1, .int x1), (2, .int x2)] [] (zem ν) (zF g (some (.int (b2i r)), zem ν)) := by
  intro x1 x2 r h
  unfold Md_canSnuff at h
  refine z_aload_n dX12_canSnuff_0 0 rfl ?_
  refine z_iload_n dX12_canSnuff_1 1 rfl ?_
  obtain ⟨v1, he1, h⟩ := obind h
  refine y_Vi (M := mX12_canSnuff) (Y := mX12_isCord) (d2 := d - 1) (As := [.int x1]) (st := []) dX12_canSnuff_2 mlRX12_115 cv_X12_isCord zk_313 (ct_Md_isCord (dle (Nat.le_of_ble_eq_true rfl) hd0) he1) (dps (Nat.le_of_ble_eq_true rfl) hd0) rfl rfl (Nat.le_of_ble_eq_true rfl) ?_
  refine z_if_eq 26 dX12_canSnuff_5 rfl (fun hc2 => ?_) (fun hc2 => ?_)
  · replace h := oT hc2 h
    refine z_iconst (M := mX12_canSnuff) (v := 0) dX12_canSnuff_26 rfl ?_
    cases h
    exact z_zret dX12_canSnuff_27 rfl rfl
  · replace h := oF hc2 h
    refine z_aload_n dX12_canSnuff_8 0 rfl ?_
    refine z_iload_n dX12_canSnuff_9 1 rfl ?_
    refine z_iconst (M := mX12_canSnuff) (v := 1) dX12_canSnuff_10 rfl ?_
    obtain ⟨v3, he3, h⟩ := obind h
    refine y_Vi (M := mX12_canSnuff) (Y := mX12_get) (d2 := d - 1) (As := [.int x1, .int (1 : Int32)]) (st := []) dX12_canSnuff_11 mlRX12_96 cv_X12_get zk_313 (ct_Md_get (dle (Nat.le_of_ble_eq_true rfl) hd0) he3) (dps (Nat.le_of_ble_eq_true rfl) hd0) rfl rfl (Nat.le_of_ble_eq_true rfl) ?_
    refine z_iload_n dX12_canSnuff_14 2 rfl ?_
    obtain ⟨v4, he4, h⟩ := obind h
    refine y_Si (M := mX12_canSnuff) (Y := mX12_sideBit) (d2 := d - 1) (As := [.int x2]) (st := [.int v3]) dX12_canSnuff_15 mlRX12_349 cv_X12_sideBit (ct_Md_sideBit (dle (Nat.le_of_ble_eq_true rfl) hd0) he4) (dps (Nat.le_of_ble_eq_true rfl) hd0) rfl rfl (Nat.le_of_ble_eq_true rfl) ?_
    refine z_iand dX12_canSnuff_18 ?_
    refine z_if_eq 26 dX12_canSnuff_19 rfl (fun hc5 => ?_) (fun hc5 => ?_)
    · replace h := oT hc5 h
      refine z_iconst (M := mX12_canSnuff) (v := 0) dX12_canSnuff_26 rfl ?_
      cases h
      exact z_zret dX12_canSnuff_27 rfl rfl
    · replace h := oF hc5 h
      refine z_iconst (M := mX12_canSnuff) (v := 1) dX12_canSnuff_22 rfl ?_
      refine z_goto 27 dX12_canSnuff_23 rfl ?_
      cases h
      exact z_zret dX12_canSnuff_27 rfl rfl
theorem ct_Md_canSnuff {g : GG} {d : Nat} {x1 : Int32} {x2 : Int32} {ν : Nm} {r : Bool} (hd0 : 3 ≤ d)  (h : Md_canSnuff ν x1 x2 = some r) : Ct g d mX12_canSnuff [.ref 313, .int x1, .int x2] (zem ν) (some (.int (b2i r)), zem ν) := y_entry in_X12_canSnuff (Nat.le_of_ble_eq_true rfl) rfl (t_Md_canSnuff hd0 x1 x2 r h)
-- FuseMinutesModel.forget()V
theorem dX12_forget_0 : decode cX12_forget 0 = .ok (.iconst 0, 1) := by decide +kernel
theorem dX12_forget_1 : decode cX12_forget 1 = .ok (.istore_n 1, 1) := by decide +kernel
theorem dX12_forget_2 : decode cX12_forget 2 = .ok (.iload_n 1, 1) := by decide +kernel
theorem dX12_forget_3 : decode cX12_forget 3 = .ok (.bipush 16, 2) := by decide +kernel
theorem dX12_forget_5 : decode cX12_forget 5 = .ok (.if_icmp .ge 16, 3) := by decide +kernel
theorem dX12_forget_8 : decode cX12_forget 8 = .ok (.aload_n 0, 1) := by decide +kernel
theorem dX12_forget_9 : decode cX12_forget 9 = .ok (.getfield 66, 3) := by decide +kernel
theorem dX12_forget_12 : decode cX12_forget 12 = .ok (.iload_n 1, 1) := by decide +kernel
theorem dX12_forget_13 : decode cX12_forget 13 = .ok (.iconst (-1), 1) := by decide +kernel
theorem dX12_forget_14 : decode cX12_forget 14 = .ok (.iastore, 1) := by decide +kernel
theorem dX12_forget_15 : decode cX12_forget 15 = .ok (.iinc 1 1, 3) := by decide +kernel
theorem dX12_forget_18 : decode cX12_forget 18 = .ok (.goto (-16), 3) := by decide +kernel
theorem dX12_forget_21 : decode cX12_forget 21 = .ok (.return_, 1) := by decide +kernel
def Md_forget_2 : Nat → Int32 → Nm → Option Nm
  | 0, _, _ => none
  | f + 1, x1, ν =>
    (if (16 : Int32) ≤ x1 then
      some ν
    else
      if inb x1 16 then
      (Md_forget_2 f) (x1 + (1 : Int32)) (si ν 328 x1.toNatClampNeg (-1 : Int32))
      else none)
set_option maxRecDepth 100000 in
set_option maxHeartbeats 4000000 in
theorem t_Md_forget_2 {g : GG} {d : Nat} (hd0 : 1 ≤ d) : ∀ (f : Nat), ∀ (x1 : Int32) (ν : Nm) (r : Nm), Md_forget_2 f x1 ν = some r → Z g d (0, 0) mX12_forget 333 0 0 2 [(0, .ref 313), (1, .int x1)] [] (zem ν) (zF g (none, zem r)) := by
  intro f
  induction f with
  | zero =>
    intro x1 ν r h
    cases h
  | succ f ih =>
    intro x1 ν r h
    rw [Md_forget_2] at h
    refine z_iload_n dX12_forget_2 1 rfl ?_
    refine z_bipush (M := mX12_forget) (v := 16) dX12_forget_3 rfl ?_
    refine z_icmp_ge 21 dX12_forget_5 rfl (fun hc1 => ?_) (fun hc1 => ?_)
    · replace h := oT hc1 h
      cases h
      exact z_vret dX12_forget_21 rfl
    · replace h := oF hc1 h
      refine z_aload_n dX12_forget_8 0 rfl ?_
      refine y_getR (M := mX12_forget) (r := 328) dX12_forget_9 zk_313 flRX12_66 fr_10_31.1 (fr_10_31.2 _) ?_
      refine z_iload_n dX12_forget_12 1 rfl ?_
      refine z_iconst (M := mX12_forget) (v := -1) dX12_forget_13 rfl ?_
      obtain ⟨hi2, h⟩ := oif h
      refine y_iast (M := mX12_forget) (jj := x1.toNatClampNeg) dX12_forget_14 zk_328 hi2 rfl ?_
      refine z_iinc (M := mX12_forget) (v := (x1 + (1 : Int32))) (lv2 := [(1, .int (x1 + (1 : Int32))), (0, .ref 313)]) dX12_forget_15 1 rfl rfl (Nat.le_of_ble_eq_true rfl) rfl ?_
      refine z_goto 2 dX12_forget_18 rfl ?_
      refine z_lv (lv2 := [(0, .ref 313), (1, .int (x1 + (1 : Int32)))]) [1, 0] rfl ?_
      exact ih (x1 + (1 : Int32)) (si ν 328 x1.toNatClampNeg (-1 : Int32)) _ h
def Md_forget (ν : Nm) : Option Nm :=
  Md_forget_2 FU (0 : Int32) ν
set_option maxRecDepth 100000 in
set_option maxHeartbeats 4000000 in
theorem t_Md_forget {g : GG} {d : Nat} (hd0 : 1 ≤ d) : ∀ (ν : Nm) (r : Nm), Md_forget ν = some r → Z g d (0, 0) mX12_forget 333 0 0 0 [(0, .ref 313)] [] (zem ν) (zF g (none, zem r)) := by
  intro ν r h
  unfold Md_forget at h
  refine z_iconst (M := mX12_forget) (v := 0) dX12_forget_0 rfl ?_
  refine z_istore_n (M := mX12_forget) (lv2 := [(1, .int (0 : Int32)), (0, .ref 313)]) dX12_forget_1 (Nat.le_of_ble_eq_true rfl) rfl ?_
  refine z_lv (lv2 := [(0, .ref 313), (1, .int (0 : Int32))]) [1, 0] rfl ?_
  exact t_Md_forget_2 hd0 FU (0 : Int32) ν _ h
theorem ct_Md_forget {g : GG} {d : Nat} {ν : Nm} {r : Nm} (hd0 : 1 ≤ d)  (h : Md_forget ν = some r) : Ct g d mX12_forget [.ref 313] (zem ν) (none, zem r) := y_entry in_X12_forget (Nat.le_of_ble_eq_true rfl) rfl (t_Md_forget hd0 ν r h)
-- FuseMinutesModel.cord(II)I
theorem dX12_cord_0 : decode cX12_cord 0 = .ok (.iload_n 1, 1) := by decide +kernel
theorem dX12_cord_1 : decode cX12_cord 1 = .ok (.iconst 1, 1) := by decide +kernel
theorem dX12_cord_2 : decode cX12_cord 2 = .ok (.bipush 60, 2) := by decide +kernel
theorem dX12_cord_4 : decode cX12_cord 4 = .ok (.invokestatic 88, 3) := by decide +kernel
theorem dX12_cord_7 : decode cX12_cord 7 = .ok (.ifCond .eq 23, 3) := by decide +kernel
theorem dX12_cord_10 : decode cX12_cord 10 = .ok (.iload_n 2, 1) := by decide +kernel
theorem dX12_cord_11 : decode cX12_cord 11 = .ok (.iconst 0, 1) := by decide +kernel
theorem dX12_cord_12 : decode cX12_cord 12 = .ok (.bipush 99, 2) := by decide +kernel
theorem dX12_cord_14 : decode cX12_cord 14 = .ok (.invokestatic 88, 3) := by decide +kernel
theorem dX12_cord_17 : decode cX12_cord 17 = .ok (.ifCond .eq 13, 3) := by decide +kernel
theorem dX12_cord_20 : decode cX12_cord 20 = .ok (.aload_n 0, 1) := by decide +kernel
theorem dX12_cord_21 : decode cX12_cord 21 = .ok (.getfield 7, 3) := by decide +kernel
theorem dX12_cord_24 : decode cX12_cord 24 = .ok (.iconst 0, 1) := by decide +kernel
theorem dX12_cord_25 : decode cX12_cord 25 = .ok (.iaload, 1) := by decide +kernel
theorem dX12_cord_26 : decode cX12_cord 26 = .ok (.iconst 4, 1) := by decide +kernel
theorem dX12_cord_27 : decode cX12_cord 27 = .ok (.if_icmp .ne 5, 3) := by decide +kernel
theorem dX12_cord_30 : decode cX12_cord 30 = .ok (.iconst (-1), 1) := by decide +kernel
theorem dX12_cord_31 : decode cX12_cord 31 = .ok (.ireturn, 1) := by decide +kernel
theorem dX12_cord_32 : decode cX12_cord 32 = .ok (.aload_n 0, 1) := by decide +kernel
theorem dX12_cord_33 : decode cX12_cord 33 = .ok (.getfield 7, 3) := by decide +kernel
theorem dX12_cord_36 : decode cX12_cord 36 = .ok (.iconst 0, 1) := by decide +kernel
theorem dX12_cord_37 : decode cX12_cord 37 = .ok (.iaload, 1) := by decide +kernel
theorem dX12_cord_38 : decode cX12_cord 38 = .ok (.istore_n 3, 1) := by decide +kernel
theorem dX12_cord_39 : decode cX12_cord 39 = .ok (.aload_n 0, 1) := by decide +kernel
theorem dX12_cord_40 : decode cX12_cord 40 = .ok (.getfield 7, 3) := by decide +kernel
theorem dX12_cord_43 : decode cX12_cord 43 = .ok (.bipush 20, 2) := by decide +kernel
theorem dX12_cord_45 : decode cX12_cord 45 = .ok (.iconst 2, 1) := by decide +kernel
theorem dX12_cord_46 : decode cX12_cord 46 = .ok (.iload_n 3, 1) := by decide +kernel
theorem dX12_cord_47 : decode cX12_cord 47 = .ok (.imul, 1) := by decide +kernel
theorem dX12_cord_48 : decode cX12_cord 48 = .ok (.iadd, 1) := by decide +kernel
theorem dX12_cord_49 : decode cX12_cord 49 = .ok (.iload_n 1, 1) := by decide +kernel
theorem dX12_cord_50 : decode cX12_cord 50 = .ok (.iastore, 1) := by decide +kernel
theorem dX12_cord_51 : decode cX12_cord 51 = .ok (.aload_n 0, 1) := by decide +kernel
theorem dX12_cord_52 : decode cX12_cord 52 = .ok (.getfield 7, 3) := by decide +kernel
theorem dX12_cord_55 : decode cX12_cord 55 = .ok (.bipush 20, 2) := by decide +kernel
theorem dX12_cord_57 : decode cX12_cord 57 = .ok (.iconst 2, 1) := by decide +kernel
theorem dX12_cord_58 : decode cX12_cord 58 = .ok (.iload_n 3, 1) := by decide +kernel
theorem dX12_cord_59 : decode cX12_cord 59 = .ok (.imul, 1) := by decide +kernel
theorem dX12_cord_60 : decode cX12_cord 60 = .ok (.iadd, 1) := by decide +kernel
theorem dX12_cord_61 : decode cX12_cord 61 = .ok (.iconst 1, 1) := by decide +kernel
theorem dX12_cord_62 : decode cX12_cord 62 = .ok (.iadd, 1) := by decide +kernel
theorem dX12_cord_63 : decode cX12_cord 63 = .ok (.iload_n 2, 1) := by decide +kernel
theorem dX12_cord_64 : decode cX12_cord 64 = .ok (.iastore, 1) := by decide +kernel
theorem dX12_cord_65 : decode cX12_cord 65 = .ok (.aload_n 0, 1) := by decide +kernel
theorem dX12_cord_66 : decode cX12_cord 66 = .ok (.iload_n 3, 1) := by decide +kernel
theorem dX12_cord_67 : decode cX12_cord 67 = .ok (.invokevirtual 104, 3) := by decide +kernel
theorem dX12_cord_70 : decode cX12_cord 70 = .ok (.aload_n 0, 1) := by decide +kernel
theorem dX12_cord_71 : decode cX12_cord 71 = .ok (.getfield 7, 3) := by decide +kernel
theorem dX12_cord_74 : decode cX12_cord 74 = .ok (.iconst 0, 1) := by decide +kernel
theorem dX12_cord_75 : decode cX12_cord 75 = .ok (.dup2, 1) := by decide +kernel
theorem dX12_cord_76 : decode cX12_cord 76 = .ok (.iaload, 1) := by decide +kernel
theorem dX12_cord_77 : decode cX12_cord 77 = .ok (.iconst 1, 1) := by decide +kernel
theorem dX12_cord_78 : decode cX12_cord 78 = .ok (.iadd, 1) := by decide +kernel
theorem dX12_cord_79 : decode cX12_cord 79 = .ok (.iastore, 1) := by decide +kernel
theorem dX12_cord_80 : decode cX12_cord 80 = .ok (.aload_n 0, 1) := by decide +kernel
theorem dX12_cord_81 : decode cX12_cord 81 = .ok (.invokevirtual 85, 3) := by decide +kernel
theorem dX12_cord_84 : decode cX12_cord 84 = .ok (.iload_n 3, 1) := by decide +kernel
theorem dX12_cord_85 : decode cX12_cord 85 = .ok (.ireturn, 1) := by decide +kernel
def Md_cord (x1 : Int32) (x2 : Int32) (ν : Nm) : Option (Int32 × Nm) :=
  (Md_isIn x1 (1 : Int32) (60 : Int32)).bind fun v1 =>
  (if (b2i v1) = 0 then
    some ((-1 : Int32), ν)
  else
    (Md_isIn x2 (0 : Int32) (99 : Int32)).bind fun v3 =>
    (if (b2i v3) = 0 then
      some ((-1 : Int32), ν)
    else
      (if ¬ (gi ν 314 0) = (4 : Int32) then
        if inb ((20 : Int32) + ((2 : Int32) * (gi ν 314 0))) 1385 then
        if inb (((20 : Int32) + ((2 : Int32) * (gi ν 314 0))) + (1 : Int32)) 1385 then
        (Md_begin (gi ν 314 0) (si (si ν 314 ((20 : Int32) + ((2 : Int32) * (gi ν 314 0))).toNatClampNeg x1) 314 (((20 : Int32) + ((2 : Int32) * (gi ν 314 0))) + (1 : Int32)).toNatClampNeg x2)).bind fun v8 =>
        (Md_forget (si v8 314 0 ((gi v8 314 0) + (1 : Int32)))).bind fun v9 =>
        some ((gi ν 314 0), v9)
        else none
        else none
      else
        some ((-1 : Int32), ν))))
set_option maxRecDepth 100000 in
set_option maxHeartbeats 4000000 in
theorem t_Md_cord {g : GG} {d : Nat} (hd0 : 3 ≤ d) : ∀ (x1 : Int32) (x2 : Int32) (ν : Nm) (r : (Int32 × Nm)), Md_cord x1 x2 ν = some r → Z g d (0, 0) mX12_cord 333 0 0 0 [(0, .ref 313), (1, .int x1), (2, .int x2)] [] (zem ν) (zF g (some (.int r.1), zem r.2)) := by
  intro x1 x2 ν r h
  unfold Md_cord at h
  refine z_iload_n dX12_cord_0 1 rfl ?_
  refine z_iconst (M := mX12_cord) (v := 1) dX12_cord_1 rfl ?_
  refine z_bipush (M := mX12_cord) (v := 60) dX12_cord_2 rfl ?_
  obtain ⟨v1, he1, h⟩ := obind h
  refine y_Si (M := mX12_cord) (Y := mX12_isIn) (d2 := d - 1) (As := [.int x1, .int (1 : Int32), .int (60 : Int32)]) (st := []) dX12_cord_4 mlRX12_88 cv_X12_isIn (ct_Md_isIn (dle (Nat.le_of_ble_eq_true rfl) hd0) he1) (dps (Nat.le_of_ble_eq_true rfl) hd0) rfl rfl (Nat.le_of_ble_eq_true rfl) ?_
  refine z_if_eq 30 dX12_cord_7 rfl (fun hc2 => ?_) (fun hc2 => ?_)
  · replace h := oT hc2 h
    refine z_iconst (M := mX12_cord) (v := -1) dX12_cord_30 rfl ?_
    cases h
    exact z_iret dX12_cord_31 rfl
  · replace h := oF hc2 h
    refine z_iload_n dX12_cord_10 2 rfl ?_
    refine z_iconst (M := mX12_cord) (v := 0) dX12_cord_11 rfl ?_
    refine z_bipush (M := mX12_cord) (v := 99) dX12_cord_12 rfl ?_
    obtain ⟨v3, he3, h⟩ := obind h
    refine y_Si (M := mX12_cord) (Y := mX12_isIn) (d2 := d - 1) (As := [.int x2, .int (0 : Int32), .int (99 : Int32)]) (st := []) dX12_cord_14 mlRX12_88 cv_X12_isIn (ct_Md_isIn (dle (Nat.le_of_ble_eq_true rfl) hd0) he3) (dps (Nat.le_of_ble_eq_true rfl) hd0) rfl rfl (Nat.le_of_ble_eq_true rfl) ?_
    refine z_if_eq 30 dX12_cord_17 rfl (fun hc4 => ?_) (fun hc4 => ?_)
    · replace h := oT hc4 h
      refine z_iconst (M := mX12_cord) (v := -1) dX12_cord_30 rfl ?_
      cases h
      exact z_iret dX12_cord_31 rfl
    · replace h := oF hc4 h
      refine z_aload_n dX12_cord_20 0 rfl ?_
      refine y_getR (M := mX12_cord) (r := 314) dX12_cord_21 zk_313 flRX12_7 fr_10_0.1 (fr_10_0.2 _) ?_
      refine z_iconst (M := mX12_cord) (v := 0) dX12_cord_24 rfl ?_
      refine y_iald (M := mX12_cord) (jj := 0) dX12_cord_25 zk_314 rfl rfl ?_
      refine z_iconst (M := mX12_cord) (v := 4) dX12_cord_26 rfl ?_
      refine z_icmp_ne 32 dX12_cord_27 rfl (fun hc5 => ?_) (fun hc5 => ?_)
      · replace h := oT hc5 h
        refine z_aload_n dX12_cord_32 0 rfl ?_
        refine y_getR (M := mX12_cord) (r := 314) dX12_cord_33 zk_313 flRX12_7 fr_10_0.1 (fr_10_0.2 _) ?_
        refine z_iconst (M := mX12_cord) (v := 0) dX12_cord_36 rfl ?_
        refine y_iald (M := mX12_cord) (jj := 0) dX12_cord_37 zk_314 rfl rfl ?_
        refine z_istore_n (M := mX12_cord) (lv2 := [(3, .int (gi ν 314 0)), (0, .ref 313), (1, .int x1), (2, .int x2)]) dX12_cord_38 (Nat.le_of_ble_eq_true rfl) rfl ?_
        refine z_aload_n dX12_cord_39 1 rfl ?_
        refine y_getR (M := mX12_cord) (r := 314) dX12_cord_40 zk_313 flRX12_7 fr_10_0.1 (fr_10_0.2 _) ?_
        refine z_bipush (M := mX12_cord) (v := 20) dX12_cord_43 rfl ?_
        refine z_iconst (M := mX12_cord) (v := 2) dX12_cord_45 rfl ?_
        refine z_iload_n dX12_cord_46 0 rfl ?_
        refine z_imul dX12_cord_47 ?_
        refine z_iadd dX12_cord_48 ?_
        refine z_iload_n dX12_cord_49 2 rfl ?_
        obtain ⟨hi6, h⟩ := oif h
        refine y_iast (M := mX12_cord) (jj := ((20 : Int32) + ((2 : Int32) * (gi ν 314 0))).toNatClampNeg) dX12_cord_50 zk_314 hi6 rfl ?_
        refine z_aload_n dX12_cord_51 1 rfl ?_
        refine y_getR (M := mX12_cord) (r := 314) dX12_cord_52 zk_313 flRX12_7 fr_10_0.1 (fr_10_0.2 _) ?_
        refine z_bipush (M := mX12_cord) (v := 20) dX12_cord_55 rfl ?_
        refine z_iconst (M := mX12_cord) (v := 2) dX12_cord_57 rfl ?_
        refine z_iload_n dX12_cord_58 0 rfl ?_
        refine z_imul dX12_cord_59 ?_
        refine z_iadd dX12_cord_60 ?_
        refine z_iconst (M := mX12_cord) (v := 1) dX12_cord_61 rfl ?_
        refine z_iadd dX12_cord_62 ?_
        refine z_iload_n dX12_cord_63 3 rfl ?_
        obtain ⟨hi7, h⟩ := oif h
        refine y_iast (M := mX12_cord) (jj := (((20 : Int32) + ((2 : Int32) * (gi ν 314 0))) + (1 : Int32)).toNatClampNeg) dX12_cord_64 zk_314 hi7 rfl ?_
        refine z_aload_n dX12_cord_65 1 rfl ?_
        refine z_iload_n dX12_cord_66 0 rfl ?_
        obtain ⟨v8, he8, h⟩ := obind h
        refine y_Vv (M := mX12_cord) (Y := mX12_begin) (d2 := d - 1) (As := [.int (gi ν 314 0)]) (st := []) dX12_cord_67 mlRX12_104 cv_X12_begin zk_313 (ct_Md_begin (dle (Nat.le_of_ble_eq_true rfl) hd0) he8) (dps (Nat.le_of_ble_eq_true rfl) hd0) rfl rfl (Nat.le_of_ble_eq_true rfl) ?_
        refine z_aload_n dX12_cord_70 1 rfl ?_
        refine y_getR (M := mX12_cord) (r := 314) dX12_cord_71 zk_313 flRX12_7 fr_10_0.1 (fr_10_0.2 _) ?_
        refine z_iconst (M := mX12_cord) (v := 0) dX12_cord_74 rfl ?_
        refine z_dup2 dX12_cord_75 rfl rfl ?_
        refine y_iald (M := mX12_cord) (jj := 0) dX12_cord_76 zk_314 rfl rfl ?_
        refine z_iconst (M := mX12_cord) (v := 1) dX12_cord_77 rfl ?_
        refine z_iadd dX12_cord_78 ?_
        refine y_iast (M := mX12_cord) (jj := 0) dX12_cord_79 zk_314 rfl rfl ?_
        refine z_aload_n dX12_cord_80 1 rfl ?_
        obtain ⟨v9, he9, h⟩ := obind h
        refine y_Vv (M := mX12_cord) (Y := mX12_forget) (d2 := d - 1) (As := []) (st := []) dX12_cord_81 mlRX12_85 cv_X12_forget zk_313 (ct_Md_forget (dle (Nat.le_of_ble_eq_true rfl) hd0) he9) (dps (Nat.le_of_ble_eq_true rfl) hd0) rfl rfl (Nat.le_of_ble_eq_true rfl) ?_
        refine z_iload_n dX12_cord_84 0 rfl ?_
        cases h
        exact z_iret dX12_cord_85 rfl
      · replace h := oFn hc5 h
        refine z_iconst (M := mX12_cord) (v := -1) dX12_cord_30 rfl ?_
        cases h
        exact z_iret dX12_cord_31 rfl
theorem ct_Md_cord {g : GG} {d : Nat} {x1 : Int32} {x2 : Int32} {ν : Nm} {r : (Int32 × Nm)} (hd0 : 3 ≤ d)  (h : Md_cord x1 x2 ν = some r) : Ct g d mX12_cord [.ref 313, .int x1, .int x2] (zem ν) (some (.int r.1), zem r.2) := y_entry in_X12_cord (Nat.le_of_ble_eq_true rfl) rfl (t_Md_cord hd0 x1 x2 ν r h)
-- FuseMinutesModel.hands(I)Z
theorem dX12_hands_0 : decode cX12_hands 0 = .ok (.iload_n 1, 1) := by decide +kernel
theorem dX12_hands_1 : decode cX12_hands 1 = .ok (.iconst 1, 1) := by decide +kernel
theorem dX12_hands_2 : decode cX12_hands 2 = .ok (.bipush 8, 2) := by decide +kernel
theorem dX12_hands_4 : decode cX12_hands 4 = .ok (.invokestatic 88, 3) := by decide +kernel
theorem dX12_hands_7 : decode cX12_hands 7 = .ok (.ifCond .ne 5, 3) := by decide +kernel
theorem dX12_hands_10 : decode cX12_hands 10 = .ok (.iconst 0, 1) := by decide +kernel
theorem dX12_hands_11 : decode cX12_hands 11 = .ok (.ireturn, 1) := by decide +kernel
theorem dX12_hands_12 : decode cX12_hands 12 = .ok (.aload_n 0, 1) := by decide +kernel
theorem dX12_hands_13 : decode cX12_hands 13 = .ok (.getfield 7, 3) := by decide +kernel
theorem dX12_hands_16 : decode cX12_hands 16 = .ok (.iconst 1, 1) := by decide +kernel
theorem dX12_hands_17 : decode cX12_hands 17 = .ok (.iload_n 1, 1) := by decide +kernel
theorem dX12_hands_18 : decode cX12_hands 18 = .ok (.iastore, 1) := by decide +kernel
theorem dX12_hands_19 : decode cX12_hands 19 = .ok (.iconst 1, 1) := by decide +kernel
theorem dX12_hands_20 : decode cX12_hands 20 = .ok (.ireturn, 1) := by decide +kernel
def Md_hands (x1 : Int32) (ν : Nm) : Option (Bool × Nm) :=
  (Md_isIn x1 (1 : Int32) (8 : Int32)).bind fun v1 =>
  (if ¬ (b2i v1) = 0 then
    some (true, (si ν 314 1 x1))
  else
    some (false, ν))
set_option maxRecDepth 100000 in
set_option maxHeartbeats 4000000 in
theorem t_Md_hands {g : GG} {d : Nat} (hd0 : 2 ≤ d) : ∀ (x1 : Int32) (ν : Nm) (r : (Bool × Nm)), Md_hands x1 ν = some r → Z g d (0, 0) mX12_hands 333 0 0 0 [(0, .ref 313), (1, .int x1)] [] (zem ν) (zF g (some (.int (b2i r.1)), zem r.2)) := by
  intro x1 ν r h
  unfold Md_hands at h
  refine z_iload_n dX12_hands_0 1 rfl ?_
  refine z_iconst (M := mX12_hands) (v := 1) dX12_hands_1 rfl ?_
  refine z_bipush (M := mX12_hands) (v := 8) dX12_hands_2 rfl ?_
  obtain ⟨v1, he1, h⟩ := obind h
  refine y_Si (M := mX12_hands) (Y := mX12_isIn) (d2 := d - 1) (As := [.int x1, .int (1 : Int32), .int (8 : Int32)]) (st := []) dX12_hands_4 mlRX12_88 cv_X12_isIn (ct_Md_isIn (dle (Nat.le_of_ble_eq_true rfl) hd0) he1) (dps (Nat.le_of_ble_eq_true rfl) hd0) rfl rfl (Nat.le_of_ble_eq_true rfl) ?_
  refine z_if_ne 12 dX12_hands_7 rfl (fun hc2 => ?_) (fun hc2 => ?_)
  · replace h := oT hc2 h
    refine z_aload_n dX12_hands_12 0 rfl ?_
    refine y_getR (M := mX12_hands) (r := 314) dX12_hands_13 zk_313 flRX12_7 fr_10_0.1 (fr_10_0.2 _) ?_
    refine z_iconst (M := mX12_hands) (v := 1) dX12_hands_16 rfl ?_
    refine z_iload_n dX12_hands_17 1 rfl ?_
    refine y_iast (M := mX12_hands) (jj := 1) dX12_hands_18 zk_314 rfl rfl ?_
    refine z_iconst (M := mX12_hands) (v := 1) dX12_hands_19 rfl ?_
    cases h
    exact z_zret dX12_hands_20 rfl rfl
  · replace h := oFn hc2 h
    refine z_iconst (M := mX12_hands) (v := 0) dX12_hands_10 rfl ?_
    cases h
    exact z_zret dX12_hands_11 rfl rfl
theorem ct_Md_hands {g : GG} {d : Nat} {x1 : Int32} {ν : Nm} {r : (Bool × Nm)} (hd0 : 2 ≤ d)  (h : Md_hands x1 ν = some r) : Ct g d mX12_hands [.ref 313, .int x1] (zem ν) (some (.int (b2i r.1)), zem r.2) := y_entry in_X12_hands (Nat.le_of_ble_eq_true rfl) rfl (t_Md_hands hd0 x1 ν r h)
-- FuseMinutesModel.endsNow()I
theorem dX12_endsNow_0 : decode cX12_endsNow 0 = .ok (.iconst 0, 1) := by decide +kernel
theorem dX12_endsNow_1 : decode cX12_endsNow 1 = .ok (.istore_n 1, 1) := by decide +kernel
theorem dX12_endsNow_2 : decode cX12_endsNow 2 = .ok (.iconst 0, 1) := by decide +kernel
theorem dX12_endsNow_3 : decode cX12_endsNow 3 = .ok (.istore_n 2, 1) := by decide +kernel
theorem dX12_endsNow_4 : decode cX12_endsNow 4 = .ok (.iload_n 2, 1) := by decide +kernel
theorem dX12_endsNow_5 : decode cX12_endsNow 5 = .ok (.aload_n 0, 1) := by decide +kernel
theorem dX12_endsNow_6 : decode cX12_endsNow 6 = .ok (.getfield 7, 3) := by decide +kernel
theorem dX12_endsNow_9 : decode cX12_endsNow 9 = .ok (.iconst 0, 1) := by decide +kernel
theorem dX12_endsNow_10 : decode cX12_endsNow 10 = .ok (.iaload, 1) := by decide +kernel
theorem dX12_endsNow_11 : decode cX12_endsNow 11 = .ok (.if_icmp .ge 21, 3) := by decide +kernel
theorem dX12_endsNow_14 : decode cX12_endsNow 14 = .ok (.iload_n 1, 1) := by decide +kernel
theorem dX12_endsNow_15 : decode cX12_endsNow 15 = .ok (.aload_n 0, 1) := by decide +kernel
theorem dX12_endsNow_16 : decode cX12_endsNow 16 = .ok (.iload_n 2, 1) := by decide +kernel
theorem dX12_endsNow_17 : decode cX12_endsNow 17 = .ok (.iconst 1, 1) := by decide +kernel
theorem dX12_endsNow_18 : decode cX12_endsNow 18 = .ok (.invokevirtual 96, 3) := by decide +kernel
theorem dX12_endsNow_21 : decode cX12_endsNow 21 = .ok (.invokestatic 100, 3) := by decide +kernel
theorem dX12_endsNow_24 : decode cX12_endsNow 24 = .ok (.iadd, 1) := by decide +kernel
theorem dX12_endsNow_25 : decode cX12_endsNow 25 = .ok (.istore_n 1, 1) := by decide +kernel
theorem dX12_endsNow_26 : decode cX12_endsNow 26 = .ok (.iinc 2 1, 3) := by decide +kernel
theorem dX12_endsNow_29 : decode cX12_endsNow 29 = .ok (.goto (-25), 3) := by decide +kernel
theorem dX12_endsNow_32 : decode cX12_endsNow 32 = .ok (.iload_n 1, 1) := by decide +kernel
theorem dX12_endsNow_33 : decode cX12_endsNow 33 = .ok (.ireturn, 1) := by decide +kernel
def Md_endsNow_4 (ν : Nm) : Nat → Int32 → Int32 → Option Int32
  | 0, _, _ => none
  | f + 1, x1, x2 =>
    (if (gi ν 314 0) ≤ x2 then
      some x1
    else
      (Md_get ν x2 (1 : Int32)).bind fun v2 =>
      (Md_bits v2).bind fun v3 =>
      (Md_endsNow_4 ν f) (x1 + v3) (x2 + (1 : Int32)))
set_option maxRecDepth 100000 in
set_option maxHeartbeats 4000000 in
theorem t_Md_endsNow_4 {g : GG} {d : Nat} {ν : Nm} (hd0 : 2 ≤ d) : ∀ (f : Nat), ∀ (x1 : Int32) (x2 : Int32) (r : Int32), Md_endsNow_4 ν f x1 x2 = some r → Z g d (0, 0) mX12_endsNow 333 0 0 4 [(0, .ref 313), (1, .int x1), (2, .int x2)] [] (zem ν) (zF g (some (.int r), zem ν)) := by
  intro f
  induction f with
  | zero =>
    intro x1 x2 r h
    cases h
  | succ f ih =>
    intro x1 x2 r h
    rw [Md_endsNow_4] at h
    refine z_iload_n dX12_endsNow_4 2 rfl ?_
    refine z_aload_n dX12_endsNow_5 0 rfl ?_
    refine y_getR (M := mX12_endsNow) (r := 314) dX12_endsNow_6 zk_313 flRX12_7 fr_10_0.1 (fr_10_0.2 _) ?_
    refine z_iconst (M := mX12_endsNow) (v := 0) dX12_endsNow_9 rfl ?_
    refine y_iald (M := mX12_endsNow) (jj := 0) dX12_endsNow_10 zk_314 rfl rfl ?_
    refine z_icmp_ge 32 dX12_endsNow_11 rfl (fun hc1 => ?_) (fun hc1 => ?_)
    · replace h := oT hc1 h
      refine z_iload_n dX12_endsNow_32 1 rfl ?_
      cases h
      exact z_iret dX12_endsNow_33 rfl
    · replace h := oF hc1 h
      refine z_iload_n dX12_endsNow_14 1 rfl ?_
      refine z_aload_n dX12_endsNow_15 0 rfl ?_
      refine z_iload_n dX12_endsNow_16 2 rfl ?_
      refine z_iconst (M := mX12_endsNow) (v := 1) dX12_endsNow_17 rfl ?_
      obtain ⟨v2, he2, h⟩ := obind h
      refine y_Vi (M := mX12_endsNow) (Y := mX12_get) (d2 := d - 1) (As := [.int x2, .int (1 : Int32)]) (st := [.int x1]) dX12_endsNow_18 mlRX12_96 cv_X12_get zk_313 (ct_Md_get (dle (Nat.le_of_ble_eq_true rfl) hd0) he2) (dps (Nat.le_of_ble_eq_true rfl) hd0) rfl rfl (Nat.le_of_ble_eq_true rfl) ?_
      obtain ⟨v3, he3, h⟩ := obind h
      refine y_Si (M := mX12_endsNow) (Y := mX12_bits) (d2 := d - 1) (As := [.int v2]) (st := [.int x1]) dX12_endsNow_21 mlRX12_100 cv_X12_bits (ct_Md_bits (dle (Nat.le_of_ble_eq_true rfl) hd0) he3) (dps (Nat.le_of_ble_eq_true rfl) hd0) rfl rfl (Nat.le_of_ble_eq_true rfl) ?_
      refine z_iadd dX12_endsNow_24 ?_
      refine z_istore_n (M := mX12_endsNow) (lv2 := [(1, .int (x1 + v3)), (0, .ref 313), (2, .int x2)]) dX12_endsNow_25 (Nat.le_of_ble_eq_true rfl) rfl ?_
      refine z_iinc (M := mX12_endsNow) (v := (x2 + (1 : Int32))) (lv2 := [(2, .int (x2 + (1 : Int32))), (1, .int (x1 + v3)), (0, .ref 313)]) dX12_endsNow_26 2 rfl rfl (Nat.le_of_ble_eq_true rfl) rfl ?_
      refine z_goto 4 dX12_endsNow_29 rfl ?_
      refine z_lv (lv2 := [(0, .ref 313), (1, .int (x1 + v3)), (2, .int (x2 + (1 : Int32)))]) [2, 1, 0] rfl ?_
      exact ih (x1 + v3) (x2 + (1 : Int32)) _ h
def Md_endsNow (ν : Nm) : Option Int32 :=
  Md_endsNow_4 ν FU (0 : Int32) (0 : Int32)
set_option maxRecDepth 100000 in
set_option maxHeartbeats 4000000 in
theorem t_Md_endsNow {g : GG} {d : Nat} {ν : Nm} (hd0 : 2 ≤ d) : ∀ (r : Int32), Md_endsNow ν = some r → Z g d (0, 0) mX12_endsNow 333 0 0 0 [(0, .ref 313)] [] (zem ν) (zF g (some (.int r), zem ν)) := by
  intro r h
  unfold Md_endsNow at h
  refine z_iconst (M := mX12_endsNow) (v := 0) dX12_endsNow_0 rfl ?_
  refine z_istore_n (M := mX12_endsNow) (lv2 := [(1, .int (0 : Int32)), (0, .ref 313)]) dX12_endsNow_1 (Nat.le_of_ble_eq_true rfl) rfl ?_
  refine z_iconst (M := mX12_endsNow) (v := 0) dX12_endsNow_2 rfl ?_
  refine z_istore_n (M := mX12_endsNow) (lv2 := [(2, .int (0 : Int32)), (1, .int (0 : Int32)), (0, .ref 313)]) dX12_endsNow_3 (Nat.le_of_ble_eq_true rfl) rfl ?_
  refine z_lv (lv2 := [(0, .ref 313), (1, .int (0 : Int32)), (2, .int (0 : Int32))]) [2, 1, 0] rfl ?_
  exact t_Md_endsNow_4 hd0 FU (0 : Int32) (0 : Int32) _ h
theorem ct_Md_endsNow {g : GG} {d : Nat} {ν : Nm} {r : Int32} (hd0 : 2 ≤ d)  (h : Md_endsNow ν = some r) : Ct g d mX12_endsNow [.ref 313] (zem ν) (some (.int r), zem ν) := y_entry in_X12_endsNow (Nat.le_of_ble_eq_true rfl) rfl (t_Md_endsNow hd0 r h)
-- FuseMinutesModel.name(I)V
theorem dX12_name_0 : decode cX12_name 0 = .ok (.aload_n 0, 1) := by decide +kernel
theorem dX12_name_1 : decode cX12_name 1 = .ok (.getfield 32, 3) := by decide +kernel
theorem dX12_name_4 : decode cX12_name 4 = .ok (.iconst 0, 1) := by decide +kernel
theorem dX12_name_5 : decode cX12_name 5 = .ok (.aload_n 0, 1) := by decide +kernel
theorem dX12_name_6 : decode cX12_name 6 = .ok (.getfield 7, 3) := by decide +kernel
theorem dX12_name_9 : decode cX12_name 9 = .ok (.bipush 8, 2) := by decide +kernel
theorem dX12_name_11 : decode cX12_name 11 = .ok (.iaload, 1) := by decide +kernel
theorem dX12_name_12 : decode cX12_name 12 = .ok (.bipush 64, 2) := by decide +kernel
theorem dX12_name_14 : decode cX12_name 14 = .ok (.idiv, 1) := by decide +kernel
theorem dX12_name_15 : decode cX12_name 15 = .ok (.iastore, 1) := by decide +kernel
theorem dX12_name_16 : decode cX12_name 16 = .ok (.aload_n 0, 1) := by decide +kernel
theorem dX12_name_17 : decode cX12_name 17 = .ok (.getfield 32, 3) := by decide +kernel
theorem dX12_name_20 : decode cX12_name 20 = .ok (.iconst 1, 1) := by decide +kernel
theorem dX12_name_21 : decode cX12_name 21 = .ok (.iload_n 1, 1) := by decide +kernel
theorem dX12_name_22 : decode cX12_name 22 = .ok (.iastore, 1) := by decide +kernel
theorem dX12_name_23 : decode cX12_name 23 = .ok (.aload_n 0, 1) := by decide +kernel
theorem dX12_name_24 : decode cX12_name 24 = .ok (.getfield 32, 3) := by decide +kernel
theorem dX12_name_27 : decode cX12_name 27 = .ok (.iconst 2, 1) := by decide +kernel
theorem dX12_name_28 : decode cX12_name 28 = .ok (.aload_n 0, 1) := by decide +kernel
theorem dX12_name_29 : decode cX12_name 29 = .ok (.iload_n 1, 1) := by decide +kernel
theorem dX12_name_30 : decode cX12_name 30 = .ok (.iconst 0, 1) := by decide +kernel
theorem dX12_name_31 : decode cX12_name 31 = .ok (.invokevirtual 96, 3) := by decide +kernel
theorem dX12_name_34 : decode cX12_name 34 = .ok (.bipush 64, 2) := by decide +kernel
theorem dX12_name_36 : decode cX12_name 36 = .ok (.idiv, 1) := by decide +kernel
theorem dX12_name_37 : decode cX12_name 37 = .ok (.iastore, 1) := by decide +kernel
theorem dX12_name_38 : decode cX12_name 38 = .ok (.aload_n 0, 1) := by decide +kernel
theorem dX12_name_39 : decode cX12_name 39 = .ok (.getfield 32, 3) := by decide +kernel
theorem dX12_name_42 : decode cX12_name 42 = .ok (.iconst 3, 1) := by decide +kernel
theorem dX12_name_43 : decode cX12_name 43 = .ok (.aload_n 0, 1) := by decide +kernel
theorem dX12_name_44 : decode cX12_name 44 = .ok (.getfield 7, 3) := by decide +kernel
theorem dX12_name_47 : decode cX12_name 47 = .ok (.bipush 20, 2) := by decide +kernel
theorem dX12_name_49 : decode cX12_name 49 = .ok (.iconst 2, 1) := by decide +kernel
theorem dX12_name_50 : decode cX12_name 50 = .ok (.iload_n 1, 1) := by decide +kernel
theorem dX12_name_51 : decode cX12_name 51 = .ok (.imul, 1) := by decide +kernel
theorem dX12_name_52 : decode cX12_name 52 = .ok (.iadd, 1) := by decide +kernel
theorem dX12_name_53 : decode cX12_name 53 = .ok (.iaload, 1) := by decide +kernel
theorem dX12_name_54 : decode cX12_name 54 = .ok (.iastore, 1) := by decide +kernel
theorem dX12_name_55 : decode cX12_name 55 = .ok (.aload_n 0, 1) := by decide +kernel
theorem dX12_name_56 : decode cX12_name 56 = .ok (.getfield 32, 3) := by decide +kernel
theorem dX12_name_59 : decode cX12_name 59 = .ok (.iconst 4, 1) := by decide +kernel
theorem dX12_name_60 : decode cX12_name 60 = .ok (.aload_n 0, 1) := by decide +kernel
theorem dX12_name_61 : decode cX12_name 61 = .ok (.getfield 7, 3) := by decide +kernel
theorem dX12_name_64 : decode cX12_name 64 = .ok (.bipush 20, 2) := by decide +kernel
theorem dX12_name_66 : decode cX12_name 66 = .ok (.iconst 2, 1) := by decide +kernel
theorem dX12_name_67 : decode cX12_name 67 = .ok (.iload_n 1, 1) := by decide +kernel
theorem dX12_name_68 : decode cX12_name 68 = .ok (.imul, 1) := by decide +kernel
theorem dX12_name_69 : decode cX12_name 69 = .ok (.iadd, 1) := by decide +kernel
theorem dX12_name_70 : decode cX12_name 70 = .ok (.iconst 1, 1) := by decide +kernel
theorem dX12_name_71 : decode cX12_name 71 = .ok (.iadd, 1) := by decide +kernel
theorem dX12_name_72 : decode cX12_name 72 = .ok (.iaload, 1) := by decide +kernel
theorem dX12_name_73 : decode cX12_name 73 = .ok (.iastore, 1) := by decide +kernel
theorem dX12_name_74 : decode cX12_name 74 = .ok (.aload_n 0, 1) := by decide +kernel
theorem dX12_name_75 : decode cX12_name 75 = .ok (.getfield 32, 3) := by decide +kernel
theorem dX12_name_78 : decode cX12_name 78 = .ok (.iconst 5, 1) := by decide +kernel
theorem dX12_name_79 : decode cX12_name 79 = .ok (.aload_n 0, 1) := by decide +kernel
theorem dX12_name_80 : decode cX12_name 80 = .ok (.invokevirtual 316, 3) := by decide +kernel
theorem dX12_name_83 : decode cX12_name 83 = .ok (.iastore, 1) := by decide +kernel
theorem dX12_name_84 : decode cX12_name 84 = .ok (.return_, 1) := by decide +kernel
def Md_name_55 (x1 : Int32) (ν : Nm) : Option Nm :=
  if inb (((20 : Int32) + ((2 : Int32) * x1)) + (1 : Int32)) 1385 then
  (Md_endsNow (si ν 319 4 (gi ν 314 (((20 : Int32) + ((2 : Int32) * x1)) + (1 : Int32)).toNatClampNeg))).bind fun v2 =>
  some (si (si ν 319 4 (gi ν 314 (((20 : Int32) + ((2 : Int32) * x1)) + (1 : Int32)).toNatClampNeg)) 319 5 v2)
  else none
set_option maxRecDepth 100000 in
set_option maxHeartbeats 4000000 in
theorem t_Md_name_55 {g : GG} {d : Nat} (hd0 : 3 ≤ d) : ∀ (x1 : Int32) (ν : Nm) (r : Nm), Md_name_55 x1 ν = some r → Z g d (0, 0) mX12_name 333 0 0 55 [(0, .ref 313), (1, .int x1)] [] (zem ν) (zF g (none, zem r)) := by
  intro x1 ν r h
  unfold Md_name_55 at h
  refine z_aload_n dX12_name_55 0 rfl ?_
  refine y_getR (M := mX12_name) (r := 319) dX12_name_56 zk_313 flRX12_32 fr_10_20.1 (fr_10_20.2 _) ?_
  refine z_iconst (M := mX12_name) (v := 4) dX12_name_59 rfl ?_
  refine z_aload_n dX12_name_60 0 rfl ?_
  refine y_getR (M := mX12_name) (r := 314) dX12_name_61 zk_313 flRX12_7 fr_10_0.1 (fr_10_0.2 _) ?_
  refine z_bipush (M := mX12_name) (v := 20) dX12_name_64 rfl ?_
  refine z_iconst (M := mX12_name) (v := 2) dX12_name_66 rfl ?_
  refine z_iload_n dX12_name_67 1 rfl ?_
  refine z_imul dX12_name_68 ?_
  refine z_iadd dX12_name_69 ?_
  refine z_iconst (M := mX12_name) (v := 1) dX12_name_70 rfl ?_
  refine z_iadd dX12_name_71 ?_
  obtain ⟨hi1, h⟩ := oif h
  refine y_iald (M := mX12_name) (jj := (((20 : Int32) + ((2 : Int32) * x1)) + (1 : Int32)).toNatClampNeg) dX12_name_72 zk_314 hi1 rfl ?_
  refine y_iast (M := mX12_name) (jj := 4) dX12_name_73 zk_319 rfl rfl ?_
  refine z_aload_n dX12_name_74 0 rfl ?_
  refine y_getR (M := mX12_name) (r := 319) dX12_name_75 zk_313 flRX12_32 fr_10_20.1 (fr_10_20.2 _) ?_
  refine z_iconst (M := mX12_name) (v := 5) dX12_name_78 rfl ?_
  refine z_aload_n dX12_name_79 0 rfl ?_
  obtain ⟨v2, he2, h⟩ := obind h
  refine y_Vi (M := mX12_name) (Y := mX12_endsNow) (d2 := d - 1) (As := []) (st := [.int (5 : Int32), .ref 319]) dX12_name_80 mlRX12_316 cv_X12_endsNow zk_313 (ct_Md_endsNow (dle (Nat.le_of_ble_eq_true rfl) hd0) he2) (dps (Nat.le_of_ble_eq_true rfl) hd0) rfl rfl (Nat.le_of_ble_eq_true rfl) ?_
  refine y_iast (M := mX12_name) (jj := 5) dX12_name_83 zk_319 rfl rfl ?_
  cases h
  exact z_vret dX12_name_84 rfl
def Md_name (x1 : Int32) (ν : Nm) : Option Nm :=
  (Md_get (si (si ν 319 0 ((gi ν 314 8) / (64 : Int32))) 319 1 x1) x1 (0 : Int32)).bind fun v1 =>
  if inb ((20 : Int32) + ((2 : Int32) * x1)) 1385 then
  Md_name_55 x1 (si (si (si (si ν 319 0 ((gi ν 314 8) / (64 : Int32))) 319 1 x1) 319 2 (v1 / (64 : Int32))) 319 3 (gi (si (si (si ν 319 0 ((gi ν 314 8) / (64 : Int32))) 319 1 x1) 319 2 (v1 / (64 : Int32))) 314 ((20 : Int32) + ((2 : Int32) * x1)).toNatClampNeg))
  else none
set_option maxRecDepth 100000 in
set_option maxHeartbeats 4000000 in
theorem t_Md_name {g : GG} {d : Nat} (hd0 : 3 ≤ d) : ∀ (x1 : Int32) (ν : Nm) (r : Nm), Md_name x1 ν = some r → Z g d (0, 0) mX12_name 333 0 0 0 [(0, .ref 313), (1, .int x1)] [] (zem ν) (zF g (none, zem r)) := by
  intro x1 ν r h
  unfold Md_name at h
  refine z_aload_n dX12_name_0 0 rfl ?_
  refine y_getR (M := mX12_name) (r := 319) dX12_name_1 zk_313 flRX12_32 fr_10_20.1 (fr_10_20.2 _) ?_
  refine z_iconst (M := mX12_name) (v := 0) dX12_name_4 rfl ?_
  refine z_aload_n dX12_name_5 0 rfl ?_
  refine y_getR (M := mX12_name) (r := 314) dX12_name_6 zk_313 flRX12_7 fr_10_0.1 (fr_10_0.2 _) ?_
  refine z_bipush (M := mX12_name) (v := 8) dX12_name_9 rfl ?_
  refine y_iald (M := mX12_name) (jj := 8) dX12_name_11 zk_314 rfl rfl ?_
  refine z_bipush (M := mX12_name) (v := 64) dX12_name_12 rfl ?_
  refine z_idiv dX12_name_14 (by decide) ?_
  refine y_iast (M := mX12_name) (jj := 0) dX12_name_15 zk_319 rfl rfl ?_
  refine z_aload_n dX12_name_16 0 rfl ?_
  refine y_getR (M := mX12_name) (r := 319) dX12_name_17 zk_313 flRX12_32 fr_10_20.1 (fr_10_20.2 _) ?_
  refine z_iconst (M := mX12_name) (v := 1) dX12_name_20 rfl ?_
  refine z_iload_n dX12_name_21 1 rfl ?_
  refine y_iast (M := mX12_name) (jj := 1) dX12_name_22 zk_319 rfl rfl ?_
  refine z_aload_n dX12_name_23 0 rfl ?_
  refine y_getR (M := mX12_name) (r := 319) dX12_name_24 zk_313 flRX12_32 fr_10_20.1 (fr_10_20.2 _) ?_
  refine z_iconst (M := mX12_name) (v := 2) dX12_name_27 rfl ?_
  refine z_aload_n dX12_name_28 0 rfl ?_
  refine z_iload_n dX12_name_29 1 rfl ?_
  refine z_iconst (M := mX12_name) (v := 0) dX12_name_30 rfl ?_
  obtain ⟨v1, he1, h⟩ := obind h
  refine y_Vi (M := mX12_name) (Y := mX12_get) (d2 := d - 1) (As := [.int x1, .int (0 : Int32)]) (st := [.int (2 : Int32), .ref 319]) dX12_name_31 mlRX12_96 cv_X12_get zk_313 (ct_Md_get (dle (Nat.le_of_ble_eq_true rfl) hd0) he1) (dps (Nat.le_of_ble_eq_true rfl) hd0) rfl rfl (Nat.le_of_ble_eq_true rfl) ?_
  refine z_bipush (M := mX12_name) (v := 64) dX12_name_34 rfl ?_
  refine z_idiv dX12_name_36 (by decide) ?_
  refine y_iast (M := mX12_name) (jj := 2) dX12_name_37 zk_319 rfl rfl ?_
  refine z_aload_n dX12_name_38 0 rfl ?_
  refine y_getR (M := mX12_name) (r := 319) dX12_name_39 zk_313 flRX12_32 fr_10_20.1 (fr_10_20.2 _) ?_
  refine z_iconst (M := mX12_name) (v := 3) dX12_name_42 rfl ?_
  refine z_aload_n dX12_name_43 0 rfl ?_
  refine y_getR (M := mX12_name) (r := 314) dX12_name_44 zk_313 flRX12_7 fr_10_0.1 (fr_10_0.2 _) ?_
  refine z_bipush (M := mX12_name) (v := 20) dX12_name_47 rfl ?_
  refine z_iconst (M := mX12_name) (v := 2) dX12_name_49 rfl ?_
  refine z_iload_n dX12_name_50 1 rfl ?_
  refine z_imul dX12_name_51 ?_
  refine z_iadd dX12_name_52 ?_
  obtain ⟨hi2, h⟩ := oif h
  refine y_iald (M := mX12_name) (jj := ((20 : Int32) + ((2 : Int32) * x1)).toNatClampNeg) dX12_name_53 zk_314 hi2 rfl ?_
  refine y_iast (M := mX12_name) (jj := 3) dX12_name_54 zk_319 rfl rfl ?_
  exact t_Md_name_55 hd0  x1 (si (si (si (si ν 319 0 ((gi ν 314 8) / (64 : Int32))) 319 1 x1) 319 2 (v1 / (64 : Int32))) 319 3 (gi (si (si (si ν 319 0 ((gi ν 314 8) / (64 : Int32))) 319 1 x1) 319 2 (v1 / (64 : Int32))) 314 ((20 : Int32) + ((2 : Int32) * x1)).toNatClampNeg)) _ h
theorem ct_Md_name {g : GG} {d : Nat} {x1 : Int32} {ν : Nm} {r : Nm} (hd0 : 3 ≤ d)  (h : Md_name x1 ν = some r) : Ct g d mX12_name [.ref 313, .int x1] (zem ν) (none, zem r) := y_entry in_X12_name (Nat.le_of_ble_eq_true rfl) rfl (t_Md_name hd0 x1 ν r h)
-- FuseMinutesModel.isAsked(IJJ)Z
theorem dX12_isAsked_0 : decode cX12_isAsked 0 = .ok (.iload_n 0, 1) := by decide +kernel
theorem dX12_isAsked_1 : decode cX12_isAsked 1 = .ok (.bipush 10, 2) := by decide +kernel
theorem dX12_isAsked_3 : decode cX12_isAsked 3 = .ok (.if_icmp .ne 17, 3) := by decide +kernel
theorem dX12_isAsked_6 : decode cX12_isAsked 6 = .ok (.lload_n 1, 1) := by decide +kernel
theorem dX12_isAsked_7 : decode cX12_isAsked 7 = .ok (.lload_n 3, 1) := by decide +kernel
theorem dX12_isAsked_8 : decode cX12_isAsked 8 = .ok (.lcmp, 1) := by decide +kernel
theorem dX12_isAsked_9 : decode cX12_isAsked 9 = .ok (.ifCond .ge 7, 3) := by decide +kernel
theorem dX12_isAsked_12 : decode cX12_isAsked 12 = .ok (.iconst 1, 1) := by decide +kernel
theorem dX12_isAsked_13 : decode cX12_isAsked 13 = .ok (.goto 98, 3) := by decide +kernel
theorem dX12_isAsked_16 : decode cX12_isAsked 16 = .ok (.iconst 0, 1) := by decide +kernel
theorem dX12_isAsked_17 : decode cX12_isAsked 17 = .ok (.goto 94, 3) := by decide +kernel
theorem dX12_isAsked_20 : decode cX12_isAsked 20 = .ok (.iload_n 0, 1) := by decide +kernel
theorem dX12_isAsked_21 : decode cX12_isAsked 21 = .ok (.bipush 11, 2) := by decide +kernel
theorem dX12_isAsked_23 : decode cX12_isAsked 23 = .ok (.if_icmp .ne 17, 3) := by decide +kernel
theorem dX12_isAsked_26 : decode cX12_isAsked 26 = .ok (.lload_n 1, 1) := by decide +kernel
theorem dX12_isAsked_27 : decode cX12_isAsked 27 = .ok (.lload_n 3, 1) := by decide +kernel
theorem dX12_isAsked_28 : decode cX12_isAsked 28 = .ok (.lcmp, 1) := by decide +kernel
theorem dX12_isAsked_29 : decode cX12_isAsked 29 = .ok (.ifCond .gt 7, 3) := by decide +kernel
theorem dX12_isAsked_32 : decode cX12_isAsked 32 = .ok (.iconst 1, 1) := by decide +kernel
theorem dX12_isAsked_33 : decode cX12_isAsked 33 = .ok (.goto 78, 3) := by decide +kernel
theorem dX12_isAsked_36 : decode cX12_isAsked 36 = .ok (.iconst 0, 1) := by decide +kernel
theorem dX12_isAsked_37 : decode cX12_isAsked 37 = .ok (.goto 74, 3) := by decide +kernel
theorem dX12_isAsked_40 : decode cX12_isAsked 40 = .ok (.iload_n 0, 1) := by decide +kernel
theorem dX12_isAsked_41 : decode cX12_isAsked 41 = .ok (.bipush 12, 2) := by decide +kernel
theorem dX12_isAsked_43 : decode cX12_isAsked 43 = .ok (.if_icmp .ne 17, 3) := by decide +kernel
theorem dX12_isAsked_46 : decode cX12_isAsked 46 = .ok (.lload_n 1, 1) := by decide +kernel
theorem dX12_isAsked_47 : decode cX12_isAsked 47 = .ok (.lload_n 3, 1) := by decide +kernel
theorem dX12_isAsked_48 : decode cX12_isAsked 48 = .ok (.lcmp, 1) := by decide +kernel
theorem dX12_isAsked_49 : decode cX12_isAsked 49 = .ok (.ifCond .le 7, 3) := by decide +kernel
theorem dX12_isAsked_52 : decode cX12_isAsked 52 = .ok (.iconst 1, 1) := by decide +kernel
theorem dX12_isAsked_53 : decode cX12_isAsked 53 = .ok (.goto 58, 3) := by decide +kernel
theorem dX12_isAsked_56 : decode cX12_isAsked 56 = .ok (.iconst 0, 1) := by decide +kernel
theorem dX12_isAsked_57 : decode cX12_isAsked 57 = .ok (.goto 54, 3) := by decide +kernel
theorem dX12_isAsked_60 : decode cX12_isAsked 60 = .ok (.iload_n 0, 1) := by decide +kernel
theorem dX12_isAsked_61 : decode cX12_isAsked 61 = .ok (.bipush 13, 2) := by decide +kernel
theorem dX12_isAsked_63 : decode cX12_isAsked 63 = .ok (.if_icmp .ne 17, 3) := by decide +kernel
theorem dX12_isAsked_66 : decode cX12_isAsked 66 = .ok (.lload_n 1, 1) := by decide +kernel
theorem dX12_isAsked_67 : decode cX12_isAsked 67 = .ok (.lload_n 3, 1) := by decide +kernel
theorem dX12_isAsked_68 : decode cX12_isAsked 68 = .ok (.lcmp, 1) := by decide +kernel
theorem dX12_isAsked_69 : decode cX12_isAsked 69 = .ok (.ifCond .lt 7, 3) := by decide +kernel
theorem dX12_isAsked_72 : decode cX12_isAsked 72 = .ok (.iconst 1, 1) := by decide +kernel
theorem dX12_isAsked_73 : decode cX12_isAsked 73 = .ok (.goto 38, 3) := by decide +kernel
theorem dX12_isAsked_76 : decode cX12_isAsked 76 = .ok (.iconst 0, 1) := by decide +kernel
theorem dX12_isAsked_77 : decode cX12_isAsked 77 = .ok (.goto 34, 3) := by decide +kernel
theorem dX12_isAsked_80 : decode cX12_isAsked 80 = .ok (.iload_n 0, 1) := by decide +kernel
theorem dX12_isAsked_81 : decode cX12_isAsked 81 = .ok (.bipush 14, 2) := by decide +kernel
theorem dX12_isAsked_83 : decode cX12_isAsked 83 = .ok (.if_icmp .ne 17, 3) := by decide +kernel
theorem dX12_isAsked_86 : decode cX12_isAsked 86 = .ok (.lload_n 1, 1) := by decide +kernel
theorem dX12_isAsked_87 : decode cX12_isAsked 87 = .ok (.lload_n 3, 1) := by decide +kernel
theorem dX12_isAsked_88 : decode cX12_isAsked 88 = .ok (.lcmp, 1) := by decide +kernel
theorem dX12_isAsked_89 : decode cX12_isAsked 89 = .ok (.ifCond .ne 7, 3) := by decide +kernel
theorem dX12_isAsked_92 : decode cX12_isAsked 92 = .ok (.iconst 1, 1) := by decide +kernel
theorem dX12_isAsked_93 : decode cX12_isAsked 93 = .ok (.goto 18, 3) := by decide +kernel
theorem dX12_isAsked_96 : decode cX12_isAsked 96 = .ok (.iconst 0, 1) := by decide +kernel
theorem dX12_isAsked_97 : decode cX12_isAsked 97 = .ok (.goto 14, 3) := by decide +kernel
theorem dX12_isAsked_100 : decode cX12_isAsked 100 = .ok (.lload_n 1, 1) := by decide +kernel
theorem dX12_isAsked_101 : decode cX12_isAsked 101 = .ok (.lload_n 3, 1) := by decide +kernel
theorem dX12_isAsked_102 : decode cX12_isAsked 102 = .ok (.lcmp, 1) := by decide +kernel
theorem dX12_isAsked_103 : decode cX12_isAsked 103 = .ok (.ifCond .eq 7, 3) := by decide +kernel
theorem dX12_isAsked_106 : decode cX12_isAsked 106 = .ok (.iconst 1, 1) := by decide +kernel
theorem dX12_isAsked_107 : decode cX12_isAsked 107 = .ok (.goto 4, 3) := by decide +kernel
theorem dX12_isAsked_110 : decode cX12_isAsked 110 = .ok (.iconst 0, 1) := by decide +kernel
theorem dX12_isAsked_111 : decode cX12_isAsked 111 = .ok (.ireturn, 1) := by decide +kernel
def Md_isAsked (x0 : Int32) (x1 : Int64) (x3 : Int64) : Option Bool :=
  (if ¬ x0 = (10 : Int32) then
    (if ¬ x0 = (11 : Int32) then
      (if ¬ x0 = (12 : Int32) then
        (if ¬ x0 = (13 : Int32) then
          (if ¬ x0 = (14 : Int32) then
            (if (lg_cmp x1 x3) = 0 then
              some false
            else
              some true)
          else
            (if ¬ (lg_cmp x1 x3) = 0 then
              some false
            else
              some true))
        else
          (if (lg_cmp x1 x3) < 0 then
            some false
          else
            some true))
      else
        (if (lg_cmp x1 x3) ≤ 0 then
          some false
        else
          some true))
    else
      (if 0 < (lg_cmp x1 x3) then
        some false
      else
        some true))
  else
    (if 0 ≤ (lg_cmp x1 x3) then
      some false
    else
      some true))
set_option maxRecDepth 100000 in
set_option maxHeartbeats 4000000 in
theorem t_Md_isAsked {g : GG} {d : Nat} {μ : Mm} (hd0 : 1 ≤ d) : ∀ (x0 : Int32) (x1 : Int64) (x3 : Int64) (r : Bool), Md_isAsked x0 x1 x3 = some r → Z g d (0, 0) mX12_isAsked 333 0 0 0 [(0, .int x0), (1, .long x1), (3, .long x3)] [] μ (zF g (some (.int (b2i r)), μ)) := by
  intro x0 x1 x3 r h
  unfold Md_isAsked at h
  refine z_iload_n dX12_isAsked_0 0 rfl ?_
  refine z_bipush (M := mX12_isAsked) (v := 10) dX12_isAsked_1 rfl ?_
  refine z_icmp_ne 20 dX12_isAsked_3 rfl (fun hc1 => ?_) (fun hc1 => ?_)
  · replace h := oT hc1 h
    refine z_iload_n dX12_isAsked_20 0 rfl ?_
    refine z_bipush (M := mX12_isAsked) (v := 11) dX12_isAsked_21 rfl ?_
    refine z_icmp_ne 40 dX12_isAsked_23 rfl (fun hc2 => ?_) (fun hc2 => ?_)
    · replace h := oT hc2 h
      refine z_iload_n dX12_isAsked_40 0 rfl ?_
      refine z_bipush (M := mX12_isAsked) (v := 12) dX12_isAsked_41 rfl ?_
      refine z_icmp_ne 60 dX12_isAsked_43 rfl (fun hc3 => ?_) (fun hc3 => ?_)
      · replace h := oT hc3 h
        refine z_iload_n dX12_isAsked_60 0 rfl ?_
        refine z_bipush (M := mX12_isAsked) (v := 13) dX12_isAsked_61 rfl ?_
        refine z_icmp_ne 80 dX12_isAsked_63 rfl (fun hc4 => ?_) (fun hc4 => ?_)
        · replace h := oT hc4 h
          refine z_iload_n dX12_isAsked_80 0 rfl ?_
          refine z_bipush (M := mX12_isAsked) (v := 14) dX12_isAsked_81 rfl ?_
          refine z_icmp_ne 100 dX12_isAsked_83 rfl (fun hc5 => ?_) (fun hc5 => ?_)
          · replace h := oT hc5 h
            refine z_lload_n dX12_isAsked_100 1 rfl ?_
            refine z_lload_n dX12_isAsked_101 2 rfl ?_
            refine z_lcmp dX12_isAsked_102 ?_
            refine z_if_eq 110 dX12_isAsked_103 rfl (fun hc6 => ?_) (fun hc6 => ?_)
            · replace h := oT hc6 h
              refine z_iconst (M := mX12_isAsked) (v := 0) dX12_isAsked_110 rfl ?_
              cases h
              exact z_zret dX12_isAsked_111 rfl rfl
            · replace h := oF hc6 h
              refine z_iconst (M := mX12_isAsked) (v := 1) dX12_isAsked_106 rfl ?_
              refine z_goto 111 dX12_isAsked_107 rfl ?_
              cases h
              exact z_zret dX12_isAsked_111 rfl rfl
          · replace h := oFn hc5 h
            refine z_lload_n dX12_isAsked_86 1 rfl ?_
            refine z_lload_n dX12_isAsked_87 2 rfl ?_
            refine z_lcmp dX12_isAsked_88 ?_
            refine z_if_ne 96 dX12_isAsked_89 rfl (fun hc7 => ?_) (fun hc7 => ?_)
            · replace h := oT hc7 h
              refine z_iconst (M := mX12_isAsked) (v := 0) dX12_isAsked_96 rfl ?_
              refine z_goto 111 dX12_isAsked_97 rfl ?_
              cases h
              exact z_zret dX12_isAsked_111 rfl rfl
            · replace h := oFn hc7 h
              refine z_iconst (M := mX12_isAsked) (v := 1) dX12_isAsked_92 rfl ?_
              refine z_goto 111 dX12_isAsked_93 rfl ?_
              cases h
              exact z_zret dX12_isAsked_111 rfl rfl
        · replace h := oFn hc4 h
          refine z_lload_n dX12_isAsked_66 1 rfl ?_
          refine z_lload_n dX12_isAsked_67 2 rfl ?_
          refine z_lcmp dX12_isAsked_68 ?_
          refine z_if_lt 76 dX12_isAsked_69 rfl (fun hc8 => ?_) (fun hc8 => ?_)
          · replace h := oT hc8 h
            refine z_iconst (M := mX12_isAsked) (v := 0) dX12_isAsked_76 rfl ?_
            refine z_goto 111 dX12_isAsked_77 rfl ?_
            cases h
            exact z_zret dX12_isAsked_111 rfl rfl
          · replace h := oF hc8 h
            refine z_iconst (M := mX12_isAsked) (v := 1) dX12_isAsked_72 rfl ?_
            refine z_goto 111 dX12_isAsked_73 rfl ?_
            cases h
            exact z_zret dX12_isAsked_111 rfl rfl
      · replace h := oFn hc3 h
        refine z_lload_n dX12_isAsked_46 1 rfl ?_
        refine z_lload_n dX12_isAsked_47 2 rfl ?_
        refine z_lcmp dX12_isAsked_48 ?_
        refine z_if_le 56 dX12_isAsked_49 rfl (fun hc9 => ?_) (fun hc9 => ?_)
        · replace h := oT hc9 h
          refine z_iconst (M := mX12_isAsked) (v := 0) dX12_isAsked_56 rfl ?_
          refine z_goto 111 dX12_isAsked_57 rfl ?_
          cases h
          exact z_zret dX12_isAsked_111 rfl rfl
        · replace h := oF hc9 h
          refine z_iconst (M := mX12_isAsked) (v := 1) dX12_isAsked_52 rfl ?_
          refine z_goto 111 dX12_isAsked_53 rfl ?_
          cases h
          exact z_zret dX12_isAsked_111 rfl rfl
    · replace h := oFn hc2 h
      refine z_lload_n dX12_isAsked_26 1 rfl ?_
      refine z_lload_n dX12_isAsked_27 2 rfl ?_
      refine z_lcmp dX12_isAsked_28 ?_
      refine z_if_gt 36 dX12_isAsked_29 rfl (fun hc10 => ?_) (fun hc10 => ?_)
      · replace h := oT hc10 h
        refine z_iconst (M := mX12_isAsked) (v := 0) dX12_isAsked_36 rfl ?_
        refine z_goto 111 dX12_isAsked_37 rfl ?_
        cases h
        exact z_zret dX12_isAsked_111 rfl rfl
      · replace h := oF hc10 h
        refine z_iconst (M := mX12_isAsked) (v := 1) dX12_isAsked_32 rfl ?_
        refine z_goto 111 dX12_isAsked_33 rfl ?_
        cases h
        exact z_zret dX12_isAsked_111 rfl rfl
  · replace h := oFn hc1 h
    refine z_lload_n dX12_isAsked_6 1 rfl ?_
    refine z_lload_n dX12_isAsked_7 2 rfl ?_
    refine z_lcmp dX12_isAsked_8 ?_
    refine z_if_ge 16 dX12_isAsked_9 rfl (fun hc11 => ?_) (fun hc11 => ?_)
    · replace h := oT hc11 h
      refine z_iconst (M := mX12_isAsked) (v := 0) dX12_isAsked_16 rfl ?_
      refine z_goto 111 dX12_isAsked_17 rfl ?_
      cases h
      exact z_zret dX12_isAsked_111 rfl rfl
    · replace h := oF hc11 h
      refine z_iconst (M := mX12_isAsked) (v := 1) dX12_isAsked_12 rfl ?_
      refine z_goto 111 dX12_isAsked_13 rfl ?_
      cases h
      exact z_zret dX12_isAsked_111 rfl rfl
theorem ct_Md_isAsked {g : GG} {d : Nat} {x0 : Int32} {x1 : Int64} {x3 : Int64} {μ : Mm} {r : Bool} (hd0 : 1 ≤ d)  (h : Md_isAsked x0 x1 x3 = some r) : Ct g d mX12_isAsked [.int x0, .long x1, .long x3] μ (some (.int (b2i r)), μ) := y_entry in_X12_isAsked (Nat.le_of_ble_eq_true rfl) rfl (t_Md_isAsked hd0 x0 x1 x3 r h)
-- FuseMinutesModel.joined(IZZ)Z
theorem dX12_joined_0 : decode cX12_joined 0 = .ok (.iload_n 0, 1) := by decide +kernel
theorem dX12_joined_1 : decode cX12_joined 1 = .ok (.bipush 21, 2) := by decide +kernel
theorem dX12_joined_3 : decode cX12_joined 3 = .ok (.if_icmp .ne 19, 3) := by decide +kernel
theorem dX12_joined_6 : decode cX12_joined 6 = .ok (.iload_n 1, 1) := by decide +kernel
theorem dX12_joined_7 : decode cX12_joined 7 = .ok (.ifCond .eq 11, 3) := by decide +kernel
theorem dX12_joined_10 : decode cX12_joined 10 = .ok (.iload_n 2, 1) := by decide +kernel
theorem dX12_joined_11 : decode cX12_joined 11 = .ok (.ifCond .eq 7, 3) := by decide +kernel
theorem dX12_joined_14 : decode cX12_joined 14 = .ok (.iconst 1, 1) := by decide +kernel
theorem dX12_joined_15 : decode cX12_joined 15 = .ok (.goto 20, 3) := by decide +kernel
theorem dX12_joined_18 : decode cX12_joined 18 = .ok (.iconst 0, 1) := by decide +kernel
theorem dX12_joined_19 : decode cX12_joined 19 = .ok (.goto 16, 3) := by decide +kernel
theorem dX12_joined_22 : decode cX12_joined 22 = .ok (.iload_n 1, 1) := by decide +kernel
theorem dX12_joined_23 : decode cX12_joined 23 = .ok (.ifCond .ne 7, 3) := by decide +kernel
theorem dX12_joined_26 : decode cX12_joined 26 = .ok (.iload_n 2, 1) := by decide +kernel
theorem dX12_joined_27 : decode cX12_joined 27 = .ok (.ifCond .eq 7, 3) := by decide +kernel
theorem dX12_joined_30 : decode cX12_joined 30 = .ok (.iconst 1, 1) := by decide +kernel
theorem dX12_joined_31 : decode cX12_joined 31 = .ok (.goto 4, 3) := by decide +kernel
theorem dX12_joined_34 : decode cX12_joined 34 = .ok (.iconst 0, 1) := by decide +kernel
theorem dX12_joined_35 : decode cX12_joined 35 = .ok (.ireturn, 1) := by decide +kernel
def Md_joined (x0 : Int32) (x1 : Int32) (x2 : Int32) : Option Bool :=
  (if ¬ x0 = (21 : Int32) then
    (if ¬ x1 = 0 then
      some true
    else
      (if x2 = 0 then
        some false
      else
        some true))
  else
    (if x1 = 0 then
      some false
    else
      (if x2 = 0 then
        some false
      else
        some true)))
set_option maxRecDepth 100000 in
set_option maxHeartbeats 4000000 in
theorem t_Md_joined {g : GG} {d : Nat} {μ : Mm} (hd0 : 1 ≤ d) : ∀ (x0 : Int32) (x1 : Int32) (x2 : Int32) (r : Bool), Md_joined x0 x1 x2 = some r → Z g d (0, 0) mX12_joined 333 0 0 0 [(0, .int x0), (1, .int x1), (2, .int x2)] [] μ (zF g (some (.int (b2i r)), μ)) := by
  intro x0 x1 x2 r h
  unfold Md_joined at h
  refine z_iload_n dX12_joined_0 0 rfl ?_
  refine z_bipush (M := mX12_joined) (v := 21) dX12_joined_1 rfl ?_
  refine z_icmp_ne 22 dX12_joined_3 rfl (fun hc1 => ?_) (fun hc1 => ?_)
  · replace h := oT hc1 h
    refine z_iload_n dX12_joined_22 1 rfl ?_
    refine z_if_ne 30 dX12_joined_23 rfl (fun hc2 => ?_) (fun hc2 => ?_)
    · replace h := oT hc2 h
      refine z_iconst (M := mX12_joined) (v := 1) dX12_joined_30 rfl ?_
      refine z_goto 35 dX12_joined_31 rfl ?_
      cases h
      exact z_zret dX12_joined_35 rfl rfl
    · replace h := oFn hc2 h
      refine z_iload_n dX12_joined_26 2 rfl ?_
      refine z_if_eq 34 dX12_joined_27 rfl (fun hc3 => ?_) (fun hc3 => ?_)
      · replace h := oT hc3 h
        refine z_iconst (M := mX12_joined) (v := 0) dX12_joined_34 rfl ?_
        cases h
        exact z_zret dX12_joined_35 rfl rfl
      · replace h := oF hc3 h
        refine z_iconst (M := mX12_joined) (v := 1) dX12_joined_30 rfl ?_
        refine z_goto 35 dX12_joined_31 rfl ?_
        cases h
        exact z_zret dX12_joined_35 rfl rfl
  · replace h := oFn hc1 h
    refine z_iload_n dX12_joined_6 1 rfl ?_
    refine z_if_eq 18 dX12_joined_7 rfl (fun hc4 => ?_) (fun hc4 => ?_)
    · replace h := oT hc4 h
      refine z_iconst (M := mX12_joined) (v := 0) dX12_joined_18 rfl ?_
      refine z_goto 35 dX12_joined_19 rfl ?_
      cases h
      exact z_zret dX12_joined_35 rfl rfl
    · replace h := oF hc4 h
      refine z_iload_n dX12_joined_10 2 rfl ?_
      refine z_if_eq 18 dX12_joined_11 rfl (fun hc5 => ?_) (fun hc5 => ?_)
      · replace h := oT hc5 h
        refine z_iconst (M := mX12_joined) (v := 0) dX12_joined_18 rfl ?_
        refine z_goto 35 dX12_joined_19 rfl ?_
        cases h
        exact z_zret dX12_joined_35 rfl rfl
      · replace h := oF hc5 h
        refine z_iconst (M := mX12_joined) (v := 1) dX12_joined_14 rfl ?_
        refine z_goto 35 dX12_joined_15 rfl ?_
        cases h
        exact z_zret dX12_joined_35 rfl rfl
theorem ct_Md_joined {g : GG} {d : Nat} {x0 : Int32} {x1 : Int32} {x2 : Int32} {μ : Mm} {r : Bool} (hd0 : 1 ≤ d)  (h : Md_joined x0 x1 x2 = some r) : Ct g d mX12_joined [.int x0, .int x1, .int x2] μ (some (.int (b2i r)), μ) := y_entry in_X12_joined (Nat.le_of_ble_eq_true rfl) rfl (t_Md_joined hd0 x0 x1 x2 r h)
-- FuseMinutesModel.outOf(J)J
theorem dX12_outOf_0 : decode cX12_outOf 0 = .ok (.lload_n 1, 1) := by decide +kernel
theorem dX12_outOf_1 : decode cX12_outOf 1 = .ok (.lconst 0, 1) := by decide +kernel
theorem dX12_outOf_2 : decode cX12_outOf 2 = .ok (.lcmp, 1) := by decide +kernel
theorem dX12_outOf_3 : decode cX12_outOf 3 = .ok (.ifCond .lt 28, 3) := by decide +kernel
theorem dX12_outOf_6 : decode cX12_outOf 6 = .ok (.lload_n 1, 1) := by decide +kernel
theorem dX12_outOf_7 : decode cX12_outOf 7 = .ok (.aload_n 0, 1) := by decide +kernel
theorem dX12_outOf_8 : decode cX12_outOf 8 = .ok (.getfield 7, 3) := by decide +kernel
theorem dX12_outOf_11 : decode cX12_outOf 11 = .ok (.iconst 0, 1) := by decide +kernel
theorem dX12_outOf_12 : decode cX12_outOf 12 = .ok (.iaload, 1) := by decide +kernel
theorem dX12_outOf_13 : decode cX12_outOf 13 = .ok (.i2l, 1) := by decide +kernel
theorem dX12_outOf_14 : decode cX12_outOf 14 = .ok (.lcmp, 1) := by decide +kernel
theorem dX12_outOf_15 : decode cX12_outOf 15 = .ok (.ifCond .ge 16, 3) := by decide +kernel
theorem dX12_outOf_18 : decode cX12_outOf 18 = .ok (.aload_n 0, 1) := by decide +kernel
theorem dX12_outOf_19 : decode cX12_outOf 19 = .ok (.lload_n 1, 1) := by decide +kernel
theorem dX12_outOf_20 : decode cX12_outOf 20 = .ok (.l2i, 1) := by decide +kernel
theorem dX12_outOf_21 : decode cX12_outOf 21 = .ok (.invokevirtual 282, 3) := by decide +kernel
theorem dX12_outOf_24 : decode cX12_outOf 24 = .ok (.ifCond .eq 7, 3) := by decide +kernel
theorem dX12_outOf_27 : decode cX12_outOf 27 = .ok (.lconst 1, 1) := by decide +kernel
theorem dX12_outOf_28 : decode cX12_outOf 28 = .ok (.goto 4, 3) := by decide +kernel
theorem dX12_outOf_31 : decode cX12_outOf 31 = .ok (.lconst 0, 1) := by decide +kernel
theorem dX12_outOf_32 : decode cX12_outOf 32 = .ok (.lreturn, 1) := by decide +kernel
def Md_outOf (ν : Nm) (x1 : Int64) : Option Int64 :=
  (if (lg_cmp x1 (0 : Int64)) < 0 then
    some (0 : Int64)
  else
    (if 0 ≤ (lg_cmp x1 (gi ν 314 0).toInt64) then
      some (0 : Int64)
    else
      (Md_isOut ν x1.toInt32).bind fun v3 =>
      (if (b2i v3) = 0 then
        some (0 : Int64)
      else
        some (1 : Int64))))
set_option maxRecDepth 100000 in
set_option maxHeartbeats 4000000 in
theorem t_Md_outOf {g : GG} {d : Nat} {ν : Nm} (hd0 : 3 ≤ d) : ∀ (x1 : Int64) (r : Int64), Md_outOf ν x1 = some r → Z g d (0, 0) mX12_outOf 333 0 0 0 [(0, .ref 313), (1, .long x1)] [] (zem ν) (zF g (some (.long r), zem ν)) := by
  intro x1 r h
  unfold Md_outOf at h
  refine z_lload_n dX12_outOf_0 1 rfl ?_
  refine z_lconst (M := mX12_outOf) (v := 0) dX12_outOf_1 rfl ?_
  refine z_lcmp dX12_outOf_2 ?_
  refine z_if_lt 31 dX12_outOf_3 rfl (fun hc1 => ?_) (fun hc1 => ?_)
  · replace h := oT hc1 h
    refine z_lconst (M := mX12_outOf) (v := 0) dX12_outOf_31 rfl ?_
    cases h
    exact z_lret dX12_outOf_32 rfl
  · replace h := oF hc1 h
    refine z_lload_n dX12_outOf_6 1 rfl ?_
    refine z_aload_n dX12_outOf_7 0 rfl ?_
    refine y_getR (M := mX12_outOf) (r := 314) dX12_outOf_8 zk_313 flRX12_7 fr_10_0.1 (fr_10_0.2 _) ?_
    refine z_iconst (M := mX12_outOf) (v := 0) dX12_outOf_11 rfl ?_
    refine y_iald (M := mX12_outOf) (jj := 0) dX12_outOf_12 zk_314 rfl rfl ?_
    refine z_i2l dX12_outOf_13 ?_
    refine z_lcmp dX12_outOf_14 ?_
    refine z_if_ge 31 dX12_outOf_15 rfl (fun hc2 => ?_) (fun hc2 => ?_)
    · replace h := oT hc2 h
      refine z_lconst (M := mX12_outOf) (v := 0) dX12_outOf_31 rfl ?_
      cases h
      exact z_lret dX12_outOf_32 rfl
    · replace h := oF hc2 h
      refine z_aload_n dX12_outOf_18 0 rfl ?_
      refine z_lload_n dX12_outOf_19 1 rfl ?_
      refine z_l2i dX12_outOf_20 ?_
      obtain ⟨v3, he3, h⟩ := obind h
      refine y_Vi (M := mX12_outOf) (Y := mX12_isOut) (d2 := d - 1) (As := [.int x1.toInt32]) (st := []) dX12_outOf_21 mlRX12_282 cv_X12_isOut zk_313 (ct_Md_isOut (dle (Nat.le_of_ble_eq_true rfl) hd0) he3) (dps (Nat.le_of_ble_eq_true rfl) hd0) rfl rfl (Nat.le_of_ble_eq_true rfl) ?_
      refine z_if_eq 31 dX12_outOf_24 rfl (fun hc4 => ?_) (fun hc4 => ?_)
      · replace h := oT hc4 h
        refine z_lconst (M := mX12_outOf) (v := 0) dX12_outOf_31 rfl ?_
        cases h
        exact z_lret dX12_outOf_32 rfl
      · replace h := oF hc4 h
        refine z_lconst (M := mX12_outOf) (v := 1) dX12_outOf_27 rfl ?_
        refine z_goto 32 dX12_outOf_28 rfl ?_
        cases h
        exact z_lret dX12_outOf_32 rfl
theorem ct_Md_outOf {g : GG} {d : Nat} {x1 : Int64} {ν : Nm} {r : Int64} (hd0 : 3 ≤ d)  (h : Md_outOf ν x1 = some r) : Ct g d mX12_outOf [.ref 313, .long x1] (zem ν) (some (.long r), zem ν) := y_entry in_X12_outOf (Nat.le_of_ble_eq_true rfl) rfl (t_Md_outOf hd0 x1 r h)
-- FuseMinutesModel.twosOf(J)J
theorem dX12_twosOf_0 : decode cX12_twosOf 0 = .ok (.lload_n 0, 1) := by decide +kernel
theorem dX12_twosOf_1 : decode cX12_twosOf 1 = .ok (.lconst 0, 1) := by decide +kernel
theorem dX12_twosOf_2 : decode cX12_twosOf 2 = .ok (.lcmp, 1) := by decide +kernel
theorem dX12_twosOf_3 : decode cX12_twosOf 3 = .ok (.ifCond .ne 7, 3) := by decide +kernel
theorem dX12_twosOf_6 : decode cX12_twosOf 6 = .ok (.lconst 0, 1) := by decide +kernel
theorem dX12_twosOf_7 : decode cX12_twosOf 7 = .ok (.goto 4, 3) := by decide +kernel
theorem dX12_twosOf_10 : decode cX12_twosOf 10 = .ok (.lconst 1, 1) := by decide +kernel
theorem dX12_twosOf_11 : decode cX12_twosOf 11 = .ok (.lstore_n 2, 1) := by decide +kernel
theorem dX12_twosOf_12 : decode cX12_twosOf 12 = .ok (.lload_n 0, 1) := by decide +kernel
theorem dX12_twosOf_13 : decode cX12_twosOf 13 = .ok (.lconst 0, 1) := by decide +kernel
theorem dX12_twosOf_14 : decode cX12_twosOf 14 = .ok (.lcmp, 1) := by decide +kernel
theorem dX12_twosOf_15 : decode cX12_twosOf 15 = .ok (.ifCond .eq 24, 3) := by decide +kernel
theorem dX12_twosOf_18 : decode cX12_twosOf 18 = .ok (.lload_n 0, 1) := by decide +kernel
theorem dX12_twosOf_19 : decode cX12_twosOf 19 = .ok (.ldc2_w 285, 3) := by decide +kernel
theorem dX12_twosOf_22 : decode cX12_twosOf 22 = .ok (.lload_n 2, 1) := by decide +kernel
theorem dX12_twosOf_23 : decode cX12_twosOf 23 = .ok (.lmul, 1) := by decide +kernel
theorem dX12_twosOf_24 : decode cX12_twosOf 24 = .ok (.lrem, 1) := by decide +kernel
theorem dX12_twosOf_25 : decode cX12_twosOf 25 = .ok (.lconst 0, 1) := by decide +kernel
theorem dX12_twosOf_26 : decode cX12_twosOf 26 = .ok (.lcmp, 1) := by decide +kernel
theorem dX12_twosOf_27 : decode cX12_twosOf 27 = .ok (.ifCond .ne 12, 3) := by decide +kernel
theorem dX12_twosOf_30 : decode cX12_twosOf 30 = .ok (.lload_n 2, 1) := by decide +kernel
theorem dX12_twosOf_31 : decode cX12_twosOf 31 = .ok (.ldc2_w 285, 3) := by decide +kernel
theorem dX12_twosOf_34 : decode cX12_twosOf 34 = .ok (.lmul, 1) := by decide +kernel
theorem dX12_twosOf_35 : decode cX12_twosOf 35 = .ok (.lstore_n 2, 1) := by decide +kernel
theorem dX12_twosOf_36 : decode cX12_twosOf 36 = .ok (.goto (-24), 3) := by decide +kernel
theorem dX12_twosOf_39 : decode cX12_twosOf 39 = .ok (.lload_n 2, 1) := by decide +kernel
theorem dX12_twosOf_40 : decode cX12_twosOf 40 = .ok (.lreturn, 1) := by decide +kernel
def Md_twosOf_12 : Nat → Int64 → Int64 → Option Int64
  | 0, _, _ => none
  | f + 1, x0, x2 =>
    (if (lg_cmp x0 (0 : Int64)) = 0 then
      some x2
    else
      if ((2 : Int64) * x2) = 0 then none else
      (if ¬ (lg_cmp (x0 - x0 / ((2 : Int64) * x2) * ((2 : Int64) * x2)) (0 : Int64)) = 0 then
        some x2
      else
        (Md_twosOf_12 f) x0 (x2 * (2 : Int64))))
set_option maxRecDepth 100000 in
set_option maxHeartbeats 4000000 in
theorem t_Md_twosOf_12 {g : GG} {d : Nat} {μ : Mm} (hd0 : 1 ≤ d) : ∀ (f : Nat), ∀ (x0 : Int64) (x2 : Int64) (r : Int64), Md_twosOf_12 f x0 x2 = some r → Z g d (0, 0) mX12_twosOf 333 0 0 12 [(0, .long x0), (2, .long x2)] [] μ (zF g (some (.long r), μ)) := by
  intro f
  induction f with
  | zero =>
    intro x0 x2 r h
    cases h
  | succ f ih =>
    intro x0 x2 r h
    rw [Md_twosOf_12] at h
    refine z_lload_n dX12_twosOf_12 0 rfl ?_
    refine z_lconst (M := mX12_twosOf) (v := 0) dX12_twosOf_13 rfl ?_
    refine z_lcmp dX12_twosOf_14 ?_
    refine z_if_eq 39 dX12_twosOf_15 rfl (fun hc1 => ?_) (fun hc1 => ?_)
    · replace h := oT hc1 h
      refine z_lload_n dX12_twosOf_39 1 rfl ?_
      cases h
      exact z_lret dX12_twosOf_40 rfl
    · replace h := oF hc1 h
      refine z_lload_n dX12_twosOf_18 0 rfl ?_
      refine z_ldc2 dX12_twosOf_19 csRX12_285 ?_
      refine z_lload_n dX12_twosOf_22 1 rfl ?_
      refine z_lmul dX12_twosOf_23 ?_
      obtain ⟨hz2, h⟩ := oifn h
      refine z_lrem dX12_twosOf_24 hz2 ?_
      refine z_lconst (M := mX12_twosOf) (v := 0) dX12_twosOf_25 rfl ?_
      refine z_lcmp dX12_twosOf_26 ?_
      refine z_if_ne 39 dX12_twosOf_27 rfl (fun hc3 => ?_) (fun hc3 => ?_)
      · replace h := oT hc3 h
        refine z_lload_n dX12_twosOf_39 1 rfl ?_
        cases h
        exact z_lret dX12_twosOf_40 rfl
      · replace h := oFn hc3 h
        refine z_lload_n dX12_twosOf_30 1 rfl ?_
        refine z_ldc2 dX12_twosOf_31 csRX12_285 ?_
        refine z_lmul dX12_twosOf_34 ?_
        refine z_lstore_n (M := mX12_twosOf) (lv2 := [(2, .long (x2 * (2 : Int64))), (0, .long x0)]) dX12_twosOf_35 (Nat.le_of_ble_eq_true rfl) rfl ?_
        refine z_goto 12 dX12_twosOf_36 rfl ?_
        refine z_lv (lv2 := [(0, .long x0), (2, .long (x2 * (2 : Int64)))]) [1, 0] rfl ?_
        exact ih x0 (x2 * (2 : Int64)) _ h
def Md_twosOf_11 (x0 : Int64) (s0 : Int64) : Option Int64 :=
  Md_twosOf_12 FU x0 s0
set_option maxRecDepth 100000 in
set_option maxHeartbeats 4000000 in
theorem t_Md_twosOf_11 {g : GG} {d : Nat} {μ : Mm} (hd0 : 1 ≤ d) : ∀ (x0 : Int64) (s0 : Int64) (r : Int64), Md_twosOf_11 x0 s0 = some r → Z g d (0, 0) mX12_twosOf 333 0 0 11 [(0, .long x0)] [.long s0] μ (zF g (some (.long r), μ)) := by
  intro x0 s0 r h
  unfold Md_twosOf_11 at h
  refine z_lstore_n (M := mX12_twosOf) (lv2 := [(2, .long s0), (0, .long x0)]) dX12_twosOf_11 (Nat.le_of_ble_eq_true rfl) rfl ?_
  refine z_lv (lv2 := [(0, .long x0), (2, .long s0)]) [1, 0] rfl ?_
  exact t_Md_twosOf_12 hd0 FU x0 s0 _ h
def Md_twosOf (x0 : Int64) : Option Int64 :=
  (if ¬ (lg_cmp x0 (0 : Int64)) = 0 then
    Md_twosOf_11 x0 (1 : Int64)
  else
    Md_twosOf_11 x0 (0 : Int64))
set_option maxRecDepth 100000 in
set_option maxHeartbeats 4000000 in
theorem t_Md_twosOf {g : GG} {d : Nat} {μ : Mm} (hd0 : 1 ≤ d) : ∀ (x0 : Int64) (r : Int64), Md_twosOf x0 = some r → Z g d (0, 0) mX12_twosOf 333 0 0 0 [(0, .long x0)] [] μ (zF g (some (.long r), μ)) := by
  intro x0 r h
  unfold Md_twosOf at h
  refine z_lload_n dX12_twosOf_0 0 rfl ?_
  refine z_lconst (M := mX12_twosOf) (v := 0) dX12_twosOf_1 rfl ?_
  refine z_lcmp dX12_twosOf_2 ?_
  refine z_if_ne 10 dX12_twosOf_3 rfl (fun hc1 => ?_) (fun hc1 => ?_)
  · replace h := oT hc1 h
    refine z_lconst (M := mX12_twosOf) (v := 1) dX12_twosOf_10 rfl ?_
    exact t_Md_twosOf_11 hd0  x0 (1 : Int64) _ h
  · replace h := oFn hc1 h
    refine z_lconst (M := mX12_twosOf) (v := 0) dX12_twosOf_6 rfl ?_
    refine z_goto 11 dX12_twosOf_7 rfl ?_
    exact t_Md_twosOf_11 hd0  x0 (0 : Int64) _ h
theorem ct_Md_twosOf {g : GG} {d : Nat} {x0 : Int64} {μ : Mm} {r : Int64} (hd0 : 1 ≤ d)  (h : Md_twosOf x0 = some r) : Ct g d mX12_twosOf [.long x0] μ (some (.long r), μ) := y_entry in_X12_twosOf (Nat.le_of_ble_eq_true rfl) rfl (t_Md_twosOf hd0 x0 r h)
-- FuseMinutesModel.ofOne(IJ)J
theorem dX12_ofOne_0 : decode cX12_ofOne 0 = .ok (.iload_n 1, 1) := by decide +kernel
theorem dX12_ofOne_1 : decode cX12_ofOne 1 = .ok (.iconst 5, 1) := by decide +kernel
theorem dX12_ofOne_2 : decode cX12_ofOne 2 = .ok (.if_icmp .ne 8, 3) := by decide +kernel
theorem dX12_ofOne_5 : decode cX12_ofOne 5 = .ok (.lload_n 2, 1) := by decide +kernel
theorem dX12_ofOne_6 : decode cX12_ofOne 6 = .ok (.lneg, 1) := by decide +kernel
theorem dX12_ofOne_7 : decode cX12_ofOne 7 = .ok (.goto 20, 3) := by decide +kernel
theorem dX12_ofOne_10 : decode cX12_ofOne 10 = .ok (.iload_n 1, 1) := by decide +kernel
theorem dX12_ofOne_11 : decode cX12_ofOne 11 = .ok (.iconst 4, 1) := by decide +kernel
theorem dX12_ofOne_12 : decode cX12_ofOne 12 = .ok (.if_icmp .ne 10, 3) := by decide +kernel
theorem dX12_ofOne_15 : decode cX12_ofOne 15 = .ok (.lload_n 2, 1) := by decide +kernel
theorem dX12_ofOne_16 : decode cX12_ofOne 16 = .ok (.invokestatic 287, 3) := by decide +kernel
theorem dX12_ofOne_19 : decode cX12_ofOne 19 = .ok (.goto 8, 3) := by decide +kernel
theorem dX12_ofOne_22 : decode cX12_ofOne 22 = .ok (.aload_n 0, 1) := by decide +kernel
theorem dX12_ofOne_23 : decode cX12_ofOne 23 = .ok (.lload_n 2, 1) := by decide +kernel
theorem dX12_ofOne_24 : decode cX12_ofOne 24 = .ok (.invokevirtual 290, 3) := by decide +kernel
theorem dX12_ofOne_27 : decode cX12_ofOne 27 = .ok (.lreturn, 1) := by decide +kernel
def Md_ofOne (ν : Nm) (x1 : Int32) (x2 : Int64) : Option Int64 :=
  (if ¬ x1 = (5 : Int32) then
    (if ¬ x1 = (4 : Int32) then
      (Md_outOf ν x2).bind fun v3 =>
      some v3
    else
      (Md_twosOf x2).bind fun v4 =>
      some v4)
  else
    some (-x2))
set_option maxRecDepth 100000 in
set_option maxHeartbeats 4000000 in
theorem t_Md_ofOne {g : GG} {d : Nat} {ν : Nm} (hd0 : 4 ≤ d) : ∀ (x1 : Int32) (x2 : Int64) (r : Int64), Md_ofOne ν x1 x2 = some r → Z g d (0, 0) mX12_ofOne 333 0 0 0 [(0, .ref 313), (1, .int x1), (2, .long x2)] [] (zem ν) (zF g (some (.long r), zem ν)) := by
  intro x1 x2 r h
  unfold Md_ofOne at h
  refine z_iload_n dX12_ofOne_0 1 rfl ?_
  refine z_iconst (M := mX12_ofOne) (v := 5) dX12_ofOne_1 rfl ?_
  refine z_icmp_ne 10 dX12_ofOne_2 rfl (fun hc1 => ?_) (fun hc1 => ?_)
  · replace h := oT hc1 h
    refine z_iload_n dX12_ofOne_10 1 rfl ?_
    refine z_iconst (M := mX12_ofOne) (v := 4) dX12_ofOne_11 rfl ?_
    refine z_icmp_ne 22 dX12_ofOne_12 rfl (fun hc2 => ?_) (fun hc2 => ?_)
    · replace h := oT hc2 h
      refine z_aload_n dX12_ofOne_22 0 rfl ?_
      refine z_lload_n dX12_ofOne_23 2 rfl ?_
      obtain ⟨v3, he3, h⟩ := obind h
      refine y_Vl (M := mX12_ofOne) (Y := mX12_outOf) (d2 := d - 1) (As := [.long x2]) (st := []) dX12_ofOne_24 mlRX12_290 cv_X12_outOf zk_313 (ct_Md_outOf (dle (Nat.le_of_ble_eq_true rfl) hd0) he3) (dps (Nat.le_of_ble_eq_true rfl) hd0) rfl rfl (Nat.le_of_ble_eq_true rfl) ?_
      cases h
      exact z_lret dX12_ofOne_27 rfl
    · replace h := oFn hc2 h
      refine z_lload_n dX12_ofOne_15 2 rfl ?_
      obtain ⟨v4, he4, h⟩ := obind h
      refine y_Sl (M := mX12_ofOne) (Y := mX12_twosOf) (d2 := d - 1) (As := [.long x2]) (st := []) dX12_ofOne_16 mlRX12_287 cv_X12_twosOf (ct_Md_twosOf (dle (Nat.le_of_ble_eq_true rfl) hd0) he4) (dps (Nat.le_of_ble_eq_true rfl) hd0) rfl rfl (Nat.le_of_ble_eq_true rfl) ?_
      refine z_goto 27 dX12_ofOne_19 rfl ?_
      cases h
      exact z_lret dX12_ofOne_27 rfl
  · replace h := oFn hc1 h
    refine z_lload_n dX12_ofOne_5 2 rfl ?_
    refine z_lneg dX12_ofOne_6 ?_
    refine z_goto 27 dX12_ofOne_7 rfl ?_
    cases h
    exact z_lret dX12_ofOne_27 rfl
theorem ct_Md_ofOne {g : GG} {d : Nat} {x1 : Int32} {x2 : Int64} {ν : Nm} {r : Int64} (hd0 : 4 ≤ d)  (h : Md_ofOne ν x1 x2 = some r) : Ct g d mX12_ofOne [.ref 313, .int x1, .long x2] (zem ν) (some (.long r), zem ν) := y_entry in_X12_ofOne (Nat.le_of_ble_eq_true rfl) rfl (t_Md_ofOne hd0 x1 x2 r h)
-- FuseMinutesModel.clip(J)J
theorem dX12_clip_0 : decode cX12_clip 0 = .ok (.lload_n 0, 1) := by decide +kernel
theorem dX12_clip_1 : decode cX12_clip 1 = .ok (.ldc2_w 274, 3) := by decide +kernel
theorem dX12_clip_4 : decode cX12_clip 4 = .ok (.lcmp, 1) := by decide +kernel
theorem dX12_clip_5 : decode cX12_clip 5 = .ok (.ifCond .le 9, 3) := by decide +kernel
theorem dX12_clip_8 : decode cX12_clip 8 = .ok (.ldc2_w 274, 3) := by decide +kernel
theorem dX12_clip_11 : decode cX12_clip 11 = .ok (.goto 18, 3) := by decide +kernel
theorem dX12_clip_14 : decode cX12_clip 14 = .ok (.lload_n 0, 1) := by decide +kernel
theorem dX12_clip_15 : decode cX12_clip 15 = .ok (.ldc2_w 276, 3) := by decide +kernel
theorem dX12_clip_18 : decode cX12_clip 18 = .ok (.lcmp, 1) := by decide +kernel
theorem dX12_clip_19 : decode cX12_clip 19 = .ok (.ifCond .ge 9, 3) := by decide +kernel
theorem dX12_clip_22 : decode cX12_clip 22 = .ok (.ldc2_w 276, 3) := by decide +kernel
theorem dX12_clip_25 : decode cX12_clip 25 = .ok (.goto 4, 3) := by decide +kernel
theorem dX12_clip_28 : decode cX12_clip 28 = .ok (.lload_n 0, 1) := by decide +kernel
theorem dX12_clip_29 : decode cX12_clip 29 = .ok (.lreturn, 1) := by decide +kernel
def Md_clip (x0 : Int64) : Option Int64 :=
  (if (lg_cmp x0 (1000000 : Int64)) ≤ 0 then
    (if 0 ≤ (lg_cmp x0 (-1000000 : Int64)) then
      some x0
    else
      some (-1000000 : Int64))
  else
    some (1000000 : Int64))
set_option maxRecDepth 100000 in
set_option maxHeartbeats 4000000 in
theorem t_Md_clip {g : GG} {d : Nat} {μ : Mm} (hd0 : 1 ≤ d) : ∀ (x0 : Int64) (r : Int64), Md_clip x0 = some r → Z g d (0, 0) mX12_clip 333 0 0 0 [(0, .long x0)] [] μ (zF g (some (.long r), μ)) := by
  intro x0 r h
  unfold Md_clip at h
  refine z_lload_n dX12_clip_0 0 rfl ?_
  refine z_ldc2 dX12_clip_1 csRX12_274 ?_
  refine z_lcmp dX12_clip_4 ?_
  refine z_if_le 14 dX12_clip_5 rfl (fun hc1 => ?_) (fun hc1 => ?_)
  · replace h := oT hc1 h
    refine z_lload_n dX12_clip_14 0 rfl ?_
    refine z_ldc2 dX12_clip_15 csRX12_276 ?_
    refine z_lcmp dX12_clip_18 ?_
    refine z_if_ge 28 dX12_clip_19 rfl (fun hc2 => ?_) (fun hc2 => ?_)
    · replace h := oT hc2 h
      refine z_lload_n dX12_clip_28 0 rfl ?_
      cases h
      exact z_lret dX12_clip_29 rfl
    · replace h := oF hc2 h
      refine z_ldc2 dX12_clip_22 csRX12_276 ?_
      refine z_goto 29 dX12_clip_25 rfl ?_
      cases h
      exact z_lret dX12_clip_29 rfl
  · replace h := oF hc1 h
    refine z_ldc2 dX12_clip_8 csRX12_274 ?_
    refine z_goto 29 dX12_clip_11 rfl ?_
    cases h
    exact z_lret dX12_clip_29 rfl
theorem ct_Md_clip {g : GG} {d : Nat} {x0 : Int64} {μ : Mm} {r : Int64} (hd0 : 1 ≤ d)  (h : Md_clip x0 = some r) : Ct g d mX12_clip [.long x0] μ (some (.long r), μ) := y_entry in_X12_clip (Nat.le_of_ble_eq_true rfl) rfl (t_Md_clip hd0 x0 r h)
-- FuseMinutesModel.two(IJJ)J
theorem dX12_two_0 : decode cX12_two 0 = .ok (.iload_n 0, 1) := by decide +kernel
theorem dX12_two_1 : decode cX12_two 1 = .ok (.tableswitch 48 6 8 #[27, 34, 41], 27) := by decide +kernel
theorem dX12_two_28 : decode cX12_two 28 = .ok (.lload_n 1, 1) := by decide +kernel
theorem dX12_two_29 : decode cX12_two 29 = .ok (.lload_n 3, 1) := by decide +kernel
theorem dX12_two_30 : decode cX12_two 30 = .ok (.ladd, 1) := by decide +kernel
theorem dX12_two_31 : decode cX12_two 31 = .ok (.invokestatic 278, 3) := by decide +kernel
theorem dX12_two_34 : decode cX12_two 34 = .ok (.lreturn, 1) := by decide +kernel
theorem dX12_two_35 : decode cX12_two 35 = .ok (.lload_n 1, 1) := by decide +kernel
theorem dX12_two_36 : decode cX12_two 36 = .ok (.lload_n 3, 1) := by decide +kernel
theorem dX12_two_37 : decode cX12_two 37 = .ok (.lsub, 1) := by decide +kernel
theorem dX12_two_38 : decode cX12_two 38 = .ok (.invokestatic 278, 3) := by decide +kernel
theorem dX12_two_41 : decode cX12_two 41 = .ok (.lreturn, 1) := by decide +kernel
theorem dX12_two_42 : decode cX12_two 42 = .ok (.lload_n 1, 1) := by decide +kernel
theorem dX12_two_43 : decode cX12_two 43 = .ok (.lload_n 3, 1) := by decide +kernel
theorem dX12_two_44 : decode cX12_two 44 = .ok (.lmul, 1) := by decide +kernel
theorem dX12_two_45 : decode cX12_two 45 = .ok (.invokestatic 278, 3) := by decide +kernel
theorem dX12_two_48 : decode cX12_two 48 = .ok (.lreturn, 1) := by decide +kernel
theorem dX12_two_49 : decode cX12_two 49 = .ok (.lload_n 3, 1) := by decide +kernel
theorem dX12_two_50 : decode cX12_two 50 = .ok (.lconst 0, 1) := by decide +kernel
theorem dX12_two_51 : decode cX12_two 51 = .ok (.lcmp, 1) := by decide +kernel
theorem dX12_two_52 : decode cX12_two 52 = .ok (.ifCond .ne 7, 3) := by decide +kernel
theorem dX12_two_55 : decode cX12_two 55 = .ok (.lconst 0, 1) := by decide +kernel
theorem dX12_two_56 : decode cX12_two 56 = .ok (.goto 9, 3) := by decide +kernel
theorem dX12_two_59 : decode cX12_two 59 = .ok (.lload_n 1, 1) := by decide +kernel
theorem dX12_two_60 : decode cX12_two 60 = .ok (.lload_n 3, 1) := by decide +kernel
theorem dX12_two_61 : decode cX12_two 61 = .ok (.ldiv, 1) := by decide +kernel
theorem dX12_two_62 : decode cX12_two 62 = .ok (.invokestatic 278, 3) := by decide +kernel
theorem dX12_two_65 : decode cX12_two 65 = .ok (.lreturn, 1) := by decide +kernel
def Md_two (x0 : Int32) (x1 : Int64) (x3 : Int64) : Option Int64 :=
  (if x0 = (6 : Int32) then
    (Md_clip (x1 + x3)).bind fun v1 =>
    some v1
  else
  (if x0 = (7 : Int32) then
    (Md_clip (x1 - x3)).bind fun v3 =>
    some v3
  else
  (if x0 = (8 : Int32) then
    (Md_clip (x1 * x3)).bind fun v5 =>
    some v5
  else
    (if ¬ (lg_cmp x3 (0 : Int64)) = 0 then
      if x3 = 0 then none else
      (Md_clip (x1 / x3)).bind fun v9 =>
      some v9
    else
      some (0 : Int64)))))
set_option maxRecDepth 100000 in
set_option maxHeartbeats 4000000 in
theorem t_Md_two {g : GG} {d : Nat} {μ : Mm} (hd0 : 2 ≤ d) : ∀ (x0 : Int32) (x1 : Int64) (x3 : Int64) (r : Int64), Md_two x0 x1 x3 = some r → Z g d (0, 0) mX12_two 333 0 0 0 [(0, .int x0), (1, .long x1), (3, .long x3)] [] μ (zF g (some (.long r), μ)) := by
  intro x0 x1 x3 r h
  unfold Md_two at h
  refine z_iload_n dX12_two_0 0 rfl ?_
  by_cases hc2 : x0 = (6 : Int32)
  · replace h := oT hc2 h
    refine y_sw (6 : Int32) (6) 28 dX12_two_1 hc2 rfl (by decide) (by decide) rfl rfl ?_
    refine z_lload_n dX12_two_28 1 rfl ?_
    refine z_lload_n dX12_two_29 2 rfl ?_
    refine z_ladd dX12_two_30 ?_
    obtain ⟨v1, he1, h⟩ := obind h
    refine y_Sl (M := mX12_two) (Y := mX12_clip) (d2 := d - 1) (As := [.long (x1 + x3)]) (st := []) dX12_two_31 mlRX12_278 cv_X12_clip (ct_Md_clip (dle (Nat.le_of_ble_eq_true rfl) hd0) he1) (dps (Nat.le_of_ble_eq_true rfl) hd0) rfl rfl (Nat.le_of_ble_eq_true rfl) ?_
    cases h
    exact z_lret dX12_two_34 rfl
  replace h := oF hc2 h
  by_cases hc4 : x0 = (7 : Int32)
  · replace h := oT hc4 h
    refine y_sw (7 : Int32) (7) 35 dX12_two_1 hc4 rfl (by decide) (by decide) rfl rfl ?_
    refine z_lload_n dX12_two_35 1 rfl ?_
    refine z_lload_n dX12_two_36 2 rfl ?_
    refine z_lsub dX12_two_37 ?_
    obtain ⟨v3, he3, h⟩ := obind h
    refine y_Sl (M := mX12_two) (Y := mX12_clip) (d2 := d - 1) (As := [.long (x1 - x3)]) (st := []) dX12_two_38 mlRX12_278 cv_X12_clip (ct_Md_clip (dle (Nat.le_of_ble_eq_true rfl) hd0) he3) (dps (Nat.le_of_ble_eq_true rfl) hd0) rfl rfl (Nat.le_of_ble_eq_true rfl) ?_
    cases h
    exact z_lret dX12_two_41 rfl
  replace h := oF hc4 h
  by_cases hc6 : x0 = (8 : Int32)
  · replace h := oT hc6 h
    refine y_sw (8 : Int32) (8) 42 dX12_two_1 hc6 rfl (by decide) (by decide) rfl rfl ?_
    refine z_lload_n dX12_two_42 1 rfl ?_
    refine z_lload_n dX12_two_43 2 rfl ?_
    refine z_lmul dX12_two_44 ?_
    obtain ⟨v5, he5, h⟩ := obind h
    refine y_Sl (M := mX12_two) (Y := mX12_clip) (d2 := d - 1) (As := [.long (x1 * x3)]) (st := []) dX12_two_45 mlRX12_278 cv_X12_clip (ct_Md_clip (dle (Nat.le_of_ble_eq_true rfl) hd0) he5) (dps (Nat.le_of_ble_eq_true rfl) hd0) rfl rfl (Nat.le_of_ble_eq_true rfl) ?_
    cases h
    exact z_lret dX12_two_48 rfl
  replace h := oF hc6 h
  have zhc2 := i32ne hc2 (z := 6) rfl
  have zhc4 := i32ne hc4 (z := 7) rfl
  have zhc6 := i32ne hc6 (z := 8) rfl
  refine z_tableOut 49 dX12_two_1 (by omega) rfl ?_
  refine z_lload_n dX12_two_49 2 rfl ?_
  refine z_lconst (M := mX12_two) (v := 0) dX12_two_50 rfl ?_
  refine z_lcmp dX12_two_51 ?_
  refine z_if_ne 59 dX12_two_52 rfl (fun hc7 => ?_) (fun hc7 => ?_)
  · replace h := oT hc7 h
    refine z_lload_n dX12_two_59 1 rfl ?_
    refine z_lload_n dX12_two_60 2 rfl ?_
    obtain ⟨hz8, h⟩ := oifn h
    refine z_ldiv dX12_two_61 hz8 ?_
    obtain ⟨v9, he9, h⟩ := obind h
    refine y_Sl (M := mX12_two) (Y := mX12_clip) (d2 := d - 1) (As := [.long (x1 / x3)]) (st := []) dX12_two_62 mlRX12_278 cv_X12_clip (ct_Md_clip (dle (Nat.le_of_ble_eq_true rfl) hd0) he9) (dps (Nat.le_of_ble_eq_true rfl) hd0) rfl rfl (Nat.le_of_ble_eq_true rfl) ?_
    cases h
    exact z_lret dX12_two_65 rfl
  · replace h := oFn hc7 h
    refine z_lconst (M := mX12_two) (v := 0) dX12_two_55 rfl ?_
    refine z_goto 65 dX12_two_56 rfl ?_
    cases h
    exact z_lret dX12_two_65 rfl
theorem ct_Md_two {g : GG} {d : Nat} {x0 : Int32} {x1 : Int64} {x3 : Int64} {μ : Mm} {r : Int64} (hd0 : 2 ≤ d)  (h : Md_two x0 x1 x3 = some r) : Ct g d mX12_two [.int x0, .long x1, .long x3] μ (some (.long r), μ) := y_entry in_X12_two (Nat.le_of_ble_eq_true rfl) rfl (t_Md_two hd0 x0 x1 x3 r h)
-- FuseMinutesModel.summedUp(II)J
theorem dX12_summedUp_0 : decode cX12_summedUp 0 = .ok (.sipush 681, 3) := by decide +kernel
theorem dX12_summedUp_3 : decode cX12_summedUp 3 = .ok (.iload_n 1, 1) := by decide +kernel
theorem dX12_summedUp_4 : decode cX12_summedUp 4 = .ok (.imul, 1) := by decide +kernel
theorem dX12_summedUp_5 : decode cX12_summedUp 5 = .ok (.iconst 1, 1) := by decide +kernel
theorem dX12_summedUp_6 : decode cX12_summedUp 6 = .ok (.iadd, 1) := by decide +kernel
theorem dX12_summedUp_7 : decode cX12_summedUp 7 = .ok (.iconst 3, 1) := by decide +kernel
theorem dX12_summedUp_8 : decode cX12_summedUp 8 = .ok (.iload_n 2, 1) := by decide +kernel
theorem dX12_summedUp_9 : decode cX12_summedUp 9 = .ok (.imul, 1) := by decide +kernel
theorem dX12_summedUp_10 : decode cX12_summedUp 10 = .ok (.iadd, 1) := by decide +kernel
theorem dX12_summedUp_11 : decode cX12_summedUp 11 = .ok (.istore_n 3, 1) := by decide +kernel
theorem dX12_summedUp_12 : decode cX12_summedUp 12 = .ok (.sipush 681, 3) := by decide +kernel
theorem dX12_summedUp_15 : decode cX12_summedUp 15 = .ok (.iload_n 1, 1) := by decide +kernel
theorem dX12_summedUp_16 : decode cX12_summedUp 16 = .ok (.imul, 1) := by decide +kernel
theorem dX12_summedUp_17 : decode cX12_summedUp 17 = .ok (.bipush 73, 2) := by decide +kernel
theorem dX12_summedUp_19 : decode cX12_summedUp 19 = .ok (.iadd, 1) := by decide +kernel
theorem dX12_summedUp_20 : decode cX12_summedUp 20 = .ok (.istore 4, 2) := by decide +kernel
theorem dX12_summedUp_22 : decode cX12_summedUp 22 = .ok (.iconst 0, 1) := by decide +kernel
theorem dX12_summedUp_23 : decode cX12_summedUp 23 = .ok (.istore 5, 2) := by decide +kernel
theorem dX12_summedUp_25 : decode cX12_summedUp 25 = .ok (.iconst 0, 1) := by decide +kernel
theorem dX12_summedUp_26 : decode cX12_summedUp 26 = .ok (.istore 6, 2) := by decide +kernel
theorem dX12_summedUp_28 : decode cX12_summedUp 28 = .ok (.aload_n 0, 1) := by decide +kernel
theorem dX12_summedUp_29 : decode cX12_summedUp 29 = .ok (.getfield 16, 3) := by decide +kernel
theorem dX12_summedUp_32 : decode cX12_summedUp 32 = .ok (.iload_n 3, 1) := by decide +kernel
theorem dX12_summedUp_33 : decode cX12_summedUp 33 = .ok (.iconst 1, 1) := by decide +kernel
theorem dX12_summedUp_34 : decode cX12_summedUp 34 = .ok (.iadd, 1) := by decide +kernel
theorem dX12_summedUp_35 : decode cX12_summedUp 35 = .ok (.iaload, 1) := by decide +kernel
theorem dX12_summedUp_36 : decode cX12_summedUp 36 = .ok (.istore 7, 2) := by decide +kernel
theorem dX12_summedUp_38 : decode cX12_summedUp 38 = .ok (.iload 7, 2) := by decide +kernel
theorem dX12_summedUp_40 : decode cX12_summedUp 40 = .ok (.aload_n 0, 1) := by decide +kernel
theorem dX12_summedUp_41 : decode cX12_summedUp 41 = .ok (.getfield 16, 3) := by decide +kernel
theorem dX12_summedUp_44 : decode cX12_summedUp 44 = .ok (.iload_n 3, 1) := by decide +kernel
theorem dX12_summedUp_45 : decode cX12_summedUp 45 = .ok (.iconst 2, 1) := by decide +kernel
theorem dX12_summedUp_46 : decode cX12_summedUp 46 = .ok (.iadd, 1) := by decide +kernel
theorem dX12_summedUp_47 : decode cX12_summedUp 47 = .ok (.iaload, 1) := by decide +kernel
theorem dX12_summedUp_48 : decode cX12_summedUp 48 = .ok (.if_icmp .ge 307, 3) := by decide +kernel
theorem dX12_summedUp_51 : decode cX12_summedUp 51 = .ok (.aload_n 0, 1) := by decide +kernel
theorem dX12_summedUp_52 : decode cX12_summedUp 52 = .ok (.getfield 16, 3) := by decide +kernel
theorem dX12_summedUp_55 : decode cX12_summedUp 55 = .ok (.iload 4, 2) := by decide +kernel
theorem dX12_summedUp_57 : decode cX12_summedUp 57 = .ok (.iconst 2, 1) := by decide +kernel
theorem dX12_summedUp_58 : decode cX12_summedUp 58 = .ok (.iload 7, 2) := by decide +kernel
theorem dX12_summedUp_60 : decode cX12_summedUp 60 = .ok (.imul, 1) := by decide +kernel
theorem dX12_summedUp_61 : decode cX12_summedUp 61 = .ok (.iadd, 1) := by decide +kernel
theorem dX12_summedUp_62 : decode cX12_summedUp 62 = .ok (.iaload, 1) := by decide +kernel
theorem dX12_summedUp_63 : decode cX12_summedUp 63 = .ok (.istore 8, 2) := by decide +kernel
theorem dX12_summedUp_65 : decode cX12_summedUp 65 = .ok (.aload_n 0, 1) := by decide +kernel
theorem dX12_summedUp_66 : decode cX12_summedUp 66 = .ok (.getfield 16, 3) := by decide +kernel
theorem dX12_summedUp_69 : decode cX12_summedUp 69 = .ok (.iload 4, 2) := by decide +kernel
theorem dX12_summedUp_71 : decode cX12_summedUp 71 = .ok (.iconst 2, 1) := by decide +kernel
theorem dX12_summedUp_72 : decode cX12_summedUp 72 = .ok (.iload 7, 2) := by decide +kernel
theorem dX12_summedUp_74 : decode cX12_summedUp 74 = .ok (.imul, 1) := by decide +kernel
theorem dX12_summedUp_75 : decode cX12_summedUp 75 = .ok (.iadd, 1) := by decide +kernel
theorem dX12_summedUp_76 : decode cX12_summedUp 76 = .ok (.iconst 1, 1) := by decide +kernel
theorem dX12_summedUp_77 : decode cX12_summedUp 77 = .ok (.iadd, 1) := by decide +kernel
theorem dX12_summedUp_78 : decode cX12_summedUp 78 = .ok (.iaload, 1) := by decide +kernel
theorem dX12_summedUp_79 : decode cX12_summedUp 79 = .ok (.istore 9, 2) := by decide +kernel
theorem dX12_summedUp_81 : decode cX12_summedUp 81 = .ok (.iload 8, 2) := by decide +kernel
theorem dX12_summedUp_83 : decode cX12_summedUp 83 = .ok (.iconst 1, 1) := by decide +kernel
theorem dX12_summedUp_84 : decode cX12_summedUp 84 = .ok (.if_icmp .gt 35, 3) := by decide +kernel
theorem dX12_summedUp_87 : decode cX12_summedUp 87 = .ok (.aload_n 0, 1) := by decide +kernel
theorem dX12_summedUp_88 : decode cX12_summedUp 88 = .ok (.getfield 35, 3) := by decide +kernel
theorem dX12_summedUp_91 : decode cX12_summedUp 91 = .ok (.iload 5, 2) := by decide +kernel
theorem dX12_summedUp_93 : decode cX12_summedUp 93 = .ok (.iload 8, 2) := by decide +kernel
theorem dX12_summedUp_95 : decode cX12_summedUp 95 = .ok (.ifCond .ne 9, 3) := by decide +kernel
theorem dX12_summedUp_98 : decode cX12_summedUp 98 = .ok (.iload 9, 2) := by decide +kernel
theorem dX12_summedUp_100 : decode cX12_summedUp 100 = .ok (.i2l, 1) := by decide +kernel
theorem dX12_summedUp_101 : decode cX12_summedUp 101 = .ok (.goto 11, 3) := by decide +kernel
theorem dX12_summedUp_104 : decode cX12_summedUp 104 = .ok (.aload_n 0, 1) := by decide +kernel
theorem dX12_summedUp_105 : decode cX12_summedUp 105 = .ok (.getfield 32, 3) := by decide +kernel
theorem dX12_summedUp_108 : decode cX12_summedUp 108 = .ok (.iload 9, 2) := by decide +kernel
theorem dX12_summedUp_110 : decode cX12_summedUp 110 = .ok (.iaload, 1) := by decide +kernel
theorem dX12_summedUp_111 : decode cX12_summedUp 111 = .ok (.i2l, 1) := by decide +kernel
theorem dX12_summedUp_112 : decode cX12_summedUp 112 = .ok (.lastore, 1) := by decide +kernel
theorem dX12_summedUp_113 : decode cX12_summedUp 113 = .ok (.iinc 5 1, 3) := by decide +kernel
theorem dX12_summedUp_116 : decode cX12_summedUp 116 = .ok (.goto 233, 3) := by decide +kernel
theorem dX12_summedUp_119 : decode cX12_summedUp 119 = .ok (.iload 8, 2) := by decide +kernel
theorem dX12_summedUp_121 : decode cX12_summedUp 121 = .ok (.iconst 3, 1) := by decide +kernel
theorem dX12_summedUp_122 : decode cX12_summedUp 122 = .ok (.if_icmp .ne 38, 3) := by decide +kernel
theorem dX12_summedUp_125 : decode cX12_summedUp 125 = .ok (.iinc 5 (-1), 3) := by decide +kernel
theorem dX12_summedUp_128 : decode cX12_summedUp 128 = .ok (.iinc 6 (-1), 3) := by decide +kernel
theorem dX12_summedUp_131 : decode cX12_summedUp 131 = .ok (.aload_n 0, 1) := by decide +kernel
theorem dX12_summedUp_132 : decode cX12_summedUp 132 = .ok (.getfield 39, 3) := by decide +kernel
theorem dX12_summedUp_135 : decode cX12_summedUp 135 = .ok (.iload 6, 2) := by decide +kernel
theorem dX12_summedUp_137 : decode cX12_summedUp 137 = .ok (.baload, 1) := by decide +kernel
theorem dX12_summedUp_138 : decode cX12_summedUp 138 = .ok (.ifCond .ne 211, 3) := by decide +kernel
theorem dX12_summedUp_141 : decode cX12_summedUp 141 = .ok (.aload_n 0, 1) := by decide +kernel
theorem dX12_summedUp_142 : decode cX12_summedUp 142 = .ok (.getfield 35, 3) := by decide +kernel
theorem dX12_summedUp_145 : decode cX12_summedUp 145 = .ok (.iload 5, 2) := by decide +kernel
theorem dX12_summedUp_147 : decode cX12_summedUp 147 = .ok (.iconst 1, 1) := by decide +kernel
theorem dX12_summedUp_148 : decode cX12_summedUp 148 = .ok (.isub, 1) := by decide +kernel
theorem dX12_summedUp_149 : decode cX12_summedUp 149 = .ok (.aload_n 0, 1) := by decide +kernel
theorem dX12_summedUp_150 : decode cX12_summedUp 150 = .ok (.getfield 35, 3) := by decide +kernel
theorem dX12_summedUp_153 : decode cX12_summedUp 153 = .ok (.iload 5, 2) := by decide +kernel
theorem dX12_summedUp_155 : decode cX12_summedUp 155 = .ok (.laload, 1) := by decide +kernel
theorem dX12_summedUp_156 : decode cX12_summedUp 156 = .ok (.lastore, 1) := by decide +kernel
theorem dX12_summedUp_157 : decode cX12_summedUp 157 = .ok (.goto 192, 3) := by decide +kernel
theorem dX12_summedUp_160 : decode cX12_summedUp 160 = .ok (.iload 8, 2) := by decide +kernel
theorem dX12_summedUp_162 : decode cX12_summedUp 162 = .ok (.iconst 5, 1) := by decide +kernel
theorem dX12_summedUp_163 : decode cX12_summedUp 163 = .ok (.if_icmp .gt 30, 3) := by decide +kernel
theorem dX12_summedUp_166 : decode cX12_summedUp 166 = .ok (.aload_n 0, 1) := by decide +kernel
theorem dX12_summedUp_167 : decode cX12_summedUp 167 = .ok (.getfield 35, 3) := by decide +kernel
theorem dX12_summedUp_170 : decode cX12_summedUp 170 = .ok (.iload 5, 2) := by decide +kernel
theorem dX12_summedUp_172 : decode cX12_summedUp 172 = .ok (.iconst 1, 1) := by decide +kernel
theorem dX12_summedUp_173 : decode cX12_summedUp 173 = .ok (.isub, 1) := by decide +kernel
theorem dX12_summedUp_174 : decode cX12_summedUp 174 = .ok (.aload_n 0, 1) := by decide +kernel
theorem dX12_summedUp_175 : decode cX12_summedUp 175 = .ok (.iload 8, 2) := by decide +kernel
theorem dX12_summedUp_177 : decode cX12_summedUp 177 = .ok (.aload_n 0, 1) := by decide +kernel
theorem dX12_summedUp_178 : decode cX12_summedUp 178 = .ok (.getfield 35, 3) := by decide +kernel
theorem dX12_summedUp_181 : decode cX12_summedUp 181 = .ok (.iload 5, 2) := by decide +kernel
theorem dX12_summedUp_183 : decode cX12_summedUp 183 = .ok (.iconst 1, 1) := by decide +kernel
theorem dX12_summedUp_184 : decode cX12_summedUp 184 = .ok (.isub, 1) := by decide +kernel
theorem dX12_summedUp_185 : decode cX12_summedUp 185 = .ok (.laload, 1) := by decide +kernel
theorem dX12_summedUp_186 : decode cX12_summedUp 186 = .ok (.invokevirtual 293, 3) := by decide +kernel
theorem dX12_summedUp_189 : decode cX12_summedUp 189 = .ok (.lastore, 1) := by decide +kernel
theorem dX12_summedUp_190 : decode cX12_summedUp 190 = .ok (.goto 159, 3) := by decide +kernel
theorem dX12_summedUp_193 : decode cX12_summedUp 193 = .ok (.iload 8, 2) := by decide +kernel
theorem dX12_summedUp_195 : decode cX12_summedUp 195 = .ok (.bipush 10, 2) := by decide +kernel
theorem dX12_summedUp_197 : decode cX12_summedUp 197 = .ok (.if_icmp .ge 39, 3) := by decide +kernel
theorem dX12_summedUp_200 : decode cX12_summedUp 200 = .ok (.iinc 5 (-1), 3) := by decide +kernel
theorem dX12_summedUp_203 : decode cX12_summedUp 203 = .ok (.aload_n 0, 1) := by decide +kernel
theorem dX12_summedUp_204 : decode cX12_summedUp 204 = .ok (.getfield 35, 3) := by decide +kernel
theorem dX12_summedUp_207 : decode cX12_summedUp 207 = .ok (.iload 5, 2) := by decide +kernel
theorem dX12_summedUp_209 : decode cX12_summedUp 209 = .ok (.iconst 1, 1) := by decide +kernel
theorem dX12_summedUp_210 : decode cX12_summedUp 210 = .ok (.isub, 1) := by decide +kernel
theorem dX12_summedUp_211 : decode cX12_summedUp 211 = .ok (.iload 8, 2) := by decide +kernel
theorem dX12_summedUp_213 : decode cX12_summedUp 213 = .ok (.aload_n 0, 1) := by decide +kernel
theorem dX12_summedUp_214 : decode cX12_summedUp 214 = .ok (.getfield 35, 3) := by decide +kernel
theorem dX12_summedUp_217 : decode cX12_summedUp 217 = .ok (.iload 5, 2) := by decide +kernel
theorem dX12_summedUp_219 : decode cX12_summedUp 219 = .ok (.iconst 1, 1) := by decide +kernel
theorem dX12_summedUp_220 : decode cX12_summedUp 220 = .ok (.isub, 1) := by decide +kernel
theorem dX12_summedUp_221 : decode cX12_summedUp 221 = .ok (.laload, 1) := by decide +kernel
theorem dX12_summedUp_222 : decode cX12_summedUp 222 = .ok (.aload_n 0, 1) := by decide +kernel
theorem dX12_summedUp_223 : decode cX12_summedUp 223 = .ok (.getfield 35, 3) := by decide +kernel
theorem dX12_summedUp_226 : decode cX12_summedUp 226 = .ok (.iload 5, 2) := by decide +kernel
theorem dX12_summedUp_228 : decode cX12_summedUp 228 = .ok (.laload, 1) := by decide +kernel
theorem dX12_summedUp_229 : decode cX12_summedUp 229 = .ok (.invokestatic 297, 3) := by decide +kernel
theorem dX12_summedUp_232 : decode cX12_summedUp 232 = .ok (.lastore, 1) := by decide +kernel
theorem dX12_summedUp_233 : decode cX12_summedUp 233 = .ok (.goto 116, 3) := by decide +kernel
theorem dX12_summedUp_236 : decode cX12_summedUp 236 = .ok (.iload 8, 2) := by decide +kernel
theorem dX12_summedUp_238 : decode cX12_summedUp 238 = .ok (.bipush 20, 2) := by decide +kernel
theorem dX12_summedUp_240 : decode cX12_summedUp 240 = .ok (.if_icmp .ge 40, 3) := by decide +kernel
theorem dX12_summedUp_243 : decode cX12_summedUp 243 = .ok (.iinc 5 (-2), 3) := by decide +kernel
theorem dX12_summedUp_246 : decode cX12_summedUp 246 = .ok (.aload_n 0, 1) := by decide +kernel
theorem dX12_summedUp_247 : decode cX12_summedUp 247 = .ok (.getfield 39, 3) := by decide +kernel
theorem dX12_summedUp_250 : decode cX12_summedUp 250 = .ok (.iload 6, 2) := by decide +kernel
theorem dX12_summedUp_252 : decode cX12_summedUp 252 = .ok (.iload 8, 2) := by decide +kernel
theorem dX12_summedUp_254 : decode cX12_summedUp 254 = .ok (.aload_n 0, 1) := by decide +kernel
theorem dX12_summedUp_255 : decode cX12_summedUp 255 = .ok (.getfield 35, 3) := by decide +kernel
theorem dX12_summedUp_258 : decode cX12_summedUp 258 = .ok (.iload 5, 2) := by decide +kernel
theorem dX12_summedUp_260 : decode cX12_summedUp 260 = .ok (.laload, 1) := by decide +kernel
theorem dX12_summedUp_261 : decode cX12_summedUp 261 = .ok (.aload_n 0, 1) := by decide +kernel
theorem dX12_summedUp_262 : decode cX12_summedUp 262 = .ok (.getfield 35, 3) := by decide +kernel
theorem dX12_summedUp_265 : decode cX12_summedUp 265 = .ok (.iload 5, 2) := by decide +kernel
theorem dX12_summedUp_267 : decode cX12_summedUp 267 = .ok (.iconst 1, 1) := by decide +kernel
theorem dX12_summedUp_268 : decode cX12_summedUp 268 = .ok (.iadd, 1) := by decide +kernel
theorem dX12_summedUp_269 : decode cX12_summedUp 269 = .ok (.laload, 1) := by decide +kernel
theorem dX12_summedUp_270 : decode cX12_summedUp 270 = .ok (.invokestatic 301, 3) := by decide +kernel
theorem dX12_summedUp_273 : decode cX12_summedUp 273 = .ok (.bastore, 1) := by decide +kernel
theorem dX12_summedUp_274 : decode cX12_summedUp 274 = .ok (.iinc 6 1, 3) := by decide +kernel
theorem dX12_summedUp_277 : decode cX12_summedUp 277 = .ok (.goto 72, 3) := by decide +kernel
theorem dX12_summedUp_280 : decode cX12_summedUp 280 = .ok (.iload 8, 2) := by decide +kernel
theorem dX12_summedUp_282 : decode cX12_summedUp 282 = .ok (.bipush 20, 2) := by decide +kernel
theorem dX12_summedUp_284 : decode cX12_summedUp 284 = .ok (.if_icmp .ne 32, 3) := by decide +kernel
theorem dX12_summedUp_287 : decode cX12_summedUp 287 = .ok (.aload_n 0, 1) := by decide +kernel
theorem dX12_summedUp_288 : decode cX12_summedUp 288 = .ok (.getfield 39, 3) := by decide +kernel
theorem dX12_summedUp_291 : decode cX12_summedUp 291 = .ok (.iload 6, 2) := by decide +kernel
theorem dX12_summedUp_293 : decode cX12_summedUp 293 = .ok (.iconst 1, 1) := by decide +kernel
theorem dX12_summedUp_294 : decode cX12_summedUp 294 = .ok (.isub, 1) := by decide +kernel
theorem dX12_summedUp_295 : decode cX12_summedUp 295 = .ok (.aload_n 0, 1) := by decide +kernel
theorem dX12_summedUp_296 : decode cX12_summedUp 296 = .ok (.getfield 39, 3) := by decide +kernel
theorem dX12_summedUp_299 : decode cX12_summedUp 299 = .ok (.iload 6, 2) := by decide +kernel
theorem dX12_summedUp_301 : decode cX12_summedUp 301 = .ok (.iconst 1, 1) := by decide +kernel
theorem dX12_summedUp_302 : decode cX12_summedUp 302 = .ok (.isub, 1) := by decide +kernel
theorem dX12_summedUp_303 : decode cX12_summedUp 303 = .ok (.baload, 1) := by decide +kernel
theorem dX12_summedUp_304 : decode cX12_summedUp 304 = .ok (.ifCond .ne 7, 3) := by decide +kernel
theorem dX12_summedUp_307 : decode cX12_summedUp 307 = .ok (.iconst 1, 1) := by decide +kernel
theorem dX12_summedUp_308 : decode cX12_summedUp 308 = .ok (.goto 4, 3) := by decide +kernel
theorem dX12_summedUp_311 : decode cX12_summedUp 311 = .ok (.iconst 0, 1) := by decide +kernel
theorem dX12_summedUp_312 : decode cX12_summedUp 312 = .ok (.bastore, 1) := by decide +kernel
theorem dX12_summedUp_313 : decode cX12_summedUp 313 = .ok (.goto 36, 3) := by decide +kernel
theorem dX12_summedUp_316 : decode cX12_summedUp 316 = .ok (.iinc 6 (-1), 3) := by decide +kernel
theorem dX12_summedUp_319 : decode cX12_summedUp 319 = .ok (.aload_n 0, 1) := by decide +kernel
theorem dX12_summedUp_320 : decode cX12_summedUp 320 = .ok (.getfield 39, 3) := by decide +kernel
theorem dX12_summedUp_323 : decode cX12_summedUp 323 = .ok (.iload 6, 2) := by decide +kernel
theorem dX12_summedUp_325 : decode cX12_summedUp 325 = .ok (.iconst 1, 1) := by decide +kernel
theorem dX12_summedUp_326 : decode cX12_summedUp 326 = .ok (.isub, 1) := by decide +kernel
theorem dX12_summedUp_327 : decode cX12_summedUp 327 = .ok (.iload 8, 2) := by decide +kernel
theorem dX12_summedUp_329 : decode cX12_summedUp 329 = .ok (.aload_n 0, 1) := by decide +kernel
theorem dX12_summedUp_330 : decode cX12_summedUp 330 = .ok (.getfield 39, 3) := by decide +kernel
theorem dX12_summedUp_333 : decode cX12_summedUp 333 = .ok (.iload 6, 2) := by decide +kernel
theorem dX12_summedUp_335 : decode cX12_summedUp 335 = .ok (.iconst 1, 1) := by decide +kernel
theorem dX12_summedUp_336 : decode cX12_summedUp 336 = .ok (.isub, 1) := by decide +kernel
theorem dX12_summedUp_337 : decode cX12_summedUp 337 = .ok (.baload, 1) := by decide +kernel
theorem dX12_summedUp_338 : decode cX12_summedUp 338 = .ok (.aload_n 0, 1) := by decide +kernel
theorem dX12_summedUp_339 : decode cX12_summedUp 339 = .ok (.getfield 39, 3) := by decide +kernel
theorem dX12_summedUp_342 : decode cX12_summedUp 342 = .ok (.iload 6, 2) := by decide +kernel
theorem dX12_summedUp_344 : decode cX12_summedUp 344 = .ok (.baload, 1) := by decide +kernel
theorem dX12_summedUp_345 : decode cX12_summedUp 345 = .ok (.invokestatic 305, 3) := by decide +kernel
theorem dX12_summedUp_348 : decode cX12_summedUp 348 = .ok (.bastore, 1) := by decide +kernel
theorem dX12_summedUp_349 : decode cX12_summedUp 349 = .ok (.iinc 7 1, 3) := by decide +kernel
theorem dX12_summedUp_352 : decode cX12_summedUp 352 = .ok (.goto (-314), 3) := by decide +kernel
theorem dX12_summedUp_355 : decode cX12_summedUp 355 = .ok (.aload_n 0, 1) := by decide +kernel
theorem dX12_summedUp_356 : decode cX12_summedUp 356 = .ok (.getfield 35, 3) := by decide +kernel
theorem dX12_summedUp_359 : decode cX12_summedUp 359 = .ok (.iconst 0, 1) := by decide +kernel
theorem dX12_summedUp_360 : decode cX12_summedUp 360 = .ok (.laload, 1) := by decide +kernel
theorem dX12_summedUp_361 : decode cX12_summedUp 361 = .ok (.lreturn, 1) := by decide +kernel
def Md_summedUp_349 (k38 : Int32 → Int32 → Int32 → Int32 → Int32 → Nm → Option (Int64 × Nm)) (x3 : Int32) (x4 : Int32) (x5 : Int32) (x6 : Int32) (x7 : Int32) (ν : Nm) : Option (Int64 × Nm) :=
  k38 x3 x4 x5 x6 (x7 + (1 : Int32)) ν
set_option maxRecDepth 100000 in
set_option maxHeartbeats 4000000 in
theorem t_Md_summedUp_349 {g : GG} {d : Nat} (hd0 : 5 ≤ d) {k38 : Int32 → Int32 → Int32 → Int32 → Int32 → Nm → Option (Int64 × Nm)} (hk38 : ∀ (x3 : Int32) (x4 : Int32) (x5 : Int32) (x6 : Int32) (x7 : Int32) (ν : Nm) (r : (Int64 × Nm)), k38 x3 x4 x5 x6 x7 ν = some r → Z g d (0, 0) mX12_summedUp 333 0 0 38 [(0, .ref 313), (3, .int x3), (4, .int x4), (5, .int x5), (6, .int x6), (7, .int x7)] [] (zem ν) (zF g (some (.long r.1), zem r.2))) : ∀ (x3 : Int32) (x4 : Int32) (x5 : Int32) (x6 : Int32) (x7 : Int32) (ν : Nm) (r : (Int64 × Nm)), Md_summedUp_349 k38 x3 x4 x5 x6 x7 ν = some r → Z g d (0, 0) mX12_summedUp 333 0 0 349 [(0, .ref 313), (3, .int x3), (4, .int x4), (5, .int x5), (6, .int x6), (7, .int x7)] [] (zem ν) (zF g (some (.long r.1), zem r.2)) := by
  intro x3 x4 x5 x6 x7 ν r h
  unfold Md_summedUp_349 at h
  refine z_iinc (M := mX12_summedUp) (v := (x7 + (1 : Int32))) (lv2 := [(7, .int (x7 + (1 : Int32))), (0, .ref 313), (3, .int x3), (4, .int x4), (5, .int x5), (6, .int x6)]) dX12_summedUp_349 5 rfl rfl (Nat.le_of_ble_eq_true rfl) rfl ?_
  refine z_goto 38 dX12_summedUp_352 rfl ?_
  refine z_lv (lv2 := [(0, .ref 313), (3, .int x3), (4, .int x4), (5, .int x5), (6, .int x6), (7, .int (x7 + (1 : Int32)))]) [1, 2, 3, 4, 5, 0] rfl ?_
  exact hk38 x3 x4 x5 x6 (x7 + (1 : Int32)) ν _ h
def Md_summedUp_112 (k38 : Int32 → Int32 → Int32 → Int32 → Int32 → Nm → Option (Int64 × Nm)) (x3 : Int32) (x4 : Int32) (x5 : Int32) (x6 : Int32) (x7 : Int32) (s0 : Int64) (s1 : Int32) (ν : Nm) : Option (Int64 × Nm) :=
  if inb s1 330 then
  Md_summedUp_349 k38 x3 x4 (x5 + (1 : Int32)) x6 x7 (sl ν 320 s1.toNatClampNeg s0)
  else none
set_option maxRecDepth 100000 in
set_option maxHeartbeats 4000000 in
theorem t_Md_summedUp_112 {g : GG} {d : Nat} (hd0 : 5 ≤ d) {k38 : Int32 → Int32 → Int32 → Int32 → Int32 → Nm → Option (Int64 × Nm)} (hk38 : ∀ (x3 : Int32) (x4 : Int32) (x5 : Int32) (x6 : Int32) (x7 : Int32) (ν : Nm) (r : (Int64 × Nm)), k38 x3 x4 x5 x6 x7 ν = some r → Z g d (0, 0) mX12_summedUp 333 0 0 38 [(0, .ref 313), (3, .int x3), (4, .int x4), (5, .int x5), (6, .int x6), (7, .int x7)] [] (zem ν) (zF g (some (.long r.1), zem r.2))) : ∀ (x3 : Int32) (x4 : Int32) (x5 : Int32) (x6 : Int32) (x7 : Int32) (s0 : Int64) (s1 : Int32) (ν : Nm) (r : (Int64 × Nm)), Md_summedUp_112 k38 x3 x4 x5 x6 x7 s0 s1 ν = some r → Z g d (0, 0) mX12_summedUp 333 0 0 112 [(0, .ref 313), (3, .int x3), (4, .int x4), (5, .int x5), (6, .int x6), (7, .int x7)] [.long s0, .int s1, .ref 320] (zem ν) (zF g (some (.long r.1), zem r.2)) := by
  intro x3 x4 x5 x6 x7 s0 s1 ν r h
  unfold Md_summedUp_112 at h
  obtain ⟨hi1, h⟩ := oif h
  refine y_last (M := mX12_summedUp) (jj := s1.toNatClampNeg) dX12_summedUp_112 zk_320 hi1 rfl ?_
  refine z_iinc (M := mX12_summedUp) (v := (x5 + (1 : Int32))) (lv2 := [(5, .int (x5 + (1 : Int32))), (0, .ref 313), (3, .int x3), (4, .int x4), (6, .int x6), (7, .int x7)]) dX12_summedUp_113 3 rfl rfl (Nat.le_of_ble_eq_true rfl) rfl ?_
  refine z_goto 349 dX12_summedUp_116 rfl ?_
  refine z_lv (lv2 := [(0, .ref 313), (3, .int x3), (4, .int x4), (5, .int (x5 + (1 : Int32))), (6, .int x6), (7, .int x7)]) [1, 2, 3, 0, 4, 5] rfl ?_
  exact t_Md_summedUp_349 hd0 hk38 x3 x4 (x5 + (1 : Int32)) x6 x7 (sl ν 320 s1.toNatClampNeg s0) _ h
def Md_summedUp_312 (k38 : Int32 → Int32 → Int32 → Int32 → Int32 → Nm → Option (Int64 × Nm)) (x3 : Int32) (x4 : Int32) (x5 : Int32) (x6 : Int32) (x7 : Int32) (s0 : Int32) (s1 : Int32) (ν : Nm) : Option (Int64 × Nm) :=
  if inb s1 330 then
  if zbo s0 then
  Md_summedUp_349 k38 x3 x4 x5 x6 x7 (si ν 321 s1.toNatClampNeg s0)
  else none
  else none
set_option maxRecDepth 100000 in
set_option maxHeartbeats 4000000 in
theorem t_Md_summedUp_312 {g : GG} {d : Nat} (hd0 : 5 ≤ d) {k38 : Int32 → Int32 → Int32 → Int32 → Int32 → Nm → Option (Int64 × Nm)} (hk38 : ∀ (x3 : Int32) (x4 : Int32) (x5 : Int32) (x6 : Int32) (x7 : Int32) (ν : Nm) (r : (Int64 × Nm)), k38 x3 x4 x5 x6 x7 ν = some r → Z g d (0, 0) mX12_summedUp 333 0 0 38 [(0, .ref 313), (3, .int x3), (4, .int x4), (5, .int x5), (6, .int x6), (7, .int x7)] [] (zem ν) (zF g (some (.long r.1), zem r.2))) : ∀ (x3 : Int32) (x4 : Int32) (x5 : Int32) (x6 : Int32) (x7 : Int32) (s0 : Int32) (s1 : Int32) (ν : Nm) (r : (Int64 × Nm)), Md_summedUp_312 k38 x3 x4 x5 x6 x7 s0 s1 ν = some r → Z g d (0, 0) mX12_summedUp 333 0 0 312 [(0, .ref 313), (3, .int x3), (4, .int x4), (5, .int x5), (6, .int x6), (7, .int x7)] [.int s0, .int s1, .ref 321] (zem ν) (zF g (some (.long r.1), zem r.2)) := by
  intro x3 x4 x5 x6 x7 s0 s1 ν r h
  unfold Md_summedUp_312 at h
  obtain ⟨hi1, h⟩ := oif h
  obtain ⟨hy2, h⟩ := oif h
  refine y_zast (M := mX12_summedUp) (jj := s1.toNatClampNeg) dX12_summedUp_312 zk_321 hi1 rfl (zbo_nar hy2) ?_
  refine z_goto 349 dX12_summedUp_313 rfl ?_
  exact t_Md_summedUp_349 hd0 hk38 x3 x4 x5 x6 x7 (si ν 321 s1.toNatClampNeg s0) _ h
def Md_summedUp_38 : Nat → Int32 → Int32 → Int32 → Int32 → Int32 → Nm → Option (Int64 × Nm)
  | 0, _, _, _, _, _, _ => none
  | f + 1, x3, x4, x5, x6, x7, ν =>
    if inb (x3 + (2 : Int32)) 2724 then
    (if (gi ν 316 (x3 + (2 : Int32)).toNatClampNeg) ≤ x7 then
      some ((gl ν 320 0), ν)
    else
      if inb (x4 + ((2 : Int32) * x7)) 2724 then
      if inb ((x4 + ((2 : Int32) * x7)) + (1 : Int32)) 2724 then
      (if (1 : Int32) < (gi ν 316 (x4 + ((2 : Int32) * x7)).toNatClampNeg) then
        (if ¬ (gi ν 316 (x4 + ((2 : Int32) * x7)).toNatClampNeg) = (3 : Int32) then
          (if (5 : Int32) < (gi ν 316 (x4 + ((2 : Int32) * x7)).toNatClampNeg) then
            (if (10 : Int32) ≤ (gi ν 316 (x4 + ((2 : Int32) * x7)).toNatClampNeg) then
              (if (20 : Int32) ≤ (gi ν 316 (x4 + ((2 : Int32) * x7)).toNatClampNeg) then
                (if ¬ (gi ν 316 (x4 + ((2 : Int32) * x7)).toNatClampNeg) = (20 : Int32) then
                  if inb ((x6 + (-1 : Int32)) - (1 : Int32)) 330 then
                  if inb (x6 + (-1 : Int32)) 330 then
                  (Md_joined (gi ν 316 (x4 + ((2 : Int32) * x7)).toNatClampNeg) (gi ν 321 ((x6 + (-1 : Int32)) - (1 : Int32)).toNatClampNeg) (gi ν 321 (x6 + (-1 : Int32)).toNatClampNeg)).bind fun v13 =>
                  if inb ((x6 + (-1 : Int32)) - (1 : Int32)) 330 then
                  Md_summedUp_349 (Md_summedUp_38 f) x3 x4 x5 (x6 + (-1 : Int32)) x7 (si ν 321 ((x6 + (-1 : Int32)) - (1 : Int32)).toNatClampNeg (b2i v13))
                  else none
                  else none
                  else none
                else
                  if inb (x6 - (1 : Int32)) 330 then
                  (if ¬ (gi ν 321 (x6 - (1 : Int32)).toNatClampNeg) = 0 then
                    Md_summedUp_312 (Md_summedUp_38 f) x3 x4 x5 x6 x7 (0 : Int32) (x6 - (1 : Int32)) ν
                  else
                    Md_summedUp_312 (Md_summedUp_38 f) x3 x4 x5 x6 x7 (1 : Int32) (x6 - (1 : Int32)) ν)
                  else none)
              else
                if inb (x5 + (-2 : Int32)) 330 then
                if inb ((x5 + (-2 : Int32)) + (1 : Int32)) 330 then
                (Md_isAsked (gi ν 316 (x4 + ((2 : Int32) * x7)).toNatClampNeg) (gl ν 320 (x5 + (-2 : Int32)).toNatClampNeg) (gl ν 320 ((x5 + (-2 : Int32)) + (1 : Int32)).toNatClampNeg)).bind fun v19 =>
                if inb x6 330 then
                Md_summedUp_349 (Md_summedUp_38 f) x3 x4 (x5 + (-2 : Int32)) (x6 + (1 : Int32)) x7 (si ν 321 x6.toNatClampNeg (b2i v19))
                else none
                else none
                else none)
            else
              if inb ((x5 + (-1 : Int32)) - (1 : Int32)) 330 then
              if inb (x5 + (-1 : Int32)) 330 then
              (Md_two (gi ν 316 (x4 + ((2 : Int32) * x7)).toNatClampNeg) (gl ν 320 ((x5 + (-1 : Int32)) - (1 : Int32)).toNatClampNeg) (gl ν 320 (x5 + (-1 : Int32)).toNatClampNeg)).bind fun v23 =>
              if inb ((x5 + (-1 : Int32)) - (1 : Int32)) 330 then
              Md_summedUp_349 (Md_summedUp_38 f) x3 x4 (x5 + (-1 : Int32)) x6 x7 (sl ν 320 ((x5 + (-1 : Int32)) - (1 : Int32)).toNatClampNeg v23)
              else none
              else none
              else none)
          else
            if inb (x5 - (1 : Int32)) 330 then
            (Md_ofOne ν (gi ν 316 (x4 + ((2 : Int32) * x7)).toNatClampNeg) (gl ν 320 (x5 - (1 : Int32)).toNatClampNeg)).bind fun v26 =>
            if inb (x5 - (1 : Int32)) 330 then
            Md_summedUp_349 (Md_summedUp_38 f) x3 x4 x5 x6 x7 (sl ν 320 (x5 - (1 : Int32)).toNatClampNeg v26)
            else none
            else none)
        else
          if inb (x6 + (-1 : Int32)) 330 then
          (if ¬ (gi ν 321 (x6 + (-1 : Int32)).toNatClampNeg) = 0 then
            Md_summedUp_349 (Md_summedUp_38 f) x3 x4 (x5 + (-1 : Int32)) (x6 + (-1 : Int32)) x7 ν
          else
            if inb (x5 + (-1 : Int32)) 330 then
            if inb ((x5 + (-1 : Int32)) - (1 : Int32)) 330 then
            Md_summedUp_349 (Md_summedUp_38 f) x3 x4 (x5 + (-1 : Int32)) (x6 + (-1 : Int32)) x7 (sl ν 320 ((x5 + (-1 : Int32)) - (1 : Int32)).toNatClampNeg (gl ν 320 (x5 + (-1 : Int32)).toNatClampNeg))
            else none
            else none)
          else none)
      else
        (if ¬ (gi ν 316 (x4 + ((2 : Int32) * x7)).toNatClampNeg) = 0 then
          if inb (gi ν 316 ((x4 + ((2 : Int32) * x7)) + (1 : Int32)).toNatClampNeg) 7 then
          Md_summedUp_112 (Md_summedUp_38 f) x3 x4 x5 x6 x7 (gi ν 319 (gi ν 316 ((x4 + ((2 : Int32) * x7)) + (1 : Int32)).toNatClampNeg).toNatClampNeg).toInt64 x5 ν
          else none
        else
          Md_summedUp_112 (Md_summedUp_38 f) x3 x4 x5 x6 x7 (gi ν 316 ((x4 + ((2 : Int32) * x7)) + (1 : Int32)).toNatClampNeg).toInt64 x5 ν))
      else none
      else none)
    else none
set_option maxRecDepth 100000 in
set_option maxHeartbeats 4000000 in
theorem t_Md_summedUp_38 {g : GG} {d : Nat} (hd0 : 5 ≤ d) : ∀ (f : Nat), ∀ (x3 : Int32) (x4 : Int32) (x5 : Int32) (x6 : Int32) (x7 : Int32) (ν : Nm) (r : (Int64 × Nm)), Md_summedUp_38 f x3 x4 x5 x6 x7 ν = some r → Z g d (0, 0) mX12_summedUp 333 0 0 38 [(0, .ref 313), (3, .int x3), (4, .int x4), (5, .int x5), (6, .int x6), (7, .int x7)] [] (zem ν) (zF g (some (.long r.1), zem r.2)) := by
  intro f
  induction f with
  | zero =>
    intro x3 x4 x5 x6 x7 ν r h
    cases h
  | succ f ih =>
    intro x3 x4 x5 x6 x7 ν r h
    rw [Md_summedUp_38] at h
    refine z_iload dX12_summedUp_38 5 rfl ?_
    refine z_aload_n dX12_summedUp_40 0 rfl ?_
    refine y_getR (M := mX12_summedUp) (r := 316) dX12_summedUp_41 zk_313 flRX12_16 fr_10_2.1 (fr_10_2.2 _) ?_
    refine z_iload_n dX12_summedUp_44 1 rfl ?_
    refine z_iconst (M := mX12_summedUp) (v := 2) dX12_summedUp_45 rfl ?_
    refine z_iadd dX12_summedUp_46 ?_
    obtain ⟨hi1, h⟩ := oif h
    refine y_iald (M := mX12_summedUp) (jj := (x3 + (2 : Int32)).toNatClampNeg) dX12_summedUp_47 zk_316 hi1 rfl ?_
    refine z_icmp_ge 355 dX12_summedUp_48 rfl (fun hc2 => ?_) (fun hc2 => ?_)
    · replace h := oT hc2 h
      refine z_aload_n dX12_summedUp_355 0 rfl ?_
      refine y_getR (M := mX12_summedUp) (r := 320) dX12_summedUp_356 zk_313 flRX12_35 fr_10_21.1 (fr_10_21.2 _) ?_
      refine z_iconst (M := mX12_summedUp) (v := 0) dX12_summedUp_359 rfl ?_
      refine y_lald (M := mX12_summedUp) (jj := 0) dX12_summedUp_360 zk_320 rfl rfl ?_
      cases h
      exact z_lret dX12_summedUp_361 rfl
    · replace h := oF hc2 h
      refine z_aload_n dX12_summedUp_51 0 rfl ?_
      refine y_getR (M := mX12_summedUp) (r := 316) dX12_summedUp_52 zk_313 flRX12_16 fr_10_2.1 (fr_10_2.2 _) ?_
      refine z_iload dX12_summedUp_55 2 rfl ?_
      refine z_iconst (M := mX12_summedUp) (v := 2) dX12_summedUp_57 rfl ?_
      refine z_iload dX12_summedUp_58 5 rfl ?_
      refine z_imul dX12_summedUp_60 ?_
      refine z_iadd dX12_summedUp_61 ?_
      obtain ⟨hi3, h⟩ := oif h
      refine y_iald (M := mX12_summedUp) (jj := (x4 + ((2 : Int32) * x7)).toNatClampNeg) dX12_summedUp_62 zk_316 hi3 rfl ?_
      refine z_istore (M := mX12_summedUp) (lv2 := [(8, .int (gi ν 316 (x4 + ((2 : Int32) * x7)).toNatClampNeg)), (0, .ref 313), (3, .int x3), (4, .int x4), (5, .int x5), (6, .int x6), (7, .int x7)]) dX12_summedUp_63 (Nat.le_of_ble_eq_true rfl) rfl ?_
      refine z_aload_n dX12_summedUp_65 1 rfl ?_
      refine y_getR (M := mX12_summedUp) (r := 316) dX12_summedUp_66 zk_313 flRX12_16 fr_10_2.1 (fr_10_2.2 _) ?_
      refine z_iload dX12_summedUp_69 3 rfl ?_
      refine z_iconst (M := mX12_summedUp) (v := 2) dX12_summedUp_71 rfl ?_
      refine z_iload dX12_summedUp_72 6 rfl ?_
      refine z_imul dX12_summedUp_74 ?_
      refine z_iadd dX12_summedUp_75 ?_
      refine z_iconst (M := mX12_summedUp) (v := 1) dX12_summedUp_76 rfl ?_
      refine z_iadd dX12_summedUp_77 ?_
      obtain ⟨hi4, h⟩ := oif h
      refine y_iald (M := mX12_summedUp) (jj := ((x4 + ((2 : Int32) * x7)) + (1 : Int32)).toNatClampNeg) dX12_summedUp_78 zk_316 hi4 rfl ?_
      refine z_istore (M := mX12_summedUp) (lv2 := [(9, .int (gi ν 316 ((x4 + ((2 : Int32) * x7)) + (1 : Int32)).toNatClampNeg)), (8, .int (gi ν 316 (x4 + ((2 : Int32) * x7)).toNatClampNeg)), (0, .ref 313), (3, .int x3), (4, .int x4), (5, .int x5), (6, .int x6), (7, .int x7)]) dX12_summedUp_79 (Nat.le_of_ble_eq_true rfl) rfl ?_
      refine z_iload dX12_summedUp_81 1 rfl ?_
      refine z_iconst (M := mX12_summedUp) (v := 1) dX12_summedUp_83 rfl ?_
      refine z_icmp_gt 119 dX12_summedUp_84 rfl (fun hc5 => ?_) (fun hc5 => ?_)
      · replace h := oT hc5 h
        refine z_iload dX12_summedUp_119 1 rfl ?_
        refine z_iconst (M := mX12_summedUp) (v := 3) dX12_summedUp_121 rfl ?_
        refine z_icmp_ne 160 dX12_summedUp_122 rfl (fun hc6 => ?_) (fun hc6 => ?_)
        · replace h := oT hc6 h
          refine z_iload dX12_summedUp_160 1 rfl ?_
          refine z_iconst (M := mX12_summedUp) (v := 5) dX12_summedUp_162 rfl ?_
          refine z_icmp_gt 193 dX12_summedUp_163 rfl (fun hc7 => ?_) (fun hc7 => ?_)
          · replace h := oT hc7 h
            refine z_iload dX12_summedUp_193 1 rfl ?_
            refine z_bipush (M := mX12_summedUp) (v := 10) dX12_summedUp_195 rfl ?_
            refine z_icmp_ge 236 dX12_summedUp_197 rfl (fun hc8 => ?_) (fun hc8 => ?_)
            · replace h := oT hc8 h
              refine z_iload dX12_summedUp_236 1 rfl ?_
              refine z_bipush (M := mX12_summedUp) (v := 20) dX12_summedUp_238 rfl ?_
              refine z_icmp_ge 280 dX12_summedUp_240 rfl (fun hc9 => ?_) (fun hc9 => ?_)
              · replace h := oT hc9 h
                refine z_iload dX12_summedUp_280 1 rfl ?_
                refine z_bipush (M := mX12_summedUp) (v := 20) dX12_summedUp_282 rfl ?_
                refine z_icmp_ne 316 dX12_summedUp_284 rfl (fun hc10 => ?_) (fun hc10 => ?_)
                · replace h := oT hc10 h
                  refine z_iinc (M := mX12_summedUp) (v := (x6 + (-1 : Int32))) (lv2 := [(6, .int (x6 + (-1 : Int32))), (9, .int (gi ν 316 ((x4 + ((2 : Int32) * x7)) + (1 : Int32)).toNatClampNeg)), (8, .int (gi ν 316 (x4 + ((2 : Int32) * x7)).toNatClampNeg)), (0, .ref 313), (3, .int x3), (4, .int x4), (5, .int x5), (7, .int x7)]) dX12_summedUp_316 6 rfl rfl (Nat.le_of_ble_eq_true rfl) rfl ?_
                  refine z_aload_n dX12_summedUp_319 3 rfl ?_
                  refine y_getR (M := mX12_summedUp) (r := 321) dX12_summedUp_320 zk_313 flRX12_39 fr_10_22.1 (fr_10_22.2 _) ?_
                  refine z_iload dX12_summedUp_323 0 rfl ?_
                  refine z_iconst (M := mX12_summedUp) (v := 1) dX12_summedUp_325 rfl ?_
                  refine z_isub dX12_summedUp_326 ?_
                  refine z_iload dX12_summedUp_327 2 rfl ?_
                  refine z_aload_n dX12_summedUp_329 3 rfl ?_
                  refine y_getR (M := mX12_summedUp) (r := 321) dX12_summedUp_330 zk_313 flRX12_39 fr_10_22.1 (fr_10_22.2 _) ?_
                  refine z_iload dX12_summedUp_333 0 rfl ?_
                  refine z_iconst (M := mX12_summedUp) (v := 1) dX12_summedUp_335 rfl ?_
                  refine z_isub dX12_summedUp_336 ?_
                  obtain ⟨hi11, h⟩ := oif h
                  refine y_zald (M := mX12_summedUp) (jj := ((x6 + (-1 : Int32)) - (1 : Int32)).toNatClampNeg) dX12_summedUp_337 zk_321 hi11 rfl ?_
                  refine z_aload_n dX12_summedUp_338 3 rfl ?_
                  refine y_getR (M := mX12_summedUp) (r := 321) dX12_summedUp_339 zk_313 flRX12_39 fr_10_22.1 (fr_10_22.2 _) ?_
                  refine z_iload dX12_summedUp_342 0 rfl ?_
                  obtain ⟨hi12, h⟩ := oif h
                  refine y_zald (M := mX12_summedUp) (jj := (x6 + (-1 : Int32)).toNatClampNeg) dX12_summedUp_344 zk_321 hi12 rfl ?_
                  obtain ⟨v13, he13, h⟩ := obind h
                  refine y_Si (M := mX12_summedUp) (Y := mX12_joined) (d2 := d - 1) (As := [.int (gi ν 316 (x4 + ((2 : Int32) * x7)).toNatClampNeg), .int (gi ν 321 ((x6 + (-1 : Int32)) - (1 : Int32)).toNatClampNeg), .int (gi ν 321 (x6 + (-1 : Int32)).toNatClampNeg)]) (st := [.int ((x6 + (-1 : Int32)) - (1 : Int32)), .ref 321]) dX12_summedUp_345 mlRX12_305 cv_X12_joined (ct_Md_joined (dle (Nat.le_of_ble_eq_true rfl) hd0) he13) (dps (Nat.le_of_ble_eq_true rfl) hd0) rfl rfl (Nat.le_of_ble_eq_true rfl) ?_
                  obtain ⟨hi14, h⟩ := oif h
                  refine y_zast (M := mX12_summedUp) (jj := ((x6 + (-1 : Int32)) - (1 : Int32)).toNatClampNeg) dX12_summedUp_348 zk_321 hi14 rfl (vnar_b2i _) ?_
                  refine z_lv (lv2 := [(0, .ref 313), (3, .int x3), (4, .int x4), (5, .int x5), (6, .int (x6 + (-1 : Int32))), (7, .int x7)]) [3, 4, 5, 6, 0, 7] rfl ?_
                  exact t_Md_summedUp_349 hd0 ih x3 x4 x5 (x6 + (-1 : Int32)) x7 (si ν 321 ((x6 + (-1 : Int32)) - (1 : Int32)).toNatClampNeg (b2i v13)) _ h
                · replace h := oFn hc10 h
                  refine z_aload_n dX12_summedUp_287 2 rfl ?_
                  refine y_getR (M := mX12_summedUp) (r := 321) dX12_summedUp_288 zk_313 flRX12_39 fr_10_22.1 (fr_10_22.2 _) ?_
                  refine z_iload dX12_summedUp_291 6 rfl ?_
                  refine z_iconst (M := mX12_summedUp) (v := 1) dX12_summedUp_293 rfl ?_
                  refine z_isub dX12_summedUp_294 ?_
                  refine z_aload_n dX12_summedUp_295 2 rfl ?_
                  refine y_getR (M := mX12_summedUp) (r := 321) dX12_summedUp_296 zk_313 flRX12_39 fr_10_22.1 (fr_10_22.2 _) ?_
                  refine z_iload dX12_summedUp_299 6 rfl ?_
                  refine z_iconst (M := mX12_summedUp) (v := 1) dX12_summedUp_301 rfl ?_
                  refine z_isub dX12_summedUp_302 ?_
                  obtain ⟨hi15, h⟩ := oif h
                  refine y_zald (M := mX12_summedUp) (jj := (x6 - (1 : Int32)).toNatClampNeg) dX12_summedUp_303 zk_321 hi15 rfl ?_
                  refine z_if_ne 311 dX12_summedUp_304 rfl (fun hc16 => ?_) (fun hc16 => ?_)
                  · replace h := oT hc16 h
                    refine z_iconst (M := mX12_summedUp) (v := 0) dX12_summedUp_311 rfl ?_
                    refine z_lv (lv2 := [(0, .ref 313), (3, .int x3), (4, .int x4), (5, .int x5), (6, .int x6), (7, .int x7)]) [2, 3, 4, 5, 6, 7] rfl ?_
                    exact t_Md_summedUp_312 hd0 ih x3 x4 x5 x6 x7 (0 : Int32) (x6 - (1 : Int32)) ν _ h
                  · replace h := oFn hc16 h
                    refine z_iconst (M := mX12_summedUp) (v := 1) dX12_summedUp_307 rfl ?_
                    refine z_goto 312 dX12_summedUp_308 rfl ?_
                    refine z_lv (lv2 := [(0, .ref 313), (3, .int x3), (4, .int x4), (5, .int x5), (6, .int x6), (7, .int x7)]) [2, 3, 4, 5, 6, 7] rfl ?_
                    exact t_Md_summedUp_312 hd0 ih x3 x4 x5 x6 x7 (1 : Int32) (x6 - (1 : Int32)) ν _ h
              · replace h := oF hc9 h
                refine z_iinc (M := mX12_summedUp) (v := (x5 + (-2 : Int32))) (lv2 := [(5, .int (x5 + (-2 : Int32))), (9, .int (gi ν 316 ((x4 + ((2 : Int32) * x7)) + (1 : Int32)).toNatClampNeg)), (8, .int (gi ν 316 (x4 + ((2 : Int32) * x7)).toNatClampNeg)), (0, .ref 313), (3, .int x3), (4, .int x4), (6, .int x6), (7, .int x7)]) dX12_summedUp_243 5 rfl rfl (Nat.le_of_ble_eq_true rfl) rfl ?_
                refine z_aload_n dX12_summedUp_246 3 rfl ?_
                refine y_getR (M := mX12_summedUp) (r := 321) dX12_summedUp_247 zk_313 flRX12_39 fr_10_22.1 (fr_10_22.2 _) ?_
                refine z_iload dX12_summedUp_250 6 rfl ?_
                refine z_iload dX12_summedUp_252 2 rfl ?_
                refine z_aload_n dX12_summedUp_254 3 rfl ?_
                refine y_getR (M := mX12_summedUp) (r := 320) dX12_summedUp_255 zk_313 flRX12_35 fr_10_21.1 (fr_10_21.2 _) ?_
                refine z_iload dX12_summedUp_258 0 rfl ?_
                obtain ⟨hi17, h⟩ := oif h
                refine y_lald (M := mX12_summedUp) (jj := (x5 + (-2 : Int32)).toNatClampNeg) dX12_summedUp_260 zk_320 hi17 rfl ?_
                refine z_aload_n dX12_summedUp_261 3 rfl ?_
                refine y_getR (M := mX12_summedUp) (r := 320) dX12_summedUp_262 zk_313 flRX12_35 fr_10_21.1 (fr_10_21.2 _) ?_
                refine z_iload dX12_summedUp_265 0 rfl ?_
                refine z_iconst (M := mX12_summedUp) (v := 1) dX12_summedUp_267 rfl ?_
                refine z_iadd dX12_summedUp_268 ?_
                obtain ⟨hi18, h⟩ := oif h
                refine y_lald (M := mX12_summedUp) (jj := ((x5 + (-2 : Int32)) + (1 : Int32)).toNatClampNeg) dX12_summedUp_269 zk_320 hi18 rfl ?_
                obtain ⟨v19, he19, h⟩ := obind h
                refine y_Si (M := mX12_summedUp) (Y := mX12_isAsked) (d2 := d - 1) (As := [.int (gi ν 316 (x4 + ((2 : Int32) * x7)).toNatClampNeg), .long (gl ν 320 (x5 + (-2 : Int32)).toNatClampNeg), .long (gl ν 320 ((x5 + (-2 : Int32)) + (1 : Int32)).toNatClampNeg)]) (st := [.int x6, .ref 321]) dX12_summedUp_270 mlRX12_301 cv_X12_isAsked (ct_Md_isAsked (dle (Nat.le_of_ble_eq_true rfl) hd0) he19) (dps (Nat.le_of_ble_eq_true rfl) hd0) rfl rfl (Nat.le_of_ble_eq_true rfl) ?_
                obtain ⟨hi20, h⟩ := oif h
                refine y_zast (M := mX12_summedUp) (jj := x6.toNatClampNeg) dX12_summedUp_273 zk_321 hi20 rfl (vnar_b2i _) ?_
                refine z_iinc (M := mX12_summedUp) (v := (x6 + (1 : Int32))) (lv2 := [(6, .int (x6 + (1 : Int32))), (5, .int (x5 + (-2 : Int32))), (9, .int (gi ν 316 ((x4 + ((2 : Int32) * x7)) + (1 : Int32)).toNatClampNeg)), (8, .int (gi ν 316 (x4 + ((2 : Int32) * x7)).toNatClampNeg)), (0, .ref 313), (3, .int x3), (4, .int x4), (7, .int x7)]) dX12_summedUp_274 6 rfl rfl (Nat.le_of_ble_eq_true rfl) rfl ?_
                refine z_goto 349 dX12_summedUp_277 rfl ?_
                refine z_lv (lv2 := [(0, .ref 313), (3, .int x3), (4, .int x4), (5, .int (x5 + (-2 : Int32))), (6, .int (x6 + (1 : Int32))), (7, .int x7)]) [4, 5, 6, 1, 0, 7] rfl ?_
                exact t_Md_summedUp_349 hd0 ih x3 x4 (x5 + (-2 : Int32)) (x6 + (1 : Int32)) x7 (si ν 321 x6.toNatClampNeg (b2i v19)) _ h
            · replace h := oF hc8 h
              refine z_iinc (M := mX12_summedUp) (v := (x5 + (-1 : Int32))) (lv2 := [(5, .int (x5 + (-1 : Int32))), (9, .int (gi ν 316 ((x4 + ((2 : Int32) * x7)) + (1 : Int32)).toNatClampNeg)), (8, .int (gi ν 316 (x4 + ((2 : Int32) * x7)).toNatClampNeg)), (0, .ref 313), (3, .int x3), (4, .int x4), (6, .int x6), (7, .int x7)]) dX12_summedUp_200 5 rfl rfl (Nat.le_of_ble_eq_true rfl) rfl ?_
              refine z_aload_n dX12_summedUp_203 3 rfl ?_
              refine y_getR (M := mX12_summedUp) (r := 320) dX12_summedUp_204 zk_313 flRX12_35 fr_10_21.1 (fr_10_21.2 _) ?_
              refine z_iload dX12_summedUp_207 0 rfl ?_
              refine z_iconst (M := mX12_summedUp) (v := 1) dX12_summedUp_209 rfl ?_
              refine z_isub dX12_summedUp_210 ?_
              refine z_iload dX12_summedUp_211 2 rfl ?_
              refine z_aload_n dX12_summedUp_213 3 rfl ?_
              refine y_getR (M := mX12_summedUp) (r := 320) dX12_summedUp_214 zk_313 flRX12_35 fr_10_21.1 (fr_10_21.2 _) ?_
              refine z_iload dX12_summedUp_217 0 rfl ?_
              refine z_iconst (M := mX12_summedUp) (v := 1) dX12_summedUp_219 rfl ?_
              refine z_isub dX12_summedUp_220 ?_
              obtain ⟨hi21, h⟩ := oif h
              refine y_lald (M := mX12_summedUp) (jj := ((x5 + (-1 : Int32)) - (1 : Int32)).toNatClampNeg) dX12_summedUp_221 zk_320 hi21 rfl ?_
              refine z_aload_n dX12_summedUp_222 3 rfl ?_
              refine y_getR (M := mX12_summedUp) (r := 320) dX12_summedUp_223 zk_313 flRX12_35 fr_10_21.1 (fr_10_21.2 _) ?_
              refine z_iload dX12_summedUp_226 0 rfl ?_
              obtain ⟨hi22, h⟩ := oif h
              refine y_lald (M := mX12_summedUp) (jj := (x5 + (-1 : Int32)).toNatClampNeg) dX12_summedUp_228 zk_320 hi22 rfl ?_
              obtain ⟨v23, he23, h⟩ := obind h
              refine y_Sl (M := mX12_summedUp) (Y := mX12_two) (d2 := d - 1) (As := [.int (gi ν 316 (x4 + ((2 : Int32) * x7)).toNatClampNeg), .long (gl ν 320 ((x5 + (-1 : Int32)) - (1 : Int32)).toNatClampNeg), .long (gl ν 320 (x5 + (-1 : Int32)).toNatClampNeg)]) (st := [.int ((x5 + (-1 : Int32)) - (1 : Int32)), .ref 320]) dX12_summedUp_229 mlRX12_297 cv_X12_two (ct_Md_two (dle (Nat.le_of_ble_eq_true rfl) hd0) he23) (dps (Nat.le_of_ble_eq_true rfl) hd0) rfl rfl (Nat.le_of_ble_eq_true rfl) ?_
              obtain ⟨hi24, h⟩ := oif h
              refine y_last (M := mX12_summedUp) (jj := ((x5 + (-1 : Int32)) - (1 : Int32)).toNatClampNeg) dX12_summedUp_232 zk_320 hi24 rfl ?_
              refine z_goto 349 dX12_summedUp_233 rfl ?_
              refine z_lv (lv2 := [(0, .ref 313), (3, .int x3), (4, .int x4), (5, .int (x5 + (-1 : Int32))), (6, .int x6), (7, .int x7)]) [3, 4, 5, 0, 6, 7] rfl ?_
              exact t_Md_summedUp_349 hd0 ih x3 x4 (x5 + (-1 : Int32)) x6 x7 (sl ν 320 ((x5 + (-1 : Int32)) - (1 : Int32)).toNatClampNeg v23) _ h
          · replace h := oF hc7 h
            refine z_aload_n dX12_summedUp_166 2 rfl ?_
            refine y_getR (M := mX12_summedUp) (r := 320) dX12_summedUp_167 zk_313 flRX12_35 fr_10_21.1 (fr_10_21.2 _) ?_
            refine z_iload dX12_summedUp_170 5 rfl ?_
            refine z_iconst (M := mX12_summedUp) (v := 1) dX12_summedUp_172 rfl ?_
            refine z_isub dX12_summedUp_173 ?_
            refine z_aload_n dX12_summedUp_174 2 rfl ?_
            refine z_iload dX12_summedUp_175 1 rfl ?_
            refine z_aload_n dX12_summedUp_177 2 rfl ?_
            refine y_getR (M := mX12_summedUp) (r := 320) dX12_summedUp_178 zk_313 flRX12_35 fr_10_21.1 (fr_10_21.2 _) ?_
            refine z_iload dX12_summedUp_181 5 rfl ?_
            refine z_iconst (M := mX12_summedUp) (v := 1) dX12_summedUp_183 rfl ?_
            refine z_isub dX12_summedUp_184 ?_
            obtain ⟨hi25, h⟩ := oif h
            refine y_lald (M := mX12_summedUp) (jj := (x5 - (1 : Int32)).toNatClampNeg) dX12_summedUp_185 zk_320 hi25 rfl ?_
            obtain ⟨v26, he26, h⟩ := obind h
            refine y_Vl (M := mX12_summedUp) (Y := mX12_ofOne) (d2 := d - 1) (As := [.int (gi ν 316 (x4 + ((2 : Int32) * x7)).toNatClampNeg), .long (gl ν 320 (x5 - (1 : Int32)).toNatClampNeg)]) (st := [.int (x5 - (1 : Int32)), .ref 320]) dX12_summedUp_186 mlRX12_293 cv_X12_ofOne zk_313 (ct_Md_ofOne (dle (Nat.le_of_ble_eq_true rfl) hd0) he26) (dps (Nat.le_of_ble_eq_true rfl) hd0) rfl rfl (Nat.le_of_ble_eq_true rfl) ?_
            obtain ⟨hi27, h⟩ := oif h
            refine y_last (M := mX12_summedUp) (jj := (x5 - (1 : Int32)).toNatClampNeg) dX12_summedUp_189 zk_320 hi27 rfl ?_
            refine z_goto 349 dX12_summedUp_190 rfl ?_
            refine z_lv (lv2 := [(0, .ref 313), (3, .int x3), (4, .int x4), (5, .int x5), (6, .int x6), (7, .int x7)]) [2, 3, 4, 5, 6, 7] rfl ?_
            exact t_Md_summedUp_349 hd0 ih x3 x4 x5 x6 x7 (sl ν 320 (x5 - (1 : Int32)).toNatClampNeg v26) _ h
        · replace h := oFn hc6 h
          refine z_iinc (M := mX12_summedUp) (v := (x5 + (-1 : Int32))) (lv2 := [(5, .int (x5 + (-1 : Int32))), (9, .int (gi ν 316 ((x4 + ((2 : Int32) * x7)) + (1 : Int32)).toNatClampNeg)), (8, .int (gi ν 316 (x4 + ((2 : Int32) * x7)).toNatClampNeg)), (0, .ref 313), (3, .int x3), (4, .int x4), (6, .int x6), (7, .int x7)]) dX12_summedUp_125 5 rfl rfl (Nat.le_of_ble_eq_true rfl) rfl ?_
          refine z_iinc (M := mX12_summedUp) (v := (x6 + (-1 : Int32))) (lv2 := [(6, .int (x6 + (-1 : Int32))), (5, .int (x5 + (-1 : Int32))), (9, .int (gi ν 316 ((x4 + ((2 : Int32) * x7)) + (1 : Int32)).toNatClampNeg)), (8, .int (gi ν 316 (x4 + ((2 : Int32) * x7)).toNatClampNeg)), (0, .ref 313), (3, .int x3), (4, .int x4), (7, .int x7)]) dX12_summedUp_128 6 rfl rfl (Nat.le_of_ble_eq_true rfl) rfl ?_
          refine z_aload_n dX12_summedUp_131 4 rfl ?_
          refine y_getR (M := mX12_summedUp) (r := 321) dX12_summedUp_132 zk_313 flRX12_39 fr_10_22.1 (fr_10_22.2 _) ?_
          refine z_iload dX12_summedUp_135 0 rfl ?_
          obtain ⟨hi28, h⟩ := oif h
          refine y_zald (M := mX12_summedUp) (jj := (x6 + (-1 : Int32)).toNatClampNeg) dX12_summedUp_137 zk_321 hi28 rfl ?_
          refine z_if_ne 349 dX12_summedUp_138 rfl (fun hc29 => ?_) (fun hc29 => ?_)
          · replace h := oT hc29 h
            refine z_lv (lv2 := [(0, .ref 313), (3, .int x3), (4, .int x4), (5, .int (x5 + (-1 : Int32))), (6, .int (x6 + (-1 : Int32))), (7, .int x7)]) [4, 5, 6, 1, 0, 7] rfl ?_
            exact t_Md_summedUp_349 hd0 ih x3 x4 (x5 + (-1 : Int32)) (x6 + (-1 : Int32)) x7 ν _ h
          · replace h := oFn hc29 h
            refine z_aload_n dX12_summedUp_141 4 rfl ?_
            refine y_getR (M := mX12_summedUp) (r := 320) dX12_summedUp_142 zk_313 flRX12_35 fr_10_21.1 (fr_10_21.2 _) ?_
            refine z_iload dX12_summedUp_145 1 rfl ?_
            refine z_iconst (M := mX12_summedUp) (v := 1) dX12_summedUp_147 rfl ?_
            refine z_isub dX12_summedUp_148 ?_
            refine z_aload_n dX12_summedUp_149 4 rfl ?_
            refine y_getR (M := mX12_summedUp) (r := 320) dX12_summedUp_150 zk_313 flRX12_35 fr_10_21.1 (fr_10_21.2 _) ?_
            refine z_iload dX12_summedUp_153 1 rfl ?_
            obtain ⟨hi30, h⟩ := oif h
            refine y_lald (M := mX12_summedUp) (jj := (x5 + (-1 : Int32)).toNatClampNeg) dX12_summedUp_155 zk_320 hi30 rfl ?_
            obtain ⟨hi31, h⟩ := oif h
            refine y_last (M := mX12_summedUp) (jj := ((x5 + (-1 : Int32)) - (1 : Int32)).toNatClampNeg) dX12_summedUp_156 zk_320 hi31 rfl ?_
            refine z_goto 349 dX12_summedUp_157 rfl ?_
            refine z_lv (lv2 := [(0, .ref 313), (3, .int x3), (4, .int x4), (5, .int (x5 + (-1 : Int32))), (6, .int (x6 + (-1 : Int32))), (7, .int x7)]) [4, 5, 6, 1, 0, 7] rfl ?_
            exact t_Md_summedUp_349 hd0 ih x3 x4 (x5 + (-1 : Int32)) (x6 + (-1 : Int32)) x7 (sl ν 320 ((x5 + (-1 : Int32)) - (1 : Int32)).toNatClampNeg (gl ν 320 (x5 + (-1 : Int32)).toNatClampNeg)) _ h
      · replace h := oF hc5 h
        refine z_aload_n dX12_summedUp_87 2 rfl ?_
        refine y_getR (M := mX12_summedUp) (r := 320) dX12_summedUp_88 zk_313 flRX12_35 fr_10_21.1 (fr_10_21.2 _) ?_
        refine z_iload dX12_summedUp_91 5 rfl ?_
        refine z_iload dX12_summedUp_93 1 rfl ?_
        refine z_if_ne 104 dX12_summedUp_95 rfl (fun hc32 => ?_) (fun hc32 => ?_)
        · replace h := oT hc32 h
          refine z_aload_n dX12_summedUp_104 2 rfl ?_
          refine y_getR (M := mX12_summedUp) (r := 319) dX12_summedUp_105 zk_313 flRX12_32 fr_10_20.1 (fr_10_20.2 _) ?_
          refine z_iload dX12_summedUp_108 0 rfl ?_
          obtain ⟨hi33, h⟩ := oif h
          refine y_iald (M := mX12_summedUp) (jj := (gi ν 316 ((x4 + ((2 : Int32) * x7)) + (1 : Int32)).toNatClampNeg).toNatClampNeg) dX12_summedUp_110 zk_319 hi33 rfl ?_
          refine z_i2l dX12_summedUp_111 ?_
          refine z_lv (lv2 := [(0, .ref 313), (3, .int x3), (4, .int x4), (5, .int x5), (6, .int x6), (7, .int x7)]) [2, 3, 4, 5, 6, 7] rfl ?_
          exact t_Md_summedUp_112 hd0 ih x3 x4 x5 x6 x7 (gi ν 319 (gi ν 316 ((x4 + ((2 : Int32) * x7)) + (1 : Int32)).toNatClampNeg).toNatClampNeg).toInt64 x5 ν _ h
        · replace h := oFn hc32 h
          refine z_iload dX12_summedUp_98 0 rfl ?_
          refine z_i2l dX12_summedUp_100 ?_
          refine z_goto 112 dX12_summedUp_101 rfl ?_
          refine z_lv (lv2 := [(0, .ref 313), (3, .int x3), (4, .int x4), (5, .int x5), (6, .int x6), (7, .int x7)]) [2, 3, 4, 5, 6, 7] rfl ?_
          exact t_Md_summedUp_112 hd0 ih x3 x4 x5 x6 x7 (gi ν 316 ((x4 + ((2 : Int32) * x7)) + (1 : Int32)).toNatClampNeg).toInt64 x5 ν _ h
def Md_summedUp (x1 : Int32) (x2 : Int32) (ν : Nm) : Option (Int64 × Nm) :=
  if inb (((((681 : Int32) * x1) + (1 : Int32)) + ((3 : Int32) * x2)) + (1 : Int32)) 2724 then
  Md_summedUp_38 FU ((((681 : Int32) * x1) + (1 : Int32)) + ((3 : Int32) * x2)) (((681 : Int32) * x1) + (73 : Int32)) (0 : Int32) (0 : Int32) (gi ν 316 (((((681 : Int32) * x1) + (1 : Int32)) + ((3 : Int32) * x2)) + (1 : Int32)).toNatClampNeg) ν
  else none
set_option maxRecDepth 100000 in
set_option maxHeartbeats 4000000 in
theorem t_Md_summedUp {g : GG} {d : Nat} (hd0 : 5 ≤ d) : ∀ (x1 : Int32) (x2 : Int32) (ν : Nm) (r : (Int64 × Nm)), Md_summedUp x1 x2 ν = some r → Z g d (0, 0) mX12_summedUp 333 0 0 0 [(0, .ref 313), (1, .int x1), (2, .int x2)] [] (zem ν) (zF g (some (.long r.1), zem r.2)) := by
  intro x1 x2 ν r h
  unfold Md_summedUp at h
  refine z_sipush (M := mX12_summedUp) (v := 681) dX12_summedUp_0 rfl ?_
  refine z_iload_n dX12_summedUp_3 1 rfl ?_
  refine z_imul dX12_summedUp_4 ?_
  refine z_iconst (M := mX12_summedUp) (v := 1) dX12_summedUp_5 rfl ?_
  refine z_iadd dX12_summedUp_6 ?_
  refine z_iconst (M := mX12_summedUp) (v := 3) dX12_summedUp_7 rfl ?_
  refine z_iload_n dX12_summedUp_8 2 rfl ?_
  refine z_imul dX12_summedUp_9 ?_
  refine z_iadd dX12_summedUp_10 ?_
  refine z_istore_n (M := mX12_summedUp) (lv2 := [(3, .int ((((681 : Int32) * x1) + (1 : Int32)) + ((3 : Int32) * x2))), (0, .ref 313), (1, .int x1), (2, .int x2)]) dX12_summedUp_11 (Nat.le_of_ble_eq_true rfl) rfl ?_
  refine z_sipush (M := mX12_summedUp) (v := 681) dX12_summedUp_12 rfl ?_
  refine z_iload_n dX12_summedUp_15 2 rfl ?_
  refine z_imul dX12_summedUp_16 ?_
  refine z_bipush (M := mX12_summedUp) (v := 73) dX12_summedUp_17 rfl ?_
  refine z_iadd dX12_summedUp_19 ?_
  refine z_istore (M := mX12_summedUp) (lv2 := [(4, .int (((681 : Int32) * x1) + (73 : Int32))), (3, .int ((((681 : Int32) * x1) + (1 : Int32)) + ((3 : Int32) * x2))), (0, .ref 313), (1, .int x1), (2, .int x2)]) dX12_summedUp_20 (Nat.le_of_ble_eq_true rfl) rfl ?_
  refine z_iconst (M := mX12_summedUp) (v := 0) dX12_summedUp_22 rfl ?_
  refine z_istore (M := mX12_summedUp) (lv2 := [(5, .int (0 : Int32)), (4, .int (((681 : Int32) * x1) + (73 : Int32))), (3, .int ((((681 : Int32) * x1) + (1 : Int32)) + ((3 : Int32) * x2))), (0, .ref 313), (1, .int x1), (2, .int x2)]) dX12_summedUp_23 (Nat.le_of_ble_eq_true rfl) rfl ?_
  refine z_iconst (M := mX12_summedUp) (v := 0) dX12_summedUp_25 rfl ?_
  refine z_istore (M := mX12_summedUp) (lv2 := [(6, .int (0 : Int32)), (5, .int (0 : Int32)), (4, .int (((681 : Int32) * x1) + (73 : Int32))), (3, .int ((((681 : Int32) * x1) + (1 : Int32)) + ((3 : Int32) * x2))), (0, .ref 313), (1, .int x1), (2, .int x2)]) dX12_summedUp_26 (Nat.le_of_ble_eq_true rfl) rfl ?_
  refine z_aload_n dX12_summedUp_28 4 rfl ?_
  refine y_getR (M := mX12_summedUp) (r := 316) dX12_summedUp_29 zk_313 flRX12_16 fr_10_2.1 (fr_10_2.2 _) ?_
  refine z_iload_n dX12_summedUp_32 3 rfl ?_
  refine z_iconst (M := mX12_summedUp) (v := 1) dX12_summedUp_33 rfl ?_
  refine z_iadd dX12_summedUp_34 ?_
  obtain ⟨hi1, h⟩ := oif h
  refine y_iald (M := mX12_summedUp) (jj := (((((681 : Int32) * x1) + (1 : Int32)) + ((3 : Int32) * x2)) + (1 : Int32)).toNatClampNeg) dX12_summedUp_35 zk_316 hi1 rfl ?_
  refine z_istore (M := mX12_summedUp) (lv2 := [(7, .int (gi ν 316 (((((681 : Int32) * x1) + (1 : Int32)) + ((3 : Int32) * x2)) + (1 : Int32)).toNatClampNeg)), (6, .int (0 : Int32)), (5, .int (0 : Int32)), (4, .int (((681 : Int32) * x1) + (73 : Int32))), (3, .int ((((681 : Int32) * x1) + (1 : Int32)) + ((3 : Int32) * x2))), (0, .ref 313), (1, .int x1), (2, .int x2)]) dX12_summedUp_36 (Nat.le_of_ble_eq_true rfl) rfl ?_
  refine z_lv (lv2 := [(0, .ref 313), (3, .int ((((681 : Int32) * x1) + (1 : Int32)) + ((3 : Int32) * x2))), (4, .int (((681 : Int32) * x1) + (73 : Int32))), (5, .int (0 : Int32)), (6, .int (0 : Int32)), (7, .int (gi ν 316 (((((681 : Int32) * x1) + (1 : Int32)) + ((3 : Int32) * x2)) + (1 : Int32)).toNatClampNeg))]) [5, 4, 3, 2, 1, 0] rfl ?_
  exact t_Md_summedUp_38 hd0 FU ((((681 : Int32) * x1) + (1 : Int32)) + ((3 : Int32) * x2)) (((681 : Int32) * x1) + (73 : Int32)) (0 : Int32) (0 : Int32) (gi ν 316 (((((681 : Int32) * x1) + (1 : Int32)) + ((3 : Int32) * x2)) + (1 : Int32)).toNatClampNeg) ν _ h
theorem ct_Md_summedUp {g : GG} {d : Nat} {x1 : Int32} {x2 : Int32} {ν : Nm} {r : (Int64 × Nm)} (hd0 : 5 ≤ d)  (h : Md_summedUp x1 x2 ν = some r) : Ct g d mX12_summedUp [.ref 313, .int x1, .int x2] (zem ν) (some (.long r.1), zem r.2) := y_entry in_X12_summedUp (Nat.le_of_ble_eq_true rfl) rfl (t_Md_summedUp hd0 x1 x2 ν r h)
-- FuseMinutesModel.says(IIIII)I
theorem dX12_says_0 : decode cX12_says 0 = .ok (.iconst 0, 1) := by decide +kernel
theorem dX12_says_1 : decode cX12_says 1 = .ok (.istore 6, 2) := by decide +kernel
theorem dX12_says_3 : decode cX12_says 3 = .ok (.iload_n 1, 1) := by decide +kernel
theorem dX12_says_4 : decode cX12_says 4 = .ok (.ifCond .lt 60, 3) := by decide +kernel
theorem dX12_says_7 : decode cX12_says 7 = .ok (.iload 6, 2) := by decide +kernel
theorem dX12_says_9 : decode cX12_says 9 = .ok (.aload_n 0, 1) := by decide +kernel
theorem dX12_says_10 : decode cX12_says 10 = .ok (.getfield 16, 3) := by decide +kernel
theorem dX12_says_13 : decode cX12_says 13 = .ok (.sipush 681, 3) := by decide +kernel
theorem dX12_says_16 : decode cX12_says 16 = .ok (.iload_n 1, 1) := by decide +kernel
theorem dX12_says_17 : decode cX12_says 17 = .ok (.imul, 1) := by decide +kernel
theorem dX12_says_18 : decode cX12_says 18 = .ok (.iaload, 1) := by decide +kernel
theorem dX12_says_19 : decode cX12_says 19 = .ok (.if_icmp .ge 45, 3) := by decide +kernel
theorem dX12_says_22 : decode cX12_says 22 = .ok (.aload_n 0, 1) := by decide +kernel
theorem dX12_says_23 : decode cX12_says 23 = .ok (.getfield 16, 3) := by decide +kernel
theorem dX12_says_26 : decode cX12_says 26 = .ok (.sipush 681, 3) := by decide +kernel
theorem dX12_says_29 : decode cX12_says 29 = .ok (.iload_n 1, 1) := by decide +kernel
theorem dX12_says_30 : decode cX12_says 30 = .ok (.imul, 1) := by decide +kernel
theorem dX12_says_31 : decode cX12_says 31 = .ok (.iconst 1, 1) := by decide +kernel
theorem dX12_says_32 : decode cX12_says 32 = .ok (.iadd, 1) := by decide +kernel
theorem dX12_says_33 : decode cX12_says 33 = .ok (.iconst 3, 1) := by decide +kernel
theorem dX12_says_34 : decode cX12_says 34 = .ok (.iload 6, 2) := by decide +kernel
theorem dX12_says_36 : decode cX12_says 36 = .ok (.imul, 1) := by decide +kernel
theorem dX12_says_37 : decode cX12_says 37 = .ok (.iadd, 1) := by decide +kernel
theorem dX12_says_38 : decode cX12_says 38 = .ok (.iaload, 1) := by decide +kernel
theorem dX12_says_39 : decode cX12_says 39 = .ok (.iload_n 2, 1) := by decide +kernel
theorem dX12_says_40 : decode cX12_says 40 = .ok (.if_icmp .ne 18, 3) := by decide +kernel
theorem dX12_says_43 : decode cX12_says 43 = .ok (.aload_n 0, 1) := by decide +kernel
theorem dX12_says_44 : decode cX12_says 44 = .ok (.iload_n 1, 1) := by decide +kernel
theorem dX12_says_45 : decode cX12_says 45 = .ok (.iload 6, 2) := by decide +kernel
theorem dX12_says_47 : decode cX12_says 47 = .ok (.invokevirtual 309, 3) := by decide +kernel
theorem dX12_says_50 : decode cX12_says 50 = .ok (.iload 4, 2) := by decide +kernel
theorem dX12_says_52 : decode cX12_says 52 = .ok (.iload 5, 2) := by decide +kernel
theorem dX12_says_54 : decode cX12_says 54 = .ok (.invokestatic 312, 3) := by decide +kernel
theorem dX12_says_57 : decode cX12_says 57 = .ok (.ireturn, 1) := by decide +kernel
theorem dX12_says_58 : decode cX12_says 58 = .ok (.iinc 6 1, 3) := by decide +kernel
theorem dX12_says_61 : decode cX12_says 61 = .ok (.goto (-58), 3) := by decide +kernel
theorem dX12_says_64 : decode cX12_says 64 = .ok (.iload_n 3, 1) := by decide +kernel
theorem dX12_says_65 : decode cX12_says 65 = .ok (.ireturn, 1) := by decide +kernel
def Md_says_3 : Nat → Int32 → Int32 → Int32 → Int32 → Int32 → Int32 → Nm → Option (Int32 × Nm)
  | 0, _, _, _, _, _, _, _ => none
  | f + 1, x1, x2, x3, x4, x5, x6, ν =>
    (if x1 < 0 then
      some (x3, ν)
    else
      if inb ((681 : Int32) * x1) 2724 then
      (if (gi ν 316 ((681 : Int32) * x1).toNatClampNeg) ≤ x6 then
        some (x3, ν)
      else
        if inb ((((681 : Int32) * x1) + (1 : Int32)) + ((3 : Int32) * x6)) 2724 then
        (if ¬ (gi ν 316 ((((681 : Int32) * x1) + (1 : Int32)) + ((3 : Int32) * x6)).toNatClampNeg) = x2 then
          (Md_says_3 f) x1 x2 x3 x4 x5 (x6 + (1 : Int32)) ν
        else
          (Md_summedUp x1 x6 ν).bind fun v6 =>
          (Md_cut v6.1 x4 x5).bind fun v7 =>
          some (v7, v6.2))
        else none)
      else none)
set_option maxRecDepth 100000 in
set_option maxHeartbeats 4000000 in
theorem t_Md_says_3 {g : GG} {d : Nat} (hd0 : 6 ≤ d) : ∀ (f : Nat), ∀ (x1 : Int32) (x2 : Int32) (x3 : Int32) (x4 : Int32) (x5 : Int32) (x6 : Int32) (ν : Nm) (r : (Int32 × Nm)), Md_says_3 f x1 x2 x3 x4 x5 x6 ν = some r → Z g d (0, 0) mX12_says 333 0 0 3 [(0, .ref 313), (1, .int x1), (2, .int x2), (3, .int x3), (4, .int x4), (5, .int x5), (6, .int x6)] [] (zem ν) (zF g (some (.int r.1), zem r.2)) := by
  intro f
  induction f with
  | zero =>
    intro x1 x2 x3 x4 x5 x6 ν r h
    cases h
  | succ f ih =>
    intro x1 x2 x3 x4 x5 x6 ν r h
    rw [Md_says_3] at h
    refine z_iload_n dX12_says_3 1 rfl ?_
    refine z_if_lt 64 dX12_says_4 rfl (fun hc1 => ?_) (fun hc1 => ?_)
    · replace h := oT hc1 h
      refine z_iload_n dX12_says_64 3 rfl ?_
      cases h
      exact z_iret dX12_says_65 rfl
    · replace h := oF hc1 h
      refine z_iload dX12_says_7 6 rfl ?_
      refine z_aload_n dX12_says_9 0 rfl ?_
      refine y_getR (M := mX12_says) (r := 316) dX12_says_10 zk_313 flRX12_16 fr_10_2.1 (fr_10_2.2 _) ?_
      refine z_sipush (M := mX12_says) (v := 681) dX12_says_13 rfl ?_
      refine z_iload_n dX12_says_16 1 rfl ?_
      refine z_imul dX12_says_17 ?_
      obtain ⟨hi2, h⟩ := oif h
      refine y_iald (M := mX12_says) (jj := ((681 : Int32) * x1).toNatClampNeg) dX12_says_18 zk_316 hi2 rfl ?_
      refine z_icmp_ge 64 dX12_says_19 rfl (fun hc3 => ?_) (fun hc3 => ?_)
      · replace h := oT hc3 h
        refine z_iload_n dX12_says_64 3 rfl ?_
        cases h
        exact z_iret dX12_says_65 rfl
      · replace h := oF hc3 h
        refine z_aload_n dX12_says_22 0 rfl ?_
        refine y_getR (M := mX12_says) (r := 316) dX12_says_23 zk_313 flRX12_16 fr_10_2.1 (fr_10_2.2 _) ?_
        refine z_sipush (M := mX12_says) (v := 681) dX12_says_26 rfl ?_
        refine z_iload_n dX12_says_29 1 rfl ?_
        refine z_imul dX12_says_30 ?_
        refine z_iconst (M := mX12_says) (v := 1) dX12_says_31 rfl ?_
        refine z_iadd dX12_says_32 ?_
        refine z_iconst (M := mX12_says) (v := 3) dX12_says_33 rfl ?_
        refine z_iload dX12_says_34 6 rfl ?_
        refine z_imul dX12_says_36 ?_
        refine z_iadd dX12_says_37 ?_
        obtain ⟨hi4, h⟩ := oif h
        refine y_iald (M := mX12_says) (jj := ((((681 : Int32) * x1) + (1 : Int32)) + ((3 : Int32) * x6)).toNatClampNeg) dX12_says_38 zk_316 hi4 rfl ?_
        refine z_iload_n dX12_says_39 2 rfl ?_
        refine z_icmp_ne 58 dX12_says_40 rfl (fun hc5 => ?_) (fun hc5 => ?_)
        · replace h := oT hc5 h
          refine z_iinc (M := mX12_says) (v := (x6 + (1 : Int32))) (lv2 := [(6, .int (x6 + (1 : Int32))), (0, .ref 313), (1, .int x1), (2, .int x2), (3, .int x3), (4, .int x4), (5, .int x5)]) dX12_says_58 6 rfl rfl (Nat.le_of_ble_eq_true rfl) rfl ?_
          refine z_goto 3 dX12_says_61 rfl ?_
          refine z_lv (lv2 := [(0, .ref 313), (1, .int x1), (2, .int x2), (3, .int x3), (4, .int x4), (5, .int x5), (6, .int (x6 + (1 : Int32)))]) [1, 2, 3, 4, 5, 6, 0] rfl ?_
          exact ih x1 x2 x3 x4 x5 (x6 + (1 : Int32)) ν _ h
        · replace h := oFn hc5 h
          refine z_aload_n dX12_says_43 0 rfl ?_
          refine z_iload_n dX12_says_44 1 rfl ?_
          refine z_iload dX12_says_45 6 rfl ?_
          obtain ⟨v6, he6, h⟩ := obind h
          refine y_Vl (M := mX12_says) (Y := mX12_summedUp) (d2 := d - 1) (As := [.int x1, .int x6]) (st := []) dX12_says_47 mlRX12_309 cv_X12_summedUp zk_313 (ct_Md_summedUp (dle (Nat.le_of_ble_eq_true rfl) hd0) he6) (dps (Nat.le_of_ble_eq_true rfl) hd0) rfl rfl (Nat.le_of_ble_eq_true rfl) ?_
          refine z_iload dX12_says_50 4 rfl ?_
          refine z_iload dX12_says_52 5 rfl ?_
          obtain ⟨v7, he7, h⟩ := obind h
          refine y_Si (M := mX12_says) (Y := mX12_cut) (d2 := d - 1) (As := [.long v6.1, .int x4, .int x5]) (st := []) dX12_says_54 mlRX12_312 cv_X12_cut (ct_Md_cut (dle (Nat.le_of_ble_eq_true rfl) hd0) he7) (dps (Nat.le_of_ble_eq_true rfl) hd0) rfl rfl (Nat.le_of_ble_eq_true rfl) ?_
          cases h
          exact z_iret dX12_says_57 rfl
def Md_says (x1 : Int32) (x2 : Int32) (x3 : Int32) (x4 : Int32) (x5 : Int32) (ν : Nm) : Option (Int32 × Nm) :=
  Md_says_3 FU x1 x2 x3 x4 x5 (0 : Int32) ν
set_option maxRecDepth 100000 in
set_option maxHeartbeats 4000000 in
theorem t_Md_says {g : GG} {d : Nat} (hd0 : 6 ≤ d) : ∀ (x1 : Int32) (x2 : Int32) (x3 : Int32) (x4 : Int32) (x5 : Int32) (ν : Nm) (r : (Int32 × Nm)), Md_says x1 x2 x3 x4 x5 ν = some r → Z g d (0, 0) mX12_says 333 0 0 0 [(0, .ref 313), (1, .int x1), (2, .int x2), (3, .int x3), (4, .int x4), (5, .int x5)] [] (zem ν) (zF g (some (.int r.1), zem r.2)) := by
  intro x1 x2 x3 x4 x5 ν r h
  unfold Md_says at h
  refine z_iconst (M := mX12_says) (v := 0) dX12_says_0 rfl ?_
  refine z_istore (M := mX12_says) (lv2 := [(6, .int (0 : Int32)), (0, .ref 313), (1, .int x1), (2, .int x2), (3, .int x3), (4, .int x4), (5, .int x5)]) dX12_says_1 (Nat.le_of_ble_eq_true rfl) rfl ?_
  refine z_lv (lv2 := [(0, .ref 313), (1, .int x1), (2, .int x2), (3, .int x3), (4, .int x4), (5, .int x5), (6, .int (0 : Int32))]) [1, 2, 3, 4, 5, 6, 0] rfl ?_
  exact t_Md_says_3 hd0 FU x1 x2 x3 x4 x5 (0 : Int32) ν _ h
theorem ct_Md_says {g : GG} {d : Nat} {x1 : Int32} {x2 : Int32} {x3 : Int32} {x4 : Int32} {x5 : Int32} {ν : Nm} {r : (Int32 × Nm)} (hd0 : 6 ≤ d)  (h : Md_says x1 x2 x3 x4 x5 ν = some r) : Ct g d mX12_says [.ref 313, .int x1, .int x2, .int x3, .int x4, .int x5] (zem ν) (some (.int r.1), zem r.2) := y_entry in_X12_says (Nat.le_of_ble_eq_true rfl) rfl (t_Md_says hd0 x1 x2 x3 x4 x5 ν r h)
-- FuseMinutesModel.lightsOf(IZ)I
theorem dX12_lightsOf_0 : decode cX12_lightsOf 0 = .ok (.aload_n 0, 1) := by decide +kernel
theorem dX12_lightsOf_1 : decode cX12_lightsOf 1 = .ok (.iload_n 1, 1) := by decide +kernel
theorem dX12_lightsOf_2 : decode cX12_lightsOf 2 = .ok (.invokevirtual 319, 3) := by decide +kernel
theorem dX12_lightsOf_5 : decode cX12_lightsOf 5 = .ok (.aload_n 0, 1) := by decide +kernel
theorem dX12_lightsOf_6 : decode cX12_lightsOf 6 = .ok (.getfield 32, 3) := by decide +kernel
theorem dX12_lightsOf_9 : decode cX12_lightsOf 9 = .ok (.bipush 6, 2) := by decide +kernel
theorem dX12_lightsOf_11 : decode cX12_lightsOf 11 = .ok (.iload_n 2, 1) := by decide +kernel
theorem dX12_lightsOf_12 : decode cX12_lightsOf 12 = .ok (.ifCond .eq 7, 3) := by decide +kernel
theorem dX12_lightsOf_15 : decode cX12_lightsOf 15 = .ok (.iconst 1, 1) := by decide +kernel
theorem dX12_lightsOf_16 : decode cX12_lightsOf 16 = .ok (.goto 4, 3) := by decide +kernel
theorem dX12_lightsOf_19 : decode cX12_lightsOf 19 = .ok (.iconst 0, 1) := by decide +kernel
theorem dX12_lightsOf_20 : decode cX12_lightsOf 20 = .ok (.iastore, 1) := by decide +kernel
theorem dX12_lightsOf_21 : decode cX12_lightsOf 21 = .ok (.aload_n 0, 1) := by decide +kernel
theorem dX12_lightsOf_22 : decode cX12_lightsOf 22 = .ok (.aload_n 0, 1) := by decide +kernel
theorem dX12_lightsOf_23 : decode cX12_lightsOf 23 = .ok (.getfield 7, 3) := by decide +kernel
theorem dX12_lightsOf_26 : decode cX12_lightsOf 26 = .ok (.iconst 3, 1) := by decide +kernel
theorem dX12_lightsOf_27 : decode cX12_lightsOf 27 = .ok (.iaload, 1) := by decide +kernel
theorem dX12_lightsOf_28 : decode cX12_lightsOf 28 = .ok (.iconst 0, 1) := by decide +kernel
theorem dX12_lightsOf_29 : decode cX12_lightsOf 29 = .ok (.iconst 1, 1) := by decide +kernel
theorem dX12_lightsOf_30 : decode cX12_lightsOf 30 = .ok (.bipush (-99), 2) := by decide +kernel
theorem dX12_lightsOf_32 : decode cX12_lightsOf 32 = .ok (.bipush 99, 2) := by decide +kernel
theorem dX12_lightsOf_34 : decode cX12_lightsOf 34 = .ok (.invokevirtual 322, 3) := by decide +kernel
theorem dX12_lightsOf_37 : decode cX12_lightsOf 37 = .ok (.ireturn, 1) := by decide +kernel
def Md_lightsOf_20 (s0 : Int32) (s1 : Int32) (ν : Nm) : Option (Int32 × Nm) :=
  if inb s1 7 then
  (Md_says (gi (si ν 319 s1.toNatClampNeg s0) 314 3) (0 : Int32) (1 : Int32) (-99 : Int32) (99 : Int32) (si ν 319 s1.toNatClampNeg s0)).bind fun v2 =>
  some (v2.1, v2.2)
  else none
set_option maxRecDepth 100000 in
set_option maxHeartbeats 4000000 in
theorem t_Md_lightsOf_20 {g : GG} {d : Nat} (hd0 : 7 ≤ d) : ∀ (s0 : Int32) (s1 : Int32) (ν : Nm) (r : (Int32 × Nm)), Md_lightsOf_20 s0 s1 ν = some r → Z g d (0, 0) mX12_lightsOf 333 0 0 20 [(0, .ref 313)] [.int s0, .int s1, .ref 319] (zem ν) (zF g (some (.int r.1), zem r.2)) := by
  intro s0 s1 ν r h
  unfold Md_lightsOf_20 at h
  obtain ⟨hi1, h⟩ := oif h
  refine y_iast (M := mX12_lightsOf) (jj := s1.toNatClampNeg) dX12_lightsOf_20 zk_319 hi1 rfl ?_
  refine z_aload_n dX12_lightsOf_21 0 rfl ?_
  refine z_aload_n dX12_lightsOf_22 0 rfl ?_
  refine y_getR (M := mX12_lightsOf) (r := 314) dX12_lightsOf_23 zk_313 flRX12_7 fr_10_0.1 (fr_10_0.2 _) ?_
  refine z_iconst (M := mX12_lightsOf) (v := 3) dX12_lightsOf_26 rfl ?_
  refine y_iald (M := mX12_lightsOf) (jj := 3) dX12_lightsOf_27 zk_314 rfl rfl ?_
  refine z_iconst (M := mX12_lightsOf) (v := 0) dX12_lightsOf_28 rfl ?_
  refine z_iconst (M := mX12_lightsOf) (v := 1) dX12_lightsOf_29 rfl ?_
  refine z_bipush (M := mX12_lightsOf) (v := -99) dX12_lightsOf_30 rfl ?_
  refine z_bipush (M := mX12_lightsOf) (v := 99) dX12_lightsOf_32 rfl ?_
  obtain ⟨v2, he2, h⟩ := obind h
  refine y_Vi (M := mX12_lightsOf) (Y := mX12_says) (d2 := d - 1) (As := [.int (gi (si ν 319 s1.toNatClampNeg s0) 314 3), .int (0 : Int32), .int (1 : Int32), .int (-99 : Int32), .int (99 : Int32)]) (st := []) dX12_lightsOf_34 mlRX12_322 cv_X12_says zk_313 (ct_Md_says (dle (Nat.le_of_ble_eq_true rfl) hd0) he2) (dps (Nat.le_of_ble_eq_true rfl) hd0) rfl rfl (Nat.le_of_ble_eq_true rfl) ?_
  cases h
  exact z_iret dX12_lightsOf_37 rfl
def Md_lightsOf (x1 : Int32) (x2 : Int32) (ν : Nm) : Option (Int32 × Nm) :=
  (Md_name x1 ν).bind fun v1 =>
  (if x2 = 0 then
    Md_lightsOf_20 (0 : Int32) (6 : Int32) v1
  else
    Md_lightsOf_20 (1 : Int32) (6 : Int32) v1)
set_option maxRecDepth 100000 in
set_option maxHeartbeats 4000000 in
theorem t_Md_lightsOf {g : GG} {d : Nat} (hd0 : 7 ≤ d) : ∀ (x1 : Int32) (x2 : Int32) (ν : Nm) (r : (Int32 × Nm)), Md_lightsOf x1 x2 ν = some r → Z g d (0, 0) mX12_lightsOf 333 0 0 0 [(0, .ref 313), (1, .int x1), (2, .int x2)] [] (zem ν) (zF g (some (.int r.1), zem r.2)) := by
  intro x1 x2 ν r h
  unfold Md_lightsOf at h
  refine z_aload_n dX12_lightsOf_0 0 rfl ?_
  refine z_iload_n dX12_lightsOf_1 1 rfl ?_
  obtain ⟨v1, he1, h⟩ := obind h
  refine y_Vv (M := mX12_lightsOf) (Y := mX12_name) (d2 := d - 1) (As := [.int x1]) (st := []) dX12_lightsOf_2 mlRX12_319 cv_X12_name zk_313 (ct_Md_name (dle (Nat.le_of_ble_eq_true rfl) hd0) he1) (dps (Nat.le_of_ble_eq_true rfl) hd0) rfl rfl (Nat.le_of_ble_eq_true rfl) ?_
  refine z_aload_n dX12_lightsOf_5 0 rfl ?_
  refine y_getR (M := mX12_lightsOf) (r := 319) dX12_lightsOf_6 zk_313 flRX12_32 fr_10_20.1 (fr_10_20.2 _) ?_
  refine z_bipush (M := mX12_lightsOf) (v := 6) dX12_lightsOf_9 rfl ?_
  refine z_iload_n dX12_lightsOf_11 2 rfl ?_
  refine z_if_eq 19 dX12_lightsOf_12 rfl (fun hc2 => ?_) (fun hc2 => ?_)
  · replace h := oT hc2 h
    refine z_iconst (M := mX12_lightsOf) (v := 0) dX12_lightsOf_19 rfl ?_
    refine z_lv (lv2 := [(0, .ref 313)]) [0] rfl ?_
    exact t_Md_lightsOf_20 hd0  (0 : Int32) (6 : Int32) v1 _ h
  · replace h := oF hc2 h
    refine z_iconst (M := mX12_lightsOf) (v := 1) dX12_lightsOf_15 rfl ?_
    refine z_goto 20 dX12_lightsOf_16 rfl ?_
    refine z_lv (lv2 := [(0, .ref 313)]) [0] rfl ?_
    exact t_Md_lightsOf_20 hd0  (1 : Int32) (6 : Int32) v1 _ h
theorem ct_Md_lightsOf {g : GG} {d : Nat} {x1 : Int32} {x2 : Int32} {ν : Nm} {r : (Int32 × Nm)} (hd0 : 7 ≤ d)  (h : Md_lightsOf x1 x2 ν = some r) : Ct g d mX12_lightsOf [.ref 313, .int x1, .int x2] (zem ν) (some (.int r.1), zem r.2) := y_entry in_X12_lightsOf (Nat.le_of_ble_eq_true rfl) rfl (t_Md_lightsOf hd0 x1 x2 ν r h)
-- FuseMinutesModel.canLight(IZ)Z
theorem dX12_canLight_0 : decode cX12_canLight 0 = .ok (.aload_n 0, 1) := by decide +kernel
theorem dX12_canLight_1 : decode cX12_canLight 1 = .ok (.iload_n 1, 1) := by decide +kernel
theorem dX12_canLight_2 : decode cX12_canLight 2 = .ok (.invokevirtual 115, 3) := by decide +kernel
theorem dX12_canLight_5 : decode cX12_canLight 5 = .ok (.ifCond .eq 54, 3) := by decide +kernel
theorem dX12_canLight_8 : decode cX12_canLight 8 = .ok (.aload_n 0, 1) := by decide +kernel
theorem dX12_canLight_9 : decode cX12_canLight 9 = .ok (.iload_n 1, 1) := by decide +kernel
theorem dX12_canLight_10 : decode cX12_canLight 10 = .ok (.iconst 1, 1) := by decide +kernel
theorem dX12_canLight_11 : decode cX12_canLight 11 = .ok (.invokevirtual 96, 3) := by decide +kernel
theorem dX12_canLight_14 : decode cX12_canLight 14 = .ok (.iload_n 2, 1) := by decide +kernel
theorem dX12_canLight_15 : decode cX12_canLight 15 = .ok (.invokestatic 349, 3) := by decide +kernel
theorem dX12_canLight_18 : decode cX12_canLight 18 = .ok (.iand, 1) := by decide +kernel
theorem dX12_canLight_19 : decode cX12_canLight 19 = .ok (.ifCond .ne 40, 3) := by decide +kernel
theorem dX12_canLight_22 : decode cX12_canLight 22 = .ok (.aload_n 0, 1) := by decide +kernel
theorem dX12_canLight_23 : decode cX12_canLight 23 = .ok (.iload_n 1, 1) := by decide +kernel
theorem dX12_canLight_24 : decode cX12_canLight 24 = .ok (.invokevirtual 282, 3) := by decide +kernel
theorem dX12_canLight_27 : decode cX12_canLight 27 = .ok (.ifCond .ne 32, 3) := by decide +kernel
theorem dX12_canLight_30 : decode cX12_canLight 30 = .ok (.aload_n 0, 1) := by decide +kernel
theorem dX12_canLight_31 : decode cX12_canLight 31 = .ok (.getfield 7, 3) := by decide +kernel
theorem dX12_canLight_34 : decode cX12_canLight 34 = .ok (.bipush 10, 2) := by decide +kernel
theorem dX12_canLight_36 : decode cX12_canLight 36 = .ok (.iaload, 1) := by decide +kernel
theorem dX12_canLight_37 : decode cX12_canLight 37 = .ok (.aload_n 0, 1) := by decide +kernel
theorem dX12_canLight_38 : decode cX12_canLight 38 = .ok (.getfield 7, 3) := by decide +kernel
theorem dX12_canLight_41 : decode cX12_canLight 41 = .ok (.iconst 1, 1) := by decide +kernel
theorem dX12_canLight_42 : decode cX12_canLight 42 = .ok (.iaload, 1) := by decide +kernel
theorem dX12_canLight_43 : decode cX12_canLight 43 = .ok (.if_icmp .ge 16, 3) := by decide +kernel
theorem dX12_canLight_46 : decode cX12_canLight 46 = .ok (.aload_n 0, 1) := by decide +kernel
theorem dX12_canLight_47 : decode cX12_canLight 47 = .ok (.iload_n 1, 1) := by decide +kernel
theorem dX12_canLight_48 : decode cX12_canLight 48 = .ok (.iload_n 2, 1) := by decide +kernel
theorem dX12_canLight_49 : decode cX12_canLight 49 = .ok (.invokevirtual 353, 3) := by decide +kernel
theorem dX12_canLight_52 : decode cX12_canLight 52 = .ok (.ifCond .le 7, 3) := by decide +kernel
theorem dX12_canLight_55 : decode cX12_canLight 55 = .ok (.iconst 1, 1) := by decide +kernel
theorem dX12_canLight_56 : decode cX12_canLight 56 = .ok (.goto 4, 3) := by decide +kernel
theorem dX12_canLight_59 : decode cX12_canLight 59 = .ok (.iconst 0, 1) := by decide +kernel
theorem dX12_canLight_60 : decode cX12_canLight 60 = .ok (.ireturn, 1) := by decide +kernel
def Md_canLight (x1 : Int32) (x2 : Int32) (ν : Nm) : Option (Bool × Nm) :=
  (Md_isCord ν x1).bind fun v1 =>
  (if (b2i v1) = 0 then
    some (false, ν)
  else
    (Md_get ν x1 (1 : Int32)).bind fun v3 =>
    (Md_sideBit x2).bind fun v4 =>
    (if ¬ (v3 &&& v4) = 0 then
      some (false, ν)
    else
      (Md_isOut ν x1).bind fun v6 =>
      (if ¬ (b2i v6) = 0 then
        some (false, ν)
      else
        (if (gi ν 314 1) ≤ (gi ν 314 10) then
          some (false, ν)
        else
          (Md_lightsOf x1 x2 ν).bind fun v9 =>
          (if v9.1 ≤ 0 then
            some (false, v9.2)
          else
            some (true, v9.2))))))
set_option maxRecDepth 100000 in
set_option maxHeartbeats 4000000 in
theorem t_Md_canLight {g : GG} {d : Nat} (hd0 : 8 ≤ d) : ∀ (x1 : Int32) (x2 : Int32) (ν : Nm) (r : (Bool × Nm)), Md_canLight x1 x2 ν = some r → Z g d (0, 0) mX12_canLight 333 0 0 0 [(0, .ref 313), (1, .int x1), (2, .int x2)] [] (zem ν) (zF g (some (.int (b2i r.1)), zem r.2)) := by
  intro x1 x2 ν r h
  unfold Md_canLight at h
  refine z_aload_n dX12_canLight_0 0 rfl ?_
  refine z_iload_n dX12_canLight_1 1 rfl ?_
  obtain ⟨v1, he1, h⟩ := obind h
  refine y_Vi (M := mX12_canLight) (Y := mX12_isCord) (d2 := d - 1) (As := [.int x1]) (st := []) dX12_canLight_2 mlRX12_115 cv_X12_isCord zk_313 (ct_Md_isCord (dle (Nat.le_of_ble_eq_true rfl) hd0) he1) (dps (Nat.le_of_ble_eq_true rfl) hd0) rfl rfl (Nat.le_of_ble_eq_true rfl) ?_
  refine z_if_eq 59 dX12_canLight_5 rfl (fun hc2 => ?_) (fun hc2 => ?_)
  · replace h := oT hc2 h
    refine z_iconst (M := mX12_canLight) (v := 0) dX12_canLight_59 rfl ?_
    cases h
    exact z_zret dX12_canLight_60 rfl rfl
  · replace h := oF hc2 h
    refine z_aload_n dX12_canLight_8 0 rfl ?_
    refine z_iload_n dX12_canLight_9 1 rfl ?_
    refine z_iconst (M := mX12_canLight) (v := 1) dX12_canLight_10 rfl ?_
    obtain ⟨v3, he3, h⟩ := obind h
    refine y_Vi (M := mX12_canLight) (Y := mX12_get) (d2 := d - 1) (As := [.int x1, .int (1 : Int32)]) (st := []) dX12_canLight_11 mlRX12_96 cv_X12_get zk_313 (ct_Md_get (dle (Nat.le_of_ble_eq_true rfl) hd0) he3) (dps (Nat.le_of_ble_eq_true rfl) hd0) rfl rfl (Nat.le_of_ble_eq_true rfl) ?_
    refine z_iload_n dX12_canLight_14 2 rfl ?_
    obtain ⟨v4, he4, h⟩ := obind h
    refine y_Si (M := mX12_canLight) (Y := mX12_sideBit) (d2 := d - 1) (As := [.int x2]) (st := [.int v3]) dX12_canLight_15 mlRX12_349 cv_X12_sideBit (ct_Md_sideBit (dle (Nat.le_of_ble_eq_true rfl) hd0) he4) (dps (Nat.le_of_ble_eq_true rfl) hd0) rfl rfl (Nat.le_of_ble_eq_true rfl) ?_
    refine z_iand dX12_canLight_18 ?_
    refine z_if_ne 59 dX12_canLight_19 rfl (fun hc5 => ?_) (fun hc5 => ?_)
    · replace h := oT hc5 h
      refine z_iconst (M := mX12_canLight) (v := 0) dX12_canLight_59 rfl ?_
      cases h
      exact z_zret dX12_canLight_60 rfl rfl
    · replace h := oFn hc5 h
      refine z_aload_n dX12_canLight_22 0 rfl ?_
      refine z_iload_n dX12_canLight_23 1 rfl ?_
      obtain ⟨v6, he6, h⟩ := obind h
      refine y_Vi (M := mX12_canLight) (Y := mX12_isOut) (d2 := d - 1) (As := [.int x1]) (st := []) dX12_canLight_24 mlRX12_282 cv_X12_isOut zk_313 (ct_Md_isOut (dle (Nat.le_of_ble_eq_true rfl) hd0) he6) (dps (Nat.le_of_ble_eq_true rfl) hd0) rfl rfl (Nat.le_of_ble_eq_true rfl) ?_
      refine z_if_ne 59 dX12_canLight_27 rfl (fun hc7 => ?_) (fun hc7 => ?_)
      · replace h := oT hc7 h
        refine z_iconst (M := mX12_canLight) (v := 0) dX12_canLight_59 rfl ?_
        cases h
        exact z_zret dX12_canLight_60 rfl rfl
      · replace h := oFn hc7 h
        refine z_aload_n dX12_canLight_30 0 rfl ?_
        refine y_getR (M := mX12_canLight) (r := 314) dX12_canLight_31 zk_313 flRX12_7 fr_10_0.1 (fr_10_0.2 _) ?_
        refine z_bipush (M := mX12_canLight) (v := 10) dX12_canLight_34 rfl ?_
        refine y_iald (M := mX12_canLight) (jj := 10) dX12_canLight_36 zk_314 rfl rfl ?_
        refine z_aload_n dX12_canLight_37 0 rfl ?_
        refine y_getR (M := mX12_canLight) (r := 314) dX12_canLight_38 zk_313 flRX12_7 fr_10_0.1 (fr_10_0.2 _) ?_
        refine z_iconst (M := mX12_canLight) (v := 1) dX12_canLight_41 rfl ?_
        refine y_iald (M := mX12_canLight) (jj := 1) dX12_canLight_42 zk_314 rfl rfl ?_
        refine z_icmp_ge 59 dX12_canLight_43 rfl (fun hc8 => ?_) (fun hc8 => ?_)
        · replace h := oT hc8 h
          refine z_iconst (M := mX12_canLight) (v := 0) dX12_canLight_59 rfl ?_
          cases h
          exact z_zret dX12_canLight_60 rfl rfl
        · replace h := oF hc8 h
          refine z_aload_n dX12_canLight_46 0 rfl ?_
          refine z_iload_n dX12_canLight_47 1 rfl ?_
          refine z_iload_n dX12_canLight_48 2 rfl ?_
          obtain ⟨v9, he9, h⟩ := obind h
          refine y_Vi (M := mX12_canLight) (Y := mX12_lightsOf) (d2 := d - 1) (As := [.int x1, .int x2]) (st := []) dX12_canLight_49 mlRX12_353 cv_X12_lightsOf zk_313 (ct_Md_lightsOf (dle (Nat.le_of_ble_eq_true rfl) hd0) he9) (dps (Nat.le_of_ble_eq_true rfl) hd0) rfl rfl (Nat.le_of_ble_eq_true rfl) ?_
          refine z_if_le 59 dX12_canLight_52 rfl (fun hc10 => ?_) (fun hc10 => ?_)
          · replace h := oT hc10 h
            refine z_iconst (M := mX12_canLight) (v := 0) dX12_canLight_59 rfl ?_
            cases h
            exact z_zret dX12_canLight_60 rfl rfl
          · replace h := oF hc10 h
            refine z_iconst (M := mX12_canLight) (v := 1) dX12_canLight_55 rfl ?_
            refine z_goto 60 dX12_canLight_56 rfl ?_
            cases h
            exact z_zret dX12_canLight_60 rfl rfl
theorem ct_Md_canLight {g : GG} {d : Nat} {x1 : Int32} {x2 : Int32} {ν : Nm} {r : (Bool × Nm)} (hd0 : 8 ≤ d)  (h : Md_canLight x1 x2 ν = some r) : Ct g d mX12_canLight [.ref 313, .int x1, .int x2] (zem ν) (some (.int (b2i r.1)), zem r.2) := y_entry in_X12_canLight (Nat.le_of_ble_eq_true rfl) rfl (t_Md_canLight hd0 x1 x2 ν r h)
-- FuseMinutesModel.anew()V
theorem dX12_anew_0 : decode cX12_anew 0 = .ok (.aload_n 0, 1) := by decide +kernel
theorem dX12_anew_1 : decode cX12_anew 1 = .ok (.getfield 7, 3) := by decide +kernel
theorem dX12_anew_4 : decode cX12_anew 4 = .ok (.bipush 9, 2) := by decide +kernel
theorem dX12_anew_6 : decode cX12_anew 6 = .ok (.aload_n 0, 1) := by decide +kernel
theorem dX12_anew_7 : decode cX12_anew 7 = .ok (.getfield 7, 3) := by decide +kernel
theorem dX12_anew_10 : decode cX12_anew 10 = .ok (.bipush 9, 2) := by decide +kernel
theorem dX12_anew_12 : decode cX12_anew 12 = .ok (.iaload, 1) := by decide +kernel
theorem dX12_anew_13 : decode cX12_anew 13 = .ok (.i2l, 1) := by decide +kernel
theorem dX12_anew_14 : decode cX12_anew 14 = .ok (.ldc2_w 326, 3) := by decide +kernel
theorem dX12_anew_17 : decode cX12_anew 17 = .ok (.lmul, 1) := by decide +kernel
theorem dX12_anew_18 : decode cX12_anew 18 = .ok (.ldc2_w 328, 3) := by decide +kernel
theorem dX12_anew_21 : decode cX12_anew 21 = .ok (.ladd, 1) := by decide +kernel
theorem dX12_anew_22 : decode cX12_anew 22 = .ok (.ldc2_w 330, 3) := by decide +kernel
theorem dX12_anew_25 : decode cX12_anew 25 = .ok (.lrem, 1) := by decide +kernel
theorem dX12_anew_26 : decode cX12_anew 26 = .ok (.l2i, 1) := by decide +kernel
theorem dX12_anew_27 : decode cX12_anew 27 = .ok (.iastore, 1) := by decide +kernel
theorem dX12_anew_28 : decode cX12_anew 28 = .ok (.return_, 1) := by decide +kernel
def Md_anew_28 (ν : Nm) : Option Nm :=
  some ν
set_option maxRecDepth 100000 in
set_option maxHeartbeats 4000000 in
theorem t_Md_anew_28 {g : GG} {d : Nat} (hd0 : 1 ≤ d) : ∀ (ν : Nm) (r : Nm), Md_anew_28 ν = some r → Z g d (0, 0) mX12_anew 333 0 0 28 [] [] (zem ν) (zF g (none, zem r)) := by
  intro ν r h
  unfold Md_anew_28 at h
  cases h
  exact z_vret dX12_anew_28 rfl
def Md_anew (ν : Nm) : Option Nm :=
  Md_anew_28 (si ν 314 9 ((((gi ν 314 9).toInt64 * (569 : Int64)) + (439 : Int64)) - (((gi ν 314 9).toInt64 * (569 : Int64)) + (439 : Int64)) / (30781 : Int64) * (30781 : Int64)).toInt32)
set_option maxRecDepth 100000 in
set_option maxHeartbeats 4000000 in
theorem t_Md_anew {g : GG} {d : Nat} (hd0 : 1 ≤ d) : ∀ (ν : Nm) (r : Nm), Md_anew ν = some r → Z g d (0, 0) mX12_anew 333 0 0 0 [(0, .ref 313)] [] (zem ν) (zF g (none, zem r)) := by
  intro ν r h
  unfold Md_anew at h
  refine z_aload_n dX12_anew_0 0 rfl ?_
  refine y_getR (M := mX12_anew) (r := 314) dX12_anew_1 zk_313 flRX12_7 fr_10_0.1 (fr_10_0.2 _) ?_
  refine z_bipush (M := mX12_anew) (v := 9) dX12_anew_4 rfl ?_
  refine z_aload_n dX12_anew_6 0 rfl ?_
  refine y_getR (M := mX12_anew) (r := 314) dX12_anew_7 zk_313 flRX12_7 fr_10_0.1 (fr_10_0.2 _) ?_
  refine z_bipush (M := mX12_anew) (v := 9) dX12_anew_10 rfl ?_
  refine y_iald (M := mX12_anew) (jj := 9) dX12_anew_12 zk_314 rfl rfl ?_
  refine z_i2l dX12_anew_13 ?_
  refine z_ldc2 dX12_anew_14 csRX12_326 ?_
  refine z_lmul dX12_anew_17 ?_
  refine z_ldc2 dX12_anew_18 csRX12_328 ?_
  refine z_ladd dX12_anew_21 ?_
  refine z_ldc2 dX12_anew_22 csRX12_330 ?_
  refine z_lrem dX12_anew_25 (by decide) ?_
  refine z_l2i dX12_anew_26 ?_
  refine y_iast (M := mX12_anew) (jj := 9) dX12_anew_27 zk_314 rfl rfl ?_
  refine z_lv (lv2 := []) [] rfl ?_
  exact t_Md_anew_28 hd0  (si ν 314 9 ((((gi ν 314 9).toInt64 * (569 : Int64)) + (439 : Int64)) - (((gi ν 314 9).toInt64 * (569 : Int64)) + (439 : Int64)) / (30781 : Int64) * (30781 : Int64)).toInt32) _ h
theorem ct_Md_anew {g : GG} {d : Nat} {ν : Nm} {r : Nm} (hd0 : 1 ≤ d)  (h : Md_anew ν = some r) : Ct g d mX12_anew [.ref 313] (zem ν) (none, zem r) := y_entry in_X12_anew (Nat.le_of_ble_eq_true rfl) rfl (t_Md_anew hd0 ν r h)
-- FuseMinutesModel.failsOf(II)I
theorem dX12_failsOf_0 : decode cX12_failsOf 0 = .ok (.aload_n 0, 1) := by decide +kernel
theorem dX12_failsOf_1 : decode cX12_failsOf 1 = .ok (.iload_n 2, 1) := by decide +kernel
theorem dX12_failsOf_2 : decode cX12_failsOf 2 = .ok (.invokevirtual 319, 3) := by decide +kernel
theorem dX12_failsOf_5 : decode cX12_failsOf 5 = .ok (.aload_n 0, 1) := by decide +kernel
theorem dX12_failsOf_6 : decode cX12_failsOf 6 = .ok (.iload_n 1, 1) := by decide +kernel
theorem dX12_failsOf_7 : decode cX12_failsOf 7 = .ok (.iconst 1, 1) := by decide +kernel
theorem dX12_failsOf_8 : decode cX12_failsOf 8 = .ok (.iconst 0, 1) := by decide +kernel
theorem dX12_failsOf_9 : decode cX12_failsOf 9 = .ok (.iconst 0, 1) := by decide +kernel
theorem dX12_failsOf_10 : decode cX12_failsOf 10 = .ok (.bipush 10, 2) := by decide +kernel
theorem dX12_failsOf_12 : decode cX12_failsOf 12 = .ok (.invokevirtual 322, 3) := by decide +kernel
theorem dX12_failsOf_15 : decode cX12_failsOf 15 = .ok (.ireturn, 1) := by decide +kernel
def Md_failsOf (x1 : Int32) (x2 : Int32) (ν : Nm) : Option (Int32 × Nm) :=
  (Md_name x2 ν).bind fun v1 =>
  (Md_says x1 (1 : Int32) (0 : Int32) (0 : Int32) (10 : Int32) v1).bind fun v2 =>
  some (v2.1, v2.2)
set_option maxRecDepth 100000 in
set_option maxHeartbeats 4000000 in
theorem t_Md_failsOf {g : GG} {d : Nat} (hd0 : 7 ≤ d) : ∀ (x1 : Int32) (x2 : Int32) (ν : Nm) (r : (Int32 × Nm)), Md_failsOf x1 x2 ν = some r → Z g d (0, 0) mX12_failsOf 333 0 0 0 [(0, .ref 313), (1, .int x1), (2, .int x2)] [] (zem ν) (zF g (some (.int r.1), zem r.2)) := by
  intro x1 x2 ν r h
  unfold Md_failsOf at h
  refine z_aload_n dX12_failsOf_0 0 rfl ?_
  refine z_iload_n dX12_failsOf_1 2 rfl ?_
  obtain ⟨v1, he1, h⟩ := obind h
  refine y_Vv (M := mX12_failsOf) (Y := mX12_name) (d2 := d - 1) (As := [.int x2]) (st := []) dX12_failsOf_2 mlRX12_319 cv_X12_name zk_313 (ct_Md_name (dle (Nat.le_of_ble_eq_true rfl) hd0) he1) (dps (Nat.le_of_ble_eq_true rfl) hd0) rfl rfl (Nat.le_of_ble_eq_true rfl) ?_
  refine z_aload_n dX12_failsOf_5 0 rfl ?_
  refine z_iload_n dX12_failsOf_6 1 rfl ?_
  refine z_iconst (M := mX12_failsOf) (v := 1) dX12_failsOf_7 rfl ?_
  refine z_iconst (M := mX12_failsOf) (v := 0) dX12_failsOf_8 rfl ?_
  refine z_iconst (M := mX12_failsOf) (v := 0) dX12_failsOf_9 rfl ?_
  refine z_bipush (M := mX12_failsOf) (v := 10) dX12_failsOf_10 rfl ?_
  obtain ⟨v2, he2, h⟩ := obind h
  refine y_Vi (M := mX12_failsOf) (Y := mX12_says) (d2 := d - 1) (As := [.int x1, .int (1 : Int32), .int (0 : Int32), .int (0 : Int32), .int (10 : Int32)]) (st := []) dX12_failsOf_12 mlRX12_322 cv_X12_says zk_313 (ct_Md_says (dle (Nat.le_of_ble_eq_true rfl) hd0) he2) (dps (Nat.le_of_ble_eq_true rfl) hd0) rfl rfl (Nat.le_of_ble_eq_true rfl) ?_
  cases h
  exact z_iret dX12_failsOf_15 rfl
theorem ct_Md_failsOf {g : GG} {d : Nat} {x1 : Int32} {x2 : Int32} {ν : Nm} {r : (Int32 × Nm)} (hd0 : 7 ≤ d)  (h : Md_failsOf x1 x2 ν = some r) : Ct g d mX12_failsOf [.ref 313, .int x1, .int x2] (zem ν) (some (.int r.1), zem r.2) := y_entry in_X12_failsOf (Nat.le_of_ble_eq_true rfl) rfl (t_Md_failsOf hd0 x1 x2 ν r h)
-- FuseMinutesModel.lightNow(IZ)I
theorem dX12_lightNow_0 : decode cX12_lightNow 0 = .ok (.aload_n 0, 1) := by decide +kernel
theorem dX12_lightNow_1 : decode cX12_lightNow 1 = .ok (.getfield 7, 3) := by decide +kernel
theorem dX12_lightNow_4 : decode cX12_lightNow 4 = .ok (.bipush 9, 2) := by decide +kernel
theorem dX12_lightNow_6 : decode cX12_lightNow 6 = .ok (.iaload, 1) := by decide +kernel
theorem dX12_lightNow_7 : decode cX12_lightNow 7 = .ok (.bipush 10, 2) := by decide +kernel
theorem dX12_lightNow_9 : decode cX12_lightNow 9 = .ok (.irem, 1) := by decide +kernel
theorem dX12_lightNow_10 : decode cX12_lightNow 10 = .ok (.aload_n 0, 1) := by decide +kernel
theorem dX12_lightNow_11 : decode cX12_lightNow 11 = .ok (.aload_n 0, 1) := by decide +kernel
theorem dX12_lightNow_12 : decode cX12_lightNow 12 = .ok (.getfield 7, 3) := by decide +kernel
theorem dX12_lightNow_15 : decode cX12_lightNow 15 = .ok (.iconst 3, 1) := by decide +kernel
theorem dX12_lightNow_16 : decode cX12_lightNow 16 = .ok (.iaload, 1) := by decide +kernel
theorem dX12_lightNow_17 : decode cX12_lightNow 17 = .ok (.iload_n 1, 1) := by decide +kernel
theorem dX12_lightNow_18 : decode cX12_lightNow 18 = .ok (.invokevirtual 357, 3) := by decide +kernel
theorem dX12_lightNow_21 : decode cX12_lightNow 21 = .ok (.if_icmp .ge 7, 3) := by decide +kernel
theorem dX12_lightNow_24 : decode cX12_lightNow 24 = .ok (.iconst 1, 1) := by decide +kernel
theorem dX12_lightNow_25 : decode cX12_lightNow 25 = .ok (.goto 4, 3) := by decide +kernel
theorem dX12_lightNow_28 : decode cX12_lightNow 28 = .ok (.iconst 0, 1) := by decide +kernel
theorem dX12_lightNow_29 : decode cX12_lightNow 29 = .ok (.istore_n 3, 1) := by decide +kernel
theorem dX12_lightNow_30 : decode cX12_lightNow 30 = .ok (.aload_n 0, 1) := by decide +kernel
theorem dX12_lightNow_31 : decode cX12_lightNow 31 = .ok (.invokevirtual 360, 3) := by decide +kernel
theorem dX12_lightNow_34 : decode cX12_lightNow 34 = .ok (.aload_n 0, 1) := by decide +kernel
theorem dX12_lightNow_35 : decode cX12_lightNow 35 = .ok (.getfield 7, 3) := by decide +kernel
theorem dX12_lightNow_38 : decode cX12_lightNow 38 = .ok (.bipush 10, 2) := by decide +kernel
theorem dX12_lightNow_40 : decode cX12_lightNow 40 = .ok (.dup2, 1) := by decide +kernel
theorem dX12_lightNow_41 : decode cX12_lightNow 41 = .ok (.iaload, 1) := by decide +kernel
theorem dX12_lightNow_42 : decode cX12_lightNow 42 = .ok (.iconst 1, 1) := by decide +kernel
theorem dX12_lightNow_43 : decode cX12_lightNow 43 = .ok (.iadd, 1) := by decide +kernel
theorem dX12_lightNow_44 : decode cX12_lightNow 44 = .ok (.iastore, 1) := by decide +kernel
theorem dX12_lightNow_45 : decode cX12_lightNow 45 = .ok (.iload_n 3, 1) := by decide +kernel
theorem dX12_lightNow_46 : decode cX12_lightNow 46 = .ok (.ifCond .ne 20, 3) := by decide +kernel
theorem dX12_lightNow_49 : decode cX12_lightNow 49 = .ok (.aload_n 0, 1) := by decide +kernel
theorem dX12_lightNow_50 : decode cX12_lightNow 50 = .ok (.iload_n 1, 1) := by decide +kernel
theorem dX12_lightNow_51 : decode cX12_lightNow 51 = .ok (.iconst 1, 1) := by decide +kernel
theorem dX12_lightNow_52 : decode cX12_lightNow 52 = .ok (.aload_n 0, 1) := by decide +kernel
theorem dX12_lightNow_53 : decode cX12_lightNow 53 = .ok (.iload_n 1, 1) := by decide +kernel
theorem dX12_lightNow_54 : decode cX12_lightNow 54 = .ok (.iconst 1, 1) := by decide +kernel
theorem dX12_lightNow_55 : decode cX12_lightNow 55 = .ok (.invokevirtual 96, 3) := by decide +kernel
theorem dX12_lightNow_58 : decode cX12_lightNow 58 = .ok (.iload_n 2, 1) := by decide +kernel
theorem dX12_lightNow_59 : decode cX12_lightNow 59 = .ok (.invokestatic 349, 3) := by decide +kernel
theorem dX12_lightNow_62 : decode cX12_lightNow 62 = .ok (.ior, 1) := by decide +kernel
theorem dX12_lightNow_63 : decode cX12_lightNow 63 = .ok (.invokevirtual 111, 3) := by decide +kernel
theorem dX12_lightNow_66 : decode cX12_lightNow 66 = .ok (.aload_n 0, 1) := by decide +kernel
theorem dX12_lightNow_67 : decode cX12_lightNow 67 = .ok (.iload_n 1, 1) := by decide +kernel
theorem dX12_lightNow_68 : decode cX12_lightNow 68 = .ok (.iload_n 3, 1) := by decide +kernel
theorem dX12_lightNow_69 : decode cX12_lightNow 69 = .ok (.ifCond .eq 7, 3) := by decide +kernel
theorem dX12_lightNow_72 : decode cX12_lightNow 72 = .ok (.iconst 1, 1) := by decide +kernel
theorem dX12_lightNow_73 : decode cX12_lightNow 73 = .ok (.goto 4, 3) := by decide +kernel
theorem dX12_lightNow_76 : decode cX12_lightNow 76 = .ok (.iconst 0, 1) := by decide +kernel
theorem dX12_lightNow_77 : decode cX12_lightNow 77 = .ok (.iload_n 2, 1) := by decide +kernel
theorem dX12_lightNow_78 : decode cX12_lightNow 78 = .ok (.ifCond .eq 7, 3) := by decide +kernel
theorem dX12_lightNow_81 : decode cX12_lightNow 81 = .ok (.iconst 1, 1) := by decide +kernel
theorem dX12_lightNow_82 : decode cX12_lightNow 82 = .ok (.goto 4, 3) := by decide +kernel
theorem dX12_lightNow_85 : decode cX12_lightNow 85 = .ok (.iconst 0, 1) := by decide +kernel
theorem dX12_lightNow_86 : decode cX12_lightNow 86 = .ok (.invokevirtual 340, 3) := by decide +kernel
theorem dX12_lightNow_89 : decode cX12_lightNow 89 = .ok (.iload_n 3, 1) := by decide +kernel
theorem dX12_lightNow_90 : decode cX12_lightNow 90 = .ok (.ifCond .eq 7, 3) := by decide +kernel
theorem dX12_lightNow_93 : decode cX12_lightNow 93 = .ok (.iconst 0, 1) := by decide +kernel
theorem dX12_lightNow_94 : decode cX12_lightNow 94 = .ok (.goto 4, 3) := by decide +kernel
theorem dX12_lightNow_97 : decode cX12_lightNow 97 = .ok (.iconst 1, 1) := by decide +kernel
theorem dX12_lightNow_98 : decode cX12_lightNow 98 = .ok (.ireturn, 1) := by decide +kernel
def Md_lightNow_86 (x3 : Int32) (s0 : Int32) (s1 : Int32) (s2 : Int32) (ν : Nm) : Option (Int32 × Nm) :=
  (Md_write s2 s1 s0 ν).bind fun v1 =>
  (if x3 = 0 then
    some ((1 : Int32), v1)
  else
    some ((0 : Int32), v1))
set_option maxRecDepth 100000 in
set_option maxHeartbeats 4000000 in
theorem t_Md_lightNow_86 {g : GG} {d : Nat} (hd0 : 8 ≤ d) : ∀ (x3 : Int32) (s0 : Int32) (s1 : Int32) (s2 : Int32) (ν : Nm) (r : (Int32 × Nm)), Md_lightNow_86 x3 s0 s1 s2 ν = some r → Z g d (0, 0) mX12_lightNow 333 0 0 86 [(3, .int x3)] [.int s0, .int s1, .int s2, .ref 313] (zem ν) (zF g (some (.int r.1), zem r.2)) := by
  intro x3 s0 s1 s2 ν r h
  unfold Md_lightNow_86 at h
  obtain ⟨v1, he1, h⟩ := obind h
  refine y_Vv (M := mX12_lightNow) (Y := mX12_write) (d2 := d - 1) (As := [.int s2, .int s1, .int s0]) (st := []) dX12_lightNow_86 mlRX12_340 cv_X12_write zk_313 (ct_Md_write (dle (Nat.le_of_ble_eq_true rfl) hd0) he1) (dps (Nat.le_of_ble_eq_true rfl) hd0) rfl rfl (Nat.le_of_ble_eq_true rfl) ?_
  refine z_iload_n dX12_lightNow_89 0 rfl ?_
  refine z_if_eq 97 dX12_lightNow_90 rfl (fun hc2 => ?_) (fun hc2 => ?_)
  · replace h := oT hc2 h
    refine z_iconst (M := mX12_lightNow) (v := 1) dX12_lightNow_97 rfl ?_
    cases h
    exact z_iret dX12_lightNow_98 rfl
  · replace h := oF hc2 h
    refine z_iconst (M := mX12_lightNow) (v := 0) dX12_lightNow_93 rfl ?_
    refine z_goto 98 dX12_lightNow_94 rfl ?_
    cases h
    exact z_iret dX12_lightNow_98 rfl
def Md_lightNow_77 (x2 : Int32) (x3 : Int32) (s0 : Int32) (s1 : Int32) (ν : Nm) : Option (Int32 × Nm) :=
  (if x2 = 0 then
    Md_lightNow_86 x3 (0 : Int32) s0 s1 ν
  else
    Md_lightNow_86 x3 (1 : Int32) s0 s1 ν)
set_option maxRecDepth 100000 in
set_option maxHeartbeats 4000000 in
theorem t_Md_lightNow_77 {g : GG} {d : Nat} (hd0 : 8 ≤ d) : ∀ (x2 : Int32) (x3 : Int32) (s0 : Int32) (s1 : Int32) (ν : Nm) (r : (Int32 × Nm)), Md_lightNow_77 x2 x3 s0 s1 ν = some r → Z g d (0, 0) mX12_lightNow 333 0 0 77 [(2, .int x2), (3, .int x3)] [.int s0, .int s1, .ref 313] (zem ν) (zF g (some (.int r.1), zem r.2)) := by
  intro x2 x3 s0 s1 ν r h
  unfold Md_lightNow_77 at h
  refine z_iload_n dX12_lightNow_77 0 rfl ?_
  refine z_if_eq 85 dX12_lightNow_78 rfl (fun hc1 => ?_) (fun hc1 => ?_)
  · replace h := oT hc1 h
    refine z_iconst (M := mX12_lightNow) (v := 0) dX12_lightNow_85 rfl ?_
    refine z_lv (lv2 := [(3, .int x3)]) [1] rfl ?_
    exact t_Md_lightNow_86 hd0  x3 (0 : Int32) s0 s1 ν _ h
  · replace h := oF hc1 h
    refine z_iconst (M := mX12_lightNow) (v := 1) dX12_lightNow_81 rfl ?_
    refine z_goto 86 dX12_lightNow_82 rfl ?_
    refine z_lv (lv2 := [(3, .int x3)]) [1] rfl ?_
    exact t_Md_lightNow_86 hd0  x3 (1 : Int32) s0 s1 ν _ h
def Md_lightNow_66 (x1 : Int32) (x2 : Int32) (x3 : Int32) (ν : Nm) : Option (Int32 × Nm) :=
  (if x3 = 0 then
    Md_lightNow_77 x2 x3 (0 : Int32) x1 ν
  else
    Md_lightNow_77 x2 x3 (1 : Int32) x1 ν)
set_option maxRecDepth 100000 in
set_option maxHeartbeats 4000000 in
theorem t_Md_lightNow_66 {g : GG} {d : Nat} (hd0 : 8 ≤ d) : ∀ (x1 : Int32) (x2 : Int32) (x3 : Int32) (ν : Nm) (r : (Int32 × Nm)), Md_lightNow_66 x1 x2 x3 ν = some r → Z g d (0, 0) mX12_lightNow 333 0 0 66 [(0, .ref 313), (1, .int x1), (2, .int x2), (3, .int x3)] [] (zem ν) (zF g (some (.int r.1), zem r.2)) := by
  intro x1 x2 x3 ν r h
  unfold Md_lightNow_66 at h
  refine z_aload_n dX12_lightNow_66 0 rfl ?_
  refine z_iload_n dX12_lightNow_67 1 rfl ?_
  refine z_iload_n dX12_lightNow_68 3 rfl ?_
  refine z_if_eq 76 dX12_lightNow_69 rfl (fun hc1 => ?_) (fun hc1 => ?_)
  · replace h := oT hc1 h
    refine z_iconst (M := mX12_lightNow) (v := 0) dX12_lightNow_76 rfl ?_
    refine z_lv (lv2 := [(2, .int x2), (3, .int x3)]) [2, 3] rfl ?_
    exact t_Md_lightNow_77 hd0  x2 x3 (0 : Int32) x1 ν _ h
  · replace h := oF hc1 h
    refine z_iconst (M := mX12_lightNow) (v := 1) dX12_lightNow_72 rfl ?_
    refine z_goto 77 dX12_lightNow_73 rfl ?_
    refine z_lv (lv2 := [(2, .int x2), (3, .int x3)]) [2, 3] rfl ?_
    exact t_Md_lightNow_77 hd0  x2 x3 (1 : Int32) x1 ν _ h
def Md_lightNow_29 (x1 : Int32) (x2 : Int32) (s0 : Int32) (ν : Nm) : Option (Int32 × Nm) :=
  (Md_anew ν).bind fun v1 =>
  (if ¬ s0 = 0 then
    Md_lightNow_66 x1 x2 s0 (si v1 314 10 ((gi v1 314 10) + (1 : Int32)))
  else
    (Md_get (si v1 314 10 ((gi v1 314 10) + (1 : Int32))) x1 (1 : Int32)).bind fun v3 =>
    (Md_sideBit x2).bind fun v4 =>
    (Md_put x1 (1 : Int32) (v3 ||| v4) (si v1 314 10 ((gi v1 314 10) + (1 : Int32)))).bind fun v5 =>
    Md_lightNow_66 x1 x2 s0 v5)
set_option maxRecDepth 100000 in
set_option maxHeartbeats 4000000 in
theorem t_Md_lightNow_29 {g : GG} {d : Nat} (hd0 : 8 ≤ d) : ∀ (x1 : Int32) (x2 : Int32) (s0 : Int32) (ν : Nm) (r : (Int32 × Nm)), Md_lightNow_29 x1 x2 s0 ν = some r → Z g d (0, 0) mX12_lightNow 333 0 0 29 [(0, .ref 313), (1, .int x1), (2, .int x2)] [.int s0] (zem ν) (zF g (some (.int r.1), zem r.2)) := by
  intro x1 x2 s0 ν r h
  unfold Md_lightNow_29 at h
  refine z_istore_n (M := mX12_lightNow) (lv2 := [(3, .int s0), (0, .ref 313), (1, .int x1), (2, .int x2)]) dX12_lightNow_29 (Nat.le_of_ble_eq_true rfl) rfl ?_
  refine z_aload_n dX12_lightNow_30 1 rfl ?_
  obtain ⟨v1, he1, h⟩ := obind h
  refine y_Vv (M := mX12_lightNow) (Y := mX12_anew) (d2 := d - 1) (As := []) (st := []) dX12_lightNow_31 mlRX12_360 cv_X12_anew zk_313 (ct_Md_anew (dle (Nat.le_of_ble_eq_true rfl) hd0) he1) (dps (Nat.le_of_ble_eq_true rfl) hd0) rfl rfl (Nat.le_of_ble_eq_true rfl) ?_
  refine z_aload_n dX12_lightNow_34 1 rfl ?_
  refine y_getR (M := mX12_lightNow) (r := 314) dX12_lightNow_35 zk_313 flRX12_7 fr_10_0.1 (fr_10_0.2 _) ?_
  refine z_bipush (M := mX12_lightNow) (v := 10) dX12_lightNow_38 rfl ?_
  refine z_dup2 dX12_lightNow_40 rfl rfl ?_
  refine y_iald (M := mX12_lightNow) (jj := 10) dX12_lightNow_41 zk_314 rfl rfl ?_
  refine z_iconst (M := mX12_lightNow) (v := 1) dX12_lightNow_42 rfl ?_
  refine z_iadd dX12_lightNow_43 ?_
  refine y_iast (M := mX12_lightNow) (jj := 10) dX12_lightNow_44 zk_314 rfl rfl ?_
  refine z_iload_n dX12_lightNow_45 0 rfl ?_
  refine z_if_ne 66 dX12_lightNow_46 rfl (fun hc2 => ?_) (fun hc2 => ?_)
  · replace h := oT hc2 h
    refine z_lv (lv2 := [(0, .ref 313), (1, .int x1), (2, .int x2), (3, .int s0)]) [1, 2, 3, 0] rfl ?_
    exact t_Md_lightNow_66 hd0  x1 x2 s0 (si v1 314 10 ((gi v1 314 10) + (1 : Int32))) _ h
  · replace h := oFn hc2 h
    refine z_aload_n dX12_lightNow_49 1 rfl ?_
    refine z_iload_n dX12_lightNow_50 2 rfl ?_
    refine z_iconst (M := mX12_lightNow) (v := 1) dX12_lightNow_51 rfl ?_
    refine z_aload_n dX12_lightNow_52 1 rfl ?_
    refine z_iload_n dX12_lightNow_53 2 rfl ?_
    refine z_iconst (M := mX12_lightNow) (v := 1) dX12_lightNow_54 rfl ?_
    obtain ⟨v3, he3, h⟩ := obind h
    refine y_Vi (M := mX12_lightNow) (Y := mX12_get) (d2 := d - 1) (As := [.int x1, .int (1 : Int32)]) (st := [.int (1 : Int32), .int x1, .ref 313]) dX12_lightNow_55 mlRX12_96 cv_X12_get zk_313 (ct_Md_get (dle (Nat.le_of_ble_eq_true rfl) hd0) he3) (dps (Nat.le_of_ble_eq_true rfl) hd0) rfl rfl (Nat.le_of_ble_eq_true rfl) ?_
    refine z_iload_n dX12_lightNow_58 3 rfl ?_
    obtain ⟨v4, he4, h⟩ := obind h
    refine y_Si (M := mX12_lightNow) (Y := mX12_sideBit) (d2 := d - 1) (As := [.int x2]) (st := [.int v3, .int (1 : Int32), .int x1, .ref 313]) dX12_lightNow_59 mlRX12_349 cv_X12_sideBit (ct_Md_sideBit (dle (Nat.le_of_ble_eq_true rfl) hd0) he4) (dps (Nat.le_of_ble_eq_true rfl) hd0) rfl rfl (Nat.le_of_ble_eq_true rfl) ?_
    refine z_ior dX12_lightNow_62 ?_
    obtain ⟨v5, he5, h⟩ := obind h
    refine y_Vv (M := mX12_lightNow) (Y := mX12_put) (d2 := d - 1) (As := [.int x1, .int (1 : Int32), .int (v3 ||| v4)]) (st := []) dX12_lightNow_63 mlRX12_111 cv_X12_put zk_313 (ct_Md_put (dle (Nat.le_of_ble_eq_true rfl) hd0) he5) (dps (Nat.le_of_ble_eq_true rfl) hd0) rfl rfl (Nat.le_of_ble_eq_true rfl) ?_
    refine z_lv (lv2 := [(0, .ref 313), (1, .int x1), (2, .int x2), (3, .int s0)]) [1, 2, 3, 0] rfl ?_
    exact t_Md_lightNow_66 hd0  x1 x2 s0 v5 _ h
def Md_lightNow (x1 : Int32) (x2 : Int32) (ν : Nm) : Option (Int32 × Nm) :=
  (Md_failsOf (gi ν 314 3) x1 ν).bind fun v1 =>
  (if v1.1 ≤ ((gi ν 314 9) - (gi ν 314 9) / (10 : Int32) * (10 : Int32)) then
    Md_lightNow_29 x1 x2 (0 : Int32) v1.2
  else
    Md_lightNow_29 x1 x2 (1 : Int32) v1.2)
set_option maxRecDepth 100000 in
set_option maxHeartbeats 4000000 in
theorem t_Md_lightNow {g : GG} {d : Nat} (hd0 : 8 ≤ d) : ∀ (x1 : Int32) (x2 : Int32) (ν : Nm) (r : (Int32 × Nm)), Md_lightNow x1 x2 ν = some r → Z g d (0, 0) mX12_lightNow 333 0 0 0 [(0, .ref 313), (1, .int x1), (2, .int x2)] [] (zem ν) (zF g (some (.int r.1), zem r.2)) := by
  intro x1 x2 ν r h
  unfold Md_lightNow at h
  refine z_aload_n dX12_lightNow_0 0 rfl ?_
  refine y_getR (M := mX12_lightNow) (r := 314) dX12_lightNow_1 zk_313 flRX12_7 fr_10_0.1 (fr_10_0.2 _) ?_
  refine z_bipush (M := mX12_lightNow) (v := 9) dX12_lightNow_4 rfl ?_
  refine y_iald (M := mX12_lightNow) (jj := 9) dX12_lightNow_6 zk_314 rfl rfl ?_
  refine z_bipush (M := mX12_lightNow) (v := 10) dX12_lightNow_7 rfl ?_
  refine z_irem dX12_lightNow_9 (by decide) ?_
  refine z_aload_n dX12_lightNow_10 0 rfl ?_
  refine z_aload_n dX12_lightNow_11 0 rfl ?_
  refine y_getR (M := mX12_lightNow) (r := 314) dX12_lightNow_12 zk_313 flRX12_7 fr_10_0.1 (fr_10_0.2 _) ?_
  refine z_iconst (M := mX12_lightNow) (v := 3) dX12_lightNow_15 rfl ?_
  refine y_iald (M := mX12_lightNow) (jj := 3) dX12_lightNow_16 zk_314 rfl rfl ?_
  refine z_iload_n dX12_lightNow_17 1 rfl ?_
  obtain ⟨v1, he1, h⟩ := obind h
  refine y_Vi (M := mX12_lightNow) (Y := mX12_failsOf) (d2 := d - 1) (As := [.int (gi ν 314 3), .int x1]) (st := [.int ((gi ν 314 9) - (gi ν 314 9) / (10 : Int32) * (10 : Int32))]) dX12_lightNow_18 mlRX12_357 cv_X12_failsOf zk_313 (ct_Md_failsOf (dle (Nat.le_of_ble_eq_true rfl) hd0) he1) (dps (Nat.le_of_ble_eq_true rfl) hd0) rfl rfl (Nat.le_of_ble_eq_true rfl) ?_
  refine z_icmp_ge 28 dX12_lightNow_21 rfl (fun hc2 => ?_) (fun hc2 => ?_)
  · replace h := oT hc2 h
    refine z_iconst (M := mX12_lightNow) (v := 0) dX12_lightNow_28 rfl ?_
    exact t_Md_lightNow_29 hd0  x1 x2 (0 : Int32) v1.2 _ h
  · replace h := oF hc2 h
    refine z_iconst (M := mX12_lightNow) (v := 1) dX12_lightNow_24 rfl ?_
    refine z_goto 29 dX12_lightNow_25 rfl ?_
    exact t_Md_lightNow_29 hd0  x1 x2 (1 : Int32) v1.2 _ h
theorem ct_Md_lightNow {g : GG} {d : Nat} {x1 : Int32} {x2 : Int32} {ν : Nm} {r : (Int32 × Nm)} (hd0 : 8 ≤ d)  (h : Md_lightNow x1 x2 ν = some r) : Ct g d mX12_lightNow [.ref 313, .int x1, .int x2] (zem ν) (some (.int r.1), zem r.2) := y_entry in_X12_lightNow (Nat.le_of_ble_eq_true rfl) rfl (t_Md_lightNow hd0 x1 x2 ν r h)
-- FuseMinutesModel.light(IZ)I
theorem dX12_light_0 : decode cX12_light 0 = .ok (.aload_n 0, 1) := by decide +kernel
theorem dX12_light_1 : decode cX12_light 1 = .ok (.iload_n 1, 1) := by decide +kernel
theorem dX12_light_2 : decode cX12_light 2 = .ok (.iload_n 2, 1) := by decide +kernel
theorem dX12_light_3 : decode cX12_light 3 = .ok (.invokevirtual 363, 3) := by decide +kernel
theorem dX12_light_6 : decode cX12_light 6 = .ok (.ifCond .ne 5, 3) := by decide +kernel
theorem dX12_light_9 : decode cX12_light 9 = .ok (.iconst (-1), 1) := by decide +kernel
theorem dX12_light_10 : decode cX12_light 10 = .ok (.ireturn, 1) := by decide +kernel
theorem dX12_light_11 : decode cX12_light 11 = .ok (.aload_n 0, 1) := by decide +kernel
theorem dX12_light_12 : decode cX12_light 12 = .ok (.invokevirtual 367, 3) := by decide +kernel
theorem dX12_light_15 : decode cX12_light 15 = .ok (.aload_n 0, 1) := by decide +kernel
theorem dX12_light_16 : decode cX12_light 16 = .ok (.iload_n 1, 1) := by decide +kernel
theorem dX12_light_17 : decode cX12_light 17 = .ok (.iload_n 2, 1) := by decide +kernel
theorem dX12_light_18 : decode cX12_light 18 = .ok (.invokevirtual 370, 3) := by decide +kernel
theorem dX12_light_21 : decode cX12_light 21 = .ok (.ireturn, 1) := by decide +kernel
def Md_light (x1 : Int32) (x2 : Int32) (ν : Nm) : Option (Int32 × Nm) :=
  (Md_canLight x1 x2 ν).bind fun v1 =>
  (if ¬ (b2i v1.1) = 0 then
    (Md_keep v1.2).bind fun v3 =>
    (Md_lightNow x1 x2 v3).bind fun v4 =>
    some (v4.1, v4.2)
  else
    some ((-1 : Int32), v1.2))
set_option maxRecDepth 100000 in
set_option maxHeartbeats 4000000 in
theorem t_Md_light {g : GG} {d : Nat} (hd0 : 9 ≤ d) : ∀ (x1 : Int32) (x2 : Int32) (ν : Nm) (r : (Int32 × Nm)), Md_light x1 x2 ν = some r → Z g d (0, 0) mX12_light 333 0 0 0 [(0, .ref 313), (1, .int x1), (2, .int x2)] [] (zem ν) (zF g (some (.int r.1), zem r.2)) := by
  intro x1 x2 ν r h
  unfold Md_light at h
  refine z_aload_n dX12_light_0 0 rfl ?_
  refine z_iload_n dX12_light_1 1 rfl ?_
  refine z_iload_n dX12_light_2 2 rfl ?_
  obtain ⟨v1, he1, h⟩ := obind h
  refine y_Vi (M := mX12_light) (Y := mX12_canLight) (d2 := d - 1) (As := [.int x1, .int x2]) (st := []) dX12_light_3 mlRX12_363 cv_X12_canLight zk_313 (ct_Md_canLight (dle (Nat.le_of_ble_eq_true rfl) hd0) he1) (dps (Nat.le_of_ble_eq_true rfl) hd0) rfl rfl (Nat.le_of_ble_eq_true rfl) ?_
  refine z_if_ne 11 dX12_light_6 rfl (fun hc2 => ?_) (fun hc2 => ?_)
  · replace h := oT hc2 h
    refine z_aload_n dX12_light_11 0 rfl ?_
    obtain ⟨v3, he3, h⟩ := obind h
    refine y_Vv (M := mX12_light) (Y := mX12_keep) (d2 := d - 1) (As := []) (st := []) dX12_light_12 mlRX12_367 cv_X12_keep zk_313 (ct_Md_keep (dle (Nat.le_of_ble_eq_true rfl) hd0) he3) (dps (Nat.le_of_ble_eq_true rfl) hd0) rfl rfl (Nat.le_of_ble_eq_true rfl) ?_
    refine z_aload_n dX12_light_15 0 rfl ?_
    refine z_iload_n dX12_light_16 1 rfl ?_
    refine z_iload_n dX12_light_17 2 rfl ?_
    obtain ⟨v4, he4, h⟩ := obind h
    refine y_Vi (M := mX12_light) (Y := mX12_lightNow) (d2 := d - 1) (As := [.int x1, .int x2]) (st := []) dX12_light_18 mlRX12_370 cv_X12_lightNow zk_313 (ct_Md_lightNow (dle (Nat.le_of_ble_eq_true rfl) hd0) he4) (dps (Nat.le_of_ble_eq_true rfl) hd0) rfl rfl (Nat.le_of_ble_eq_true rfl) ?_
    cases h
    exact z_iret dX12_light_21 rfl
  · replace h := oFn hc2 h
    refine z_iconst (M := mX12_light) (v := -1) dX12_light_9 rfl ?_
    cases h
    exact z_iret dX12_light_10 rfl
theorem ct_Md_light {g : GG} {d : Nat} {x1 : Int32} {x2 : Int32} {ν : Nm} {r : (Int32 × Nm)} (hd0 : 9 ≤ d)  (h : Md_light x1 x2 ν = some r) : Ct g d mX12_light [.ref 313, .int x1, .int x2] (zem ν) (some (.int r.1), zem r.2) := y_entry in_X12_light (Nat.le_of_ble_eq_true rfl) rfl (t_Md_light hd0 x1 x2 ν r h)
-- FuseMinutesModel.canRenew(I)Z
theorem dX12_canRenew_0 : decode cX12_canRenew 0 = .ok (.aload_n 0, 1) := by decide +kernel
theorem dX12_canRenew_1 : decode cX12_canRenew 1 = .ok (.iload_n 1, 1) := by decide +kernel
theorem dX12_canRenew_2 : decode cX12_canRenew 2 = .ok (.invokevirtual 115, 3) := by decide +kernel
theorem dX12_canRenew_5 : decode cX12_canRenew 5 = .ok (.ifCond .eq 30, 3) := by decide +kernel
theorem dX12_canRenew_8 : decode cX12_canRenew 8 = .ok (.aload_n 0, 1) := by decide +kernel
theorem dX12_canRenew_9 : decode cX12_canRenew 9 = .ok (.iload_n 1, 1) := by decide +kernel
theorem dX12_canRenew_10 : decode cX12_canRenew 10 = .ok (.iconst 0, 1) := by decide +kernel
theorem dX12_canRenew_11 : decode cX12_canRenew 11 = .ok (.invokevirtual 96, 3) := by decide +kernel
theorem dX12_canRenew_14 : decode cX12_canRenew 14 = .ok (.aload_n 0, 1) := by decide +kernel
theorem dX12_canRenew_15 : decode cX12_canRenew 15 = .ok (.iload_n 1, 1) := by decide +kernel
theorem dX12_canRenew_16 : decode cX12_canRenew 16 = .ok (.invokevirtual 108, 3) := by decide +kernel
theorem dX12_canRenew_19 : decode cX12_canRenew 19 = .ok (.if_icmp .lt 12, 3) := by decide +kernel
theorem dX12_canRenew_22 : decode cX12_canRenew 22 = .ok (.aload_n 0, 1) := by decide +kernel
theorem dX12_canRenew_23 : decode cX12_canRenew 23 = .ok (.iload_n 1, 1) := by decide +kernel
theorem dX12_canRenew_24 : decode cX12_canRenew 24 = .ok (.iconst 1, 1) := by decide +kernel
theorem dX12_canRenew_25 : decode cX12_canRenew 25 = .ok (.invokevirtual 96, 3) := by decide +kernel
theorem dX12_canRenew_28 : decode cX12_canRenew 28 = .ok (.ifCond .eq 7, 3) := by decide +kernel
theorem dX12_canRenew_31 : decode cX12_canRenew 31 = .ok (.iconst 1, 1) := by decide +kernel
theorem dX12_canRenew_32 : decode cX12_canRenew 32 = .ok (.goto 4, 3) := by decide +kernel
theorem dX12_canRenew_35 : decode cX12_canRenew 35 = .ok (.iconst 0, 1) := by decide +kernel
theorem dX12_canRenew_36 : decode cX12_canRenew 36 = .ok (.ireturn, 1) := by decide +kernel
def Md_canRenew (ν : Nm) (x1 : Int32) : Option Bool :=
  (Md_isCord ν x1).bind fun v1 =>
  (if (b2i v1) = 0 then
    some false
  else
    (Md_get ν x1 (0 : Int32)).bind fun v3 =>
    (Md_full ν x1).bind fun v4 =>
    (if v3 < v4 then
      some true
    else
      (Md_get ν x1 (1 : Int32)).bind fun v6 =>
      (if v6 = 0 then
        some false
      else
        some true)))
set_option maxRecDepth 100000 in
set_option maxHeartbeats 4000000 in
theorem t_Md_canRenew {g : GG} {d : Nat} {ν : Nm} (hd0 : 3 ≤ d) : ∀ (x1 : Int32) (r : Bool), Md_canRenew ν x1 = some r → Z g d (0, 0) mX12_canRenew 333 0 0 0 [(0, .ref 313), (1, .int x1)] [] (zem ν) (zF g (some (.int (b2i r)), zem ν)) := by
  intro x1 r h
  unfold Md_canRenew at h
  refine z_aload_n dX12_canRenew_0 0 rfl ?_
  refine z_iload_n dX12_canRenew_1 1 rfl ?_
  obtain ⟨v1, he1, h⟩ := obind h
  refine y_Vi (M := mX12_canRenew) (Y := mX12_isCord) (d2 := d - 1) (As := [.int x1]) (st := []) dX12_canRenew_2 mlRX12_115 cv_X12_isCord zk_313 (ct_Md_isCord (dle (Nat.le_of_ble_eq_true rfl) hd0) he1) (dps (Nat.le_of_ble_eq_true rfl) hd0) rfl rfl (Nat.le_of_ble_eq_true rfl) ?_
  refine z_if_eq 35 dX12_canRenew_5 rfl (fun hc2 => ?_) (fun hc2 => ?_)
  · replace h := oT hc2 h
    refine z_iconst (M := mX12_canRenew) (v := 0) dX12_canRenew_35 rfl ?_
    cases h
    exact z_zret dX12_canRenew_36 rfl rfl
  · replace h := oF hc2 h
    refine z_aload_n dX12_canRenew_8 0 rfl ?_
    refine z_iload_n dX12_canRenew_9 1 rfl ?_
    refine z_iconst (M := mX12_canRenew) (v := 0) dX12_canRenew_10 rfl ?_
    obtain ⟨v3, he3, h⟩ := obind h
    refine y_Vi (M := mX12_canRenew) (Y := mX12_get) (d2 := d - 1) (As := [.int x1, .int (0 : Int32)]) (st := []) dX12_canRenew_11 mlRX12_96 cv_X12_get zk_313 (ct_Md_get (dle (Nat.le_of_ble_eq_true rfl) hd0) he3) (dps (Nat.le_of_ble_eq_true rfl) hd0) rfl rfl (Nat.le_of_ble_eq_true rfl) ?_
    refine z_aload_n dX12_canRenew_14 0 rfl ?_
    refine z_iload_n dX12_canRenew_15 1 rfl ?_
    obtain ⟨v4, he4, h⟩ := obind h
    refine y_Vi (M := mX12_canRenew) (Y := mX12_full) (d2 := d - 1) (As := [.int x1]) (st := [.int v3]) dX12_canRenew_16 mlRX12_108 cv_X12_full zk_313 (ct_Md_full (dle (Nat.le_of_ble_eq_true rfl) hd0) he4) (dps (Nat.le_of_ble_eq_true rfl) hd0) rfl rfl (Nat.le_of_ble_eq_true rfl) ?_
    refine z_icmp_lt 31 dX12_canRenew_19 rfl (fun hc5 => ?_) (fun hc5 => ?_)
    · replace h := oT hc5 h
      refine z_iconst (M := mX12_canRenew) (v := 1) dX12_canRenew_31 rfl ?_
      refine z_goto 36 dX12_canRenew_32 rfl ?_
      cases h
      exact z_zret dX12_canRenew_36 rfl rfl
    · replace h := oF hc5 h
      refine z_aload_n dX12_canRenew_22 0 rfl ?_
      refine z_iload_n dX12_canRenew_23 1 rfl ?_
      refine z_iconst (M := mX12_canRenew) (v := 1) dX12_canRenew_24 rfl ?_
      obtain ⟨v6, he6, h⟩ := obind h
      refine y_Vi (M := mX12_canRenew) (Y := mX12_get) (d2 := d - 1) (As := [.int x1, .int (1 : Int32)]) (st := []) dX12_canRenew_25 mlRX12_96 cv_X12_get zk_313 (ct_Md_get (dle (Nat.le_of_ble_eq_true rfl) hd0) he6) (dps (Nat.le_of_ble_eq_true rfl) hd0) rfl rfl (Nat.le_of_ble_eq_true rfl) ?_
      refine z_if_eq 35 dX12_canRenew_28 rfl (fun hc7 => ?_) (fun hc7 => ?_)
      · replace h := oT hc7 h
        refine z_iconst (M := mX12_canRenew) (v := 0) dX12_canRenew_35 rfl ?_
        cases h
        exact z_zret dX12_canRenew_36 rfl rfl
      · replace h := oF hc7 h
        refine z_iconst (M := mX12_canRenew) (v := 1) dX12_canRenew_31 rfl ?_
        refine z_goto 36 dX12_canRenew_32 rfl ?_
        cases h
        exact z_zret dX12_canRenew_36 rfl rfl
theorem ct_Md_canRenew {g : GG} {d : Nat} {x1 : Int32} {ν : Nm} {r : Bool} (hd0 : 3 ≤ d)  (h : Md_canRenew ν x1 = some r) : Ct g d mX12_canRenew [.ref 313, .int x1] (zem ν) (some (.int (b2i r)), zem ν) := y_entry in_X12_canRenew (Nat.le_of_ble_eq_true rfl) rfl (t_Md_canRenew hd0 x1 r h)
-- FuseMinutesModel.renew(I)Z
theorem dX12_renew_0 : decode cX12_renew 0 = .ok (.aload_n 0, 1) := by decide +kernel
theorem dX12_renew_1 : decode cX12_renew 1 = .ok (.iload_n 1, 1) := by decide +kernel
theorem dX12_renew_2 : decode cX12_renew 2 = .ok (.invokevirtual 380, 3) := by decide +kernel
theorem dX12_renew_5 : decode cX12_renew 5 = .ok (.ifCond .ne 5, 3) := by decide +kernel
theorem dX12_renew_8 : decode cX12_renew 8 = .ok (.iconst 0, 1) := by decide +kernel
theorem dX12_renew_9 : decode cX12_renew 9 = .ok (.ireturn, 1) := by decide +kernel
theorem dX12_renew_10 : decode cX12_renew 10 = .ok (.aload_n 0, 1) := by decide +kernel
theorem dX12_renew_11 : decode cX12_renew 11 = .ok (.invokevirtual 367, 3) := by decide +kernel
theorem dX12_renew_14 : decode cX12_renew 14 = .ok (.aload_n 0, 1) := by decide +kernel
theorem dX12_renew_15 : decode cX12_renew 15 = .ok (.iload_n 1, 1) := by decide +kernel
theorem dX12_renew_16 : decode cX12_renew 16 = .ok (.invokevirtual 104, 3) := by decide +kernel
theorem dX12_renew_19 : decode cX12_renew 19 = .ok (.iconst 1, 1) := by decide +kernel
theorem dX12_renew_20 : decode cX12_renew 20 = .ok (.ireturn, 1) := by decide +kernel
def Md_renew (x1 : Int32) (ν : Nm) : Option (Bool × Nm) :=
  (Md_canRenew ν x1).bind fun v1 =>
  (if ¬ (b2i v1) = 0 then
    (Md_keep ν).bind fun v3 =>
    (Md_begin x1 v3).bind fun v4 =>
    some (true, v4)
  else
    some (false, ν))
set_option maxRecDepth 100000 in
set_option maxHeartbeats 4000000 in
theorem t_Md_renew {g : GG} {d : Nat} (hd0 : 4 ≤ d) : ∀ (x1 : Int32) (ν : Nm) (r : (Bool × Nm)), Md_renew x1 ν = some r → Z g d (0, 0) mX12_renew 333 0 0 0 [(0, .ref 313), (1, .int x1)] [] (zem ν) (zF g (some (.int (b2i r.1)), zem r.2)) := by
  intro x1 ν r h
  unfold Md_renew at h
  refine z_aload_n dX12_renew_0 0 rfl ?_
  refine z_iload_n dX12_renew_1 1 rfl ?_
  obtain ⟨v1, he1, h⟩ := obind h
  refine y_Vi (M := mX12_renew) (Y := mX12_canRenew) (d2 := d - 1) (As := [.int x1]) (st := []) dX12_renew_2 mlRX12_380 cv_X12_canRenew zk_313 (ct_Md_canRenew (dle (Nat.le_of_ble_eq_true rfl) hd0) he1) (dps (Nat.le_of_ble_eq_true rfl) hd0) rfl rfl (Nat.le_of_ble_eq_true rfl) ?_
  refine z_if_ne 10 dX12_renew_5 rfl (fun hc2 => ?_) (fun hc2 => ?_)
  · replace h := oT hc2 h
    refine z_aload_n dX12_renew_10 0 rfl ?_
    obtain ⟨v3, he3, h⟩ := obind h
    refine y_Vv (M := mX12_renew) (Y := mX12_keep) (d2 := d - 1) (As := []) (st := []) dX12_renew_11 mlRX12_367 cv_X12_keep zk_313 (ct_Md_keep (dle (Nat.le_of_ble_eq_true rfl) hd0) he3) (dps (Nat.le_of_ble_eq_true rfl) hd0) rfl rfl (Nat.le_of_ble_eq_true rfl) ?_
    refine z_aload_n dX12_renew_14 0 rfl ?_
    refine z_iload_n dX12_renew_15 1 rfl ?_
    obtain ⟨v4, he4, h⟩ := obind h
    refine y_Vv (M := mX12_renew) (Y := mX12_begin) (d2 := d - 1) (As := [.int x1]) (st := []) dX12_renew_16 mlRX12_104 cv_X12_begin zk_313 (ct_Md_begin (dle (Nat.le_of_ble_eq_true rfl) hd0) he4) (dps (Nat.le_of_ble_eq_true rfl) hd0) rfl rfl (Nat.le_of_ble_eq_true rfl) ?_
    refine z_iconst (M := mX12_renew) (v := 1) dX12_renew_19 rfl ?_
    cases h
    exact z_zret dX12_renew_20 rfl rfl
  · replace h := oFn hc2 h
    refine z_iconst (M := mX12_renew) (v := 0) dX12_renew_8 rfl ?_
    cases h
    exact z_zret dX12_renew_9 rfl rfl
theorem ct_Md_renew {g : GG} {d : Nat} {x1 : Int32} {ν : Nm} {r : (Bool × Nm)} (hd0 : 4 ≤ d)  (h : Md_renew x1 ν = some r) : Ct g d mX12_renew [.ref 313, .int x1] (zem ν) (some (.int (b2i r.1)), zem r.2) := y_entry in_X12_renew (Nat.le_of_ble_eq_true rfl) rfl (t_Md_renew hd0 x1 ν r h)
-- FuseMinutesModel.snuffNow(IZ)V
theorem dX12_snuffNow_0 : decode cX12_snuffNow 0 = .ok (.aload_n 0, 1) := by decide +kernel
theorem dX12_snuffNow_1 : decode cX12_snuffNow 1 = .ok (.iload_n 1, 1) := by decide +kernel
theorem dX12_snuffNow_2 : decode cX12_snuffNow 2 = .ok (.iconst 1, 1) := by decide +kernel
theorem dX12_snuffNow_3 : decode cX12_snuffNow 3 = .ok (.aload_n 0, 1) := by decide +kernel
theorem dX12_snuffNow_4 : decode cX12_snuffNow 4 = .ok (.iload_n 1, 1) := by decide +kernel
theorem dX12_snuffNow_5 : decode cX12_snuffNow 5 = .ok (.iconst 1, 1) := by decide +kernel
theorem dX12_snuffNow_6 : decode cX12_snuffNow 6 = .ok (.invokevirtual 96, 3) := by decide +kernel
theorem dX12_snuffNow_9 : decode cX12_snuffNow 9 = .ok (.iload_n 2, 1) := by decide +kernel
theorem dX12_snuffNow_10 : decode cX12_snuffNow 10 = .ok (.invokestatic 349, 3) := by decide +kernel
theorem dX12_snuffNow_13 : decode cX12_snuffNow 13 = .ok (.iconst (-1), 1) := by decide +kernel
theorem dX12_snuffNow_14 : decode cX12_snuffNow 14 = .ok (.ixor, 1) := by decide +kernel
theorem dX12_snuffNow_15 : decode cX12_snuffNow 15 = .ok (.iand, 1) := by decide +kernel
theorem dX12_snuffNow_16 : decode cX12_snuffNow 16 = .ok (.invokevirtual 111, 3) := by decide +kernel
theorem dX12_snuffNow_19 : decode cX12_snuffNow 19 = .ok (.aload_n 0, 1) := by decide +kernel
theorem dX12_snuffNow_20 : decode cX12_snuffNow 20 = .ok (.iload_n 1, 1) := by decide +kernel
theorem dX12_snuffNow_21 : decode cX12_snuffNow 21 = .ok (.iconst 2, 1) := by decide +kernel
theorem dX12_snuffNow_22 : decode cX12_snuffNow 22 = .ok (.iload_n 2, 1) := by decide +kernel
theorem dX12_snuffNow_23 : decode cX12_snuffNow 23 = .ok (.ifCond .eq 7, 3) := by decide +kernel
theorem dX12_snuffNow_26 : decode cX12_snuffNow 26 = .ok (.iconst 1, 1) := by decide +kernel
theorem dX12_snuffNow_27 : decode cX12_snuffNow 27 = .ok (.goto 4, 3) := by decide +kernel
theorem dX12_snuffNow_30 : decode cX12_snuffNow 30 = .ok (.iconst 0, 1) := by decide +kernel
theorem dX12_snuffNow_31 : decode cX12_snuffNow 31 = .ok (.invokevirtual 340, 3) := by decide +kernel
theorem dX12_snuffNow_34 : decode cX12_snuffNow 34 = .ok (.return_, 1) := by decide +kernel
def Md_snuffNow_31 (s0 : Int32) (s1 : Int32) (s2 : Int32) (ν : Nm) : Option Nm :=
  (Md_write s2 s1 s0 ν).bind fun v1 =>
  some v1
set_option maxRecDepth 100000 in
set_option maxHeartbeats 4000000 in
theorem t_Md_snuffNow_31 {g : GG} {d : Nat} (hd0 : 2 ≤ d) : ∀ (s0 : Int32) (s1 : Int32) (s2 : Int32) (ν : Nm) (r : Nm), Md_snuffNow_31 s0 s1 s2 ν = some r → Z g d (0, 0) mX12_snuffNow 333 0 0 31 [] [.int s0, .int s1, .int s2, .ref 313] (zem ν) (zF g (none, zem r)) := by
  intro s0 s1 s2 ν r h
  unfold Md_snuffNow_31 at h
  obtain ⟨v1, he1, h⟩ := obind h
  refine y_Vv (M := mX12_snuffNow) (Y := mX12_write) (d2 := d - 1) (As := [.int s2, .int s1, .int s0]) (st := []) dX12_snuffNow_31 mlRX12_340 cv_X12_write zk_313 (ct_Md_write (dle (Nat.le_of_ble_eq_true rfl) hd0) he1) (dps (Nat.le_of_ble_eq_true rfl) hd0) rfl rfl (Nat.le_of_ble_eq_true rfl) ?_
  cases h
  exact z_vret dX12_snuffNow_34 rfl
def Md_snuffNow (x1 : Int32) (x2 : Int32) (ν : Nm) : Option Nm :=
  (Md_get ν x1 (1 : Int32)).bind fun v1 =>
  (Md_sideBit x2).bind fun v2 =>
  (Md_put x1 (1 : Int32) (v1 &&& (v2 ^^^ (-1 : Int32))) ν).bind fun v3 =>
  (if x2 = 0 then
    Md_snuffNow_31 (0 : Int32) (2 : Int32) x1 v3
  else
    Md_snuffNow_31 (1 : Int32) (2 : Int32) x1 v3)
set_option maxRecDepth 100000 in
set_option maxHeartbeats 4000000 in
theorem t_Md_snuffNow {g : GG} {d : Nat} (hd0 : 2 ≤ d) : ∀ (x1 : Int32) (x2 : Int32) (ν : Nm) (r : Nm), Md_snuffNow x1 x2 ν = some r → Z g d (0, 0) mX12_snuffNow 333 0 0 0 [(0, .ref 313), (1, .int x1), (2, .int x2)] [] (zem ν) (zF g (none, zem r)) := by
  intro x1 x2 ν r h
  unfold Md_snuffNow at h
  refine z_aload_n dX12_snuffNow_0 0 rfl ?_
  refine z_iload_n dX12_snuffNow_1 1 rfl ?_
  refine z_iconst (M := mX12_snuffNow) (v := 1) dX12_snuffNow_2 rfl ?_
  refine z_aload_n dX12_snuffNow_3 0 rfl ?_
  refine z_iload_n dX12_snuffNow_4 1 rfl ?_
  refine z_iconst (M := mX12_snuffNow) (v := 1) dX12_snuffNow_5 rfl ?_
  obtain ⟨v1, he1, h⟩ := obind h
  refine y_Vi (M := mX12_snuffNow) (Y := mX12_get) (d2 := d - 1) (As := [.int x1, .int (1 : Int32)]) (st := [.int (1 : Int32), .int x1, .ref 313]) dX12_snuffNow_6 mlRX12_96 cv_X12_get zk_313 (ct_Md_get (dle (Nat.le_of_ble_eq_true rfl) hd0) he1) (dps (Nat.le_of_ble_eq_true rfl) hd0) rfl rfl (Nat.le_of_ble_eq_true rfl) ?_
  refine z_iload_n dX12_snuffNow_9 2 rfl ?_
  obtain ⟨v2, he2, h⟩ := obind h
  refine y_Si (M := mX12_snuffNow) (Y := mX12_sideBit) (d2 := d - 1) (As := [.int x2]) (st := [.int v1, .int (1 : Int32), .int x1, .ref 313]) dX12_snuffNow_10 mlRX12_349 cv_X12_sideBit (ct_Md_sideBit (dle (Nat.le_of_ble_eq_true rfl) hd0) he2) (dps (Nat.le_of_ble_eq_true rfl) hd0) rfl rfl (Nat.le_of_ble_eq_true rfl) ?_
  refine z_iconst (M := mX12_snuffNow) (v := -1) dX12_snuffNow_13 rfl ?_
  refine z_ixor dX12_snuffNow_14 ?_
  refine z_iand dX12_snuffNow_15 ?_
  obtain ⟨v3, he3, h⟩ := obind h
  refine y_Vv (M := mX12_snuffNow) (Y := mX12_put) (d2 := d - 1) (As := [.int x1, .int (1 : Int32), .int (v1 &&& (v2 ^^^ (-1 : Int32)))]) (st := []) dX12_snuffNow_16 mlRX12_111 cv_X12_put zk_313 (ct_Md_put (dle (Nat.le_of_ble_eq_true rfl) hd0) he3) (dps (Nat.le_of_ble_eq_true rfl) hd0) rfl rfl (Nat.le_of_ble_eq_true rfl) ?_
  refine z_aload_n dX12_snuffNow_19 0 rfl ?_
  refine z_iload_n dX12_snuffNow_20 1 rfl ?_
  refine z_iconst (M := mX12_snuffNow) (v := 2) dX12_snuffNow_21 rfl ?_
  refine z_iload_n dX12_snuffNow_22 2 rfl ?_
  refine z_if_eq 30 dX12_snuffNow_23 rfl (fun hc4 => ?_) (fun hc4 => ?_)
  · replace h := oT hc4 h
    refine z_iconst (M := mX12_snuffNow) (v := 0) dX12_snuffNow_30 rfl ?_
    refine z_lv (lv2 := []) [] rfl ?_
    exact t_Md_snuffNow_31 hd0  (0 : Int32) (2 : Int32) x1 v3 _ h
  · replace h := oF hc4 h
    refine z_iconst (M := mX12_snuffNow) (v := 1) dX12_snuffNow_26 rfl ?_
    refine z_goto 31 dX12_snuffNow_27 rfl ?_
    refine z_lv (lv2 := []) [] rfl ?_
    exact t_Md_snuffNow_31 hd0  (1 : Int32) (2 : Int32) x1 v3 _ h
theorem ct_Md_snuffNow {g : GG} {d : Nat} {x1 : Int32} {x2 : Int32} {ν : Nm} {r : Nm} (hd0 : 2 ≤ d)  (h : Md_snuffNow x1 x2 ν = some r) : Ct g d mX12_snuffNow [.ref 313, .int x1, .int x2] (zem ν) (none, zem r) := y_entry in_X12_snuffNow (Nat.le_of_ble_eq_true rfl) rfl (t_Md_snuffNow hd0 x1 x2 ν r h)
-- FuseMinutesModel.snuff(IZ)Z
theorem dX12_snuff_0 : decode cX12_snuff 0 = .ok (.aload_n 0, 1) := by decide +kernel
theorem dX12_snuff_1 : decode cX12_snuff 1 = .ok (.iload_n 1, 1) := by decide +kernel
theorem dX12_snuff_2 : decode cX12_snuff 2 = .ok (.iload_n 2, 1) := by decide +kernel
theorem dX12_snuff_3 : decode cX12_snuff 3 = .ok (.invokevirtual 373, 3) := by decide +kernel
theorem dX12_snuff_6 : decode cX12_snuff 6 = .ok (.ifCond .ne 5, 3) := by decide +kernel
theorem dX12_snuff_9 : decode cX12_snuff 9 = .ok (.iconst 0, 1) := by decide +kernel
theorem dX12_snuff_10 : decode cX12_snuff 10 = .ok (.ireturn, 1) := by decide +kernel
theorem dX12_snuff_11 : decode cX12_snuff 11 = .ok (.aload_n 0, 1) := by decide +kernel
theorem dX12_snuff_12 : decode cX12_snuff 12 = .ok (.invokevirtual 367, 3) := by decide +kernel
theorem dX12_snuff_15 : decode cX12_snuff 15 = .ok (.aload_n 0, 1) := by decide +kernel
theorem dX12_snuff_16 : decode cX12_snuff 16 = .ok (.iload_n 1, 1) := by decide +kernel
theorem dX12_snuff_17 : decode cX12_snuff 17 = .ok (.iload_n 2, 1) := by decide +kernel
theorem dX12_snuff_18 : decode cX12_snuff 18 = .ok (.invokevirtual 376, 3) := by decide +kernel
theorem dX12_snuff_21 : decode cX12_snuff 21 = .ok (.iconst 1, 1) := by decide +kernel
theorem dX12_snuff_22 : decode cX12_snuff 22 = .ok (.ireturn, 1) := by decide +kernel
def Md_snuff (x1 : Int32) (x2 : Int32) (ν : Nm) : Option (Bool × Nm) :=
  (Md_canSnuff ν x1 x2).bind fun v1 =>
  (if ¬ (b2i v1) = 0 then
    (Md_keep ν).bind fun v3 =>
    (Md_snuffNow x1 x2 v3).bind fun v4 =>
    some (true, v4)
  else
    some (false, ν))
set_option maxRecDepth 100000 in
set_option maxHeartbeats 4000000 in
theorem t_Md_snuff {g : GG} {d : Nat} (hd0 : 4 ≤ d) : ∀ (x1 : Int32) (x2 : Int32) (ν : Nm) (r : (Bool × Nm)), Md_snuff x1 x2 ν = some r → Z g d (0, 0) mX12_snuff 333 0 0 0 [(0, .ref 313), (1, .int x1), (2, .int x2)] [] (zem ν) (zF g (some (.int (b2i r.1)), zem r.2)) := by
  intro x1 x2 ν r h
  unfold Md_snuff at h
  refine z_aload_n dX12_snuff_0 0 rfl ?_
  refine z_iload_n dX12_snuff_1 1 rfl ?_
  refine z_iload_n dX12_snuff_2 2 rfl ?_
  obtain ⟨v1, he1, h⟩ := obind h
  refine y_Vi (M := mX12_snuff) (Y := mX12_canSnuff) (d2 := d - 1) (As := [.int x1, .int x2]) (st := []) dX12_snuff_3 mlRX12_373 cv_X12_canSnuff zk_313 (ct_Md_canSnuff (dle (Nat.le_of_ble_eq_true rfl) hd0) he1) (dps (Nat.le_of_ble_eq_true rfl) hd0) rfl rfl (Nat.le_of_ble_eq_true rfl) ?_
  refine z_if_ne 11 dX12_snuff_6 rfl (fun hc2 => ?_) (fun hc2 => ?_)
  · replace h := oT hc2 h
    refine z_aload_n dX12_snuff_11 0 rfl ?_
    obtain ⟨v3, he3, h⟩ := obind h
    refine y_Vv (M := mX12_snuff) (Y := mX12_keep) (d2 := d - 1) (As := []) (st := []) dX12_snuff_12 mlRX12_367 cv_X12_keep zk_313 (ct_Md_keep (dle (Nat.le_of_ble_eq_true rfl) hd0) he3) (dps (Nat.le_of_ble_eq_true rfl) hd0) rfl rfl (Nat.le_of_ble_eq_true rfl) ?_
    refine z_aload_n dX12_snuff_15 0 rfl ?_
    refine z_iload_n dX12_snuff_16 1 rfl ?_
    refine z_iload_n dX12_snuff_17 2 rfl ?_
    obtain ⟨v4, he4, h⟩ := obind h
    refine y_Vv (M := mX12_snuff) (Y := mX12_snuffNow) (d2 := d - 1) (As := [.int x1, .int x2]) (st := []) dX12_snuff_18 mlRX12_376 cv_X12_snuffNow zk_313 (ct_Md_snuffNow (dle (Nat.le_of_ble_eq_true rfl) hd0) he4) (dps (Nat.le_of_ble_eq_true rfl) hd0) rfl rfl (Nat.le_of_ble_eq_true rfl) ?_
    refine z_iconst (M := mX12_snuff) (v := 1) dX12_snuff_21 rfl ?_
    cases h
    exact z_zret dX12_snuff_22 rfl rfl
  · replace h := oFn hc2 h
    refine z_iconst (M := mX12_snuff) (v := 0) dX12_snuff_9 rfl ?_
    cases h
    exact z_zret dX12_snuff_10 rfl rfl
theorem ct_Md_snuff {g : GG} {d : Nat} {x1 : Int32} {x2 : Int32} {ν : Nm} {r : (Bool × Nm)} (hd0 : 4 ≤ d)  (h : Md_snuff x1 x2 ν = some r) : Ct g d mX12_snuff [.ref 313, .int x1, .int x2] (zem ν) (some (.int (b2i r.1)), zem r.2) := y_entry in_X12_snuff (Nat.le_of_ble_eq_true rfl) rfl (t_Md_snuff hd0 x1 x2 ν r h)
-- FuseMinutesModel.isPlayed(I)Z
theorem dX12_isPlayed_0 : decode cX12_isPlayed 0 = .ok (.aload_n 0, 1) := by decide +kernel
theorem dX12_isPlayed_1 : decode cX12_isPlayed 1 = .ok (.getfield 16, 3) := by decide +kernel
theorem dX12_isPlayed_4 : decode cX12_isPlayed 4 = .ok (.iload_n 1, 1) := by decide +kernel
theorem dX12_isPlayed_5 : decode cX12_isPlayed 5 = .ok (.iconst 1, 1) := by decide +kernel
theorem dX12_isPlayed_6 : decode cX12_isPlayed 6 = .ok (.iadd, 1) := by decide +kernel
theorem dX12_isPlayed_7 : decode cX12_isPlayed 7 = .ok (.iaload, 1) := by decide +kernel
theorem dX12_isPlayed_8 : decode cX12_isPlayed 8 = .ok (.istore_n 2, 1) := by decide +kernel
theorem dX12_isPlayed_9 : decode cX12_isPlayed 9 = .ok (.aload_n 0, 1) := by decide +kernel
theorem dX12_isPlayed_10 : decode cX12_isPlayed 10 = .ok (.getfield 16, 3) := by decide +kernel
theorem dX12_isPlayed_13 : decode cX12_isPlayed 13 = .ok (.iload_n 1, 1) := by decide +kernel
theorem dX12_isPlayed_14 : decode cX12_isPlayed 14 = .ok (.iaload, 1) := by decide +kernel
theorem dX12_isPlayed_15 : decode cX12_isPlayed 15 = .ok (.tableswitch 148 2 9 #[45, 67, 73, 88, 103, 123, 129, 142], 45) := by decide +kernel
theorem dX12_isPlayed_60 : decode cX12_isPlayed 60 = .ok (.aload_n 0, 1) := by decide +kernel
theorem dX12_isPlayed_61 : decode cX12_isPlayed 61 = .ok (.iload_n 2, 1) := by decide +kernel
theorem dX12_isPlayed_62 : decode cX12_isPlayed 62 = .ok (.aload_n 0, 1) := by decide +kernel
theorem dX12_isPlayed_63 : decode cX12_isPlayed 63 = .ok (.getfield 16, 3) := by decide +kernel
theorem dX12_isPlayed_66 : decode cX12_isPlayed 66 = .ok (.iload_n 1, 1) := by decide +kernel
theorem dX12_isPlayed_67 : decode cX12_isPlayed 67 = .ok (.iconst 2, 1) := by decide +kernel
theorem dX12_isPlayed_68 : decode cX12_isPlayed 68 = .ok (.iadd, 1) := by decide +kernel
theorem dX12_isPlayed_69 : decode cX12_isPlayed 69 = .ok (.iaload, 1) := by decide +kernel
theorem dX12_isPlayed_70 : decode cX12_isPlayed 70 = .ok (.invokevirtual 395, 3) := by decide +kernel
theorem dX12_isPlayed_73 : decode cX12_isPlayed 73 = .ok (.ifCond .lt 7, 3) := by decide +kernel
theorem dX12_isPlayed_76 : decode cX12_isPlayed 76 = .ok (.iconst 1, 1) := by decide +kernel
theorem dX12_isPlayed_77 : decode cX12_isPlayed 77 = .ok (.goto 4, 3) := by decide +kernel
theorem dX12_isPlayed_80 : decode cX12_isPlayed 80 = .ok (.iconst 0, 1) := by decide +kernel
theorem dX12_isPlayed_81 : decode cX12_isPlayed 81 = .ok (.ireturn, 1) := by decide +kernel
theorem dX12_isPlayed_82 : decode cX12_isPlayed 82 = .ok (.aload_n 0, 1) := by decide +kernel
theorem dX12_isPlayed_83 : decode cX12_isPlayed 83 = .ok (.iload_n 2, 1) := by decide +kernel
theorem dX12_isPlayed_84 : decode cX12_isPlayed 84 = .ok (.invokevirtual 398, 3) := by decide +kernel
theorem dX12_isPlayed_87 : decode cX12_isPlayed 87 = .ok (.ireturn, 1) := by decide +kernel
theorem dX12_isPlayed_88 : decode cX12_isPlayed 88 = .ok (.aload_n 0, 1) := by decide +kernel
theorem dX12_isPlayed_89 : decode cX12_isPlayed 89 = .ok (.iload_n 2, 1) := by decide +kernel
theorem dX12_isPlayed_90 : decode cX12_isPlayed 90 = .ok (.iconst 0, 1) := by decide +kernel
theorem dX12_isPlayed_91 : decode cX12_isPlayed 91 = .ok (.invokevirtual 401, 3) := by decide +kernel
theorem dX12_isPlayed_94 : decode cX12_isPlayed 94 = .ok (.ifCond .lt 7, 3) := by decide +kernel
theorem dX12_isPlayed_97 : decode cX12_isPlayed 97 = .ok (.iconst 1, 1) := by decide +kernel
theorem dX12_isPlayed_98 : decode cX12_isPlayed 98 = .ok (.goto 4, 3) := by decide +kernel
theorem dX12_isPlayed_101 : decode cX12_isPlayed 101 = .ok (.iconst 0, 1) := by decide +kernel
theorem dX12_isPlayed_102 : decode cX12_isPlayed 102 = .ok (.ireturn, 1) := by decide +kernel
theorem dX12_isPlayed_103 : decode cX12_isPlayed 103 = .ok (.aload_n 0, 1) := by decide +kernel
theorem dX12_isPlayed_104 : decode cX12_isPlayed 104 = .ok (.iload_n 2, 1) := by decide +kernel
theorem dX12_isPlayed_105 : decode cX12_isPlayed 105 = .ok (.iconst 1, 1) := by decide +kernel
theorem dX12_isPlayed_106 : decode cX12_isPlayed 106 = .ok (.invokevirtual 401, 3) := by decide +kernel
theorem dX12_isPlayed_109 : decode cX12_isPlayed 109 = .ok (.ifCond .lt 7, 3) := by decide +kernel
theorem dX12_isPlayed_112 : decode cX12_isPlayed 112 = .ok (.iconst 1, 1) := by decide +kernel
theorem dX12_isPlayed_113 : decode cX12_isPlayed 113 = .ok (.goto 4, 3) := by decide +kernel
theorem dX12_isPlayed_116 : decode cX12_isPlayed 116 = .ok (.iconst 0, 1) := by decide +kernel
theorem dX12_isPlayed_117 : decode cX12_isPlayed 117 = .ok (.ireturn, 1) := by decide +kernel
theorem dX12_isPlayed_118 : decode cX12_isPlayed 118 = .ok (.aload_n 0, 1) := by decide +kernel
theorem dX12_isPlayed_119 : decode cX12_isPlayed 119 = .ok (.iload_n 2, 1) := by decide +kernel
theorem dX12_isPlayed_120 : decode cX12_isPlayed 120 = .ok (.aload_n 0, 1) := by decide +kernel
theorem dX12_isPlayed_121 : decode cX12_isPlayed 121 = .ok (.iload_n 2, 1) := by decide +kernel
theorem dX12_isPlayed_122 : decode cX12_isPlayed 122 = .ok (.iconst 0, 1) := by decide +kernel
theorem dX12_isPlayed_123 : decode cX12_isPlayed 123 = .ok (.invokevirtual 373, 3) := by decide +kernel
theorem dX12_isPlayed_126 : decode cX12_isPlayed 126 = .ok (.ifCond .ne 7, 3) := by decide +kernel
theorem dX12_isPlayed_129 : decode cX12_isPlayed 129 = .ok (.iconst 1, 1) := by decide +kernel
theorem dX12_isPlayed_130 : decode cX12_isPlayed 130 = .ok (.goto 4, 3) := by decide +kernel
theorem dX12_isPlayed_133 : decode cX12_isPlayed 133 = .ok (.iconst 0, 1) := by decide +kernel
theorem dX12_isPlayed_134 : decode cX12_isPlayed 134 = .ok (.invokevirtual 404, 3) := by decide +kernel
theorem dX12_isPlayed_137 : decode cX12_isPlayed 137 = .ok (.ireturn, 1) := by decide +kernel
theorem dX12_isPlayed_138 : decode cX12_isPlayed 138 = .ok (.aload_n 0, 1) := by decide +kernel
theorem dX12_isPlayed_139 : decode cX12_isPlayed 139 = .ok (.iload_n 2, 1) := by decide +kernel
theorem dX12_isPlayed_140 : decode cX12_isPlayed 140 = .ok (.invokevirtual 407, 3) := by decide +kernel
theorem dX12_isPlayed_143 : decode cX12_isPlayed 143 = .ok (.ireturn, 1) := by decide +kernel
theorem dX12_isPlayed_144 : decode cX12_isPlayed 144 = .ok (.aload_n 0, 1) := by decide +kernel
theorem dX12_isPlayed_145 : decode cX12_isPlayed 145 = .ok (.invokevirtual 410, 3) := by decide +kernel
theorem dX12_isPlayed_148 : decode cX12_isPlayed 148 = .ok (.ifCond .lt 7, 3) := by decide +kernel
theorem dX12_isPlayed_151 : decode cX12_isPlayed 151 = .ok (.iconst 1, 1) := by decide +kernel
theorem dX12_isPlayed_152 : decode cX12_isPlayed 152 = .ok (.goto 4, 3) := by decide +kernel
theorem dX12_isPlayed_155 : decode cX12_isPlayed 155 = .ok (.iconst 0, 1) := by decide +kernel
theorem dX12_isPlayed_156 : decode cX12_isPlayed 156 = .ok (.ireturn, 1) := by decide +kernel
theorem dX12_isPlayed_157 : decode cX12_isPlayed 157 = .ok (.aload_n 0, 1) := by decide +kernel
theorem dX12_isPlayed_158 : decode cX12_isPlayed 158 = .ok (.iload_n 2, 1) := by decide +kernel
theorem dX12_isPlayed_159 : decode cX12_isPlayed 159 = .ok (.invokevirtual 392, 3) := by decide +kernel
theorem dX12_isPlayed_162 : decode cX12_isPlayed 162 = .ok (.ireturn, 1) := by decide +kernel
theorem dX12_isPlayed_163 : decode cX12_isPlayed 163 = .ok (.iconst 1, 1) := by decide +kernel
theorem dX12_isPlayed_164 : decode cX12_isPlayed 164 = .ok (.ireturn, 1) := by decide +kernel
def Md_isPlayed_134 (s0 : Int32) (s1 : Int32) (ν : Nm) : Option (Bool × Nm) :=
  (Md_snuff s1 s0 ν).bind fun v1 =>
  some (v1.1, v1.2)
set_option maxRecDepth 100000 in
set_option maxHeartbeats 4000000 in
theorem t_Md_isPlayed_134 {g : GG} {d : Nat} (hd0 : 10 ≤ d) : ∀ (s0 : Int32) (s1 : Int32) (ν : Nm) (r : (Bool × Nm)), Md_isPlayed_134 s0 s1 ν = some r → Z g d (0, 0) mX12_isPlayed 333 0 0 134 [] [.int s0, .int s1, .ref 313] (zem ν) (zF g (some (.int (b2i r.1)), zem r.2)) := by
  intro s0 s1 ν r h
  unfold Md_isPlayed_134 at h
  obtain ⟨v1, he1, h⟩ := obind h
  refine y_Vi (M := mX12_isPlayed) (Y := mX12_snuff) (d2 := d - 1) (As := [.int s1, .int s0]) (st := []) dX12_isPlayed_134 mlRX12_404 cv_X12_snuff zk_313 (ct_Md_snuff (dle (Nat.le_of_ble_eq_true rfl) hd0) he1) (dps (Nat.le_of_ble_eq_true rfl) hd0) rfl rfl (Nat.le_of_ble_eq_true rfl) ?_
  cases h
  exact z_zret dX12_isPlayed_137 rfl (nar_b2i _)
def Md_isPlayed (x1 : Int32) (ν : Nm) : Option (Bool × Nm) :=
  if inb (x1 + (1 : Int32)) 2724 then
  if inb x1 2724 then
  (if (gi ν 316 x1.toNatClampNeg) = (2 : Int32) then
    if inb (x1 + (2 : Int32)) 2724 then
    (Md_cord (gi ν 316 (x1 + (1 : Int32)).toNatClampNeg) (gi ν 316 (x1 + (2 : Int32)).toNatClampNeg) ν).bind fun v4 =>
    (if v4.1 < 0 then
      some (false, v4.2)
    else
      some (true, v4.2))
    else none
  else
  (if (gi ν 316 x1.toNatClampNeg) = (3 : Int32) then
    (Md_hands (gi ν 316 (x1 + (1 : Int32)).toNatClampNeg) ν).bind fun v7 =>
    some (v7.1, v7.2)
  else
  (if (gi ν 316 x1.toNatClampNeg) = (4 : Int32) then
    (Md_light (gi ν 316 (x1 + (1 : Int32)).toNatClampNeg) (0 : Int32) ν).bind fun v9 =>
    (if v9.1 < 0 then
      some (false, v9.2)
    else
      some (true, v9.2))
  else
  (if (gi ν 316 x1.toNatClampNeg) = (5 : Int32) then
    (Md_light (gi ν 316 (x1 + (1 : Int32)).toNatClampNeg) (1 : Int32) ν).bind fun v12 =>
    (if v12.1 < 0 then
      some (false, v12.2)
    else
      some (true, v12.2))
  else
  (if (gi ν 316 x1.toNatClampNeg) = (6 : Int32) then
    (Md_canSnuff ν (gi ν 316 (x1 + (1 : Int32)).toNatClampNeg) (0 : Int32)).bind fun v15 =>
    (if ¬ (b2i v15) = 0 then
      Md_isPlayed_134 (0 : Int32) (gi ν 316 (x1 + (1 : Int32)).toNatClampNeg) ν
    else
      Md_isPlayed_134 (1 : Int32) (gi ν 316 (x1 + (1 : Int32)).toNatClampNeg) ν)
  else
  (if (gi ν 316 x1.toNatClampNeg) = (7 : Int32) then
    (Md_renew (gi ν 316 (x1 + (1 : Int32)).toNatClampNeg) ν).bind fun v18 =>
    some (v18.1, v18.2)
  else
  (if (gi ν 316 x1.toNatClampNeg) = (8 : Int32) then
    (Md_burn ν).bind fun v20 =>
    (if v20.1 < 0 then
      some (false, v20.2)
    else
      some (true, v20.2))
  else
  (if (gi ν 316 x1.toNatClampNeg) = (9 : Int32) then
    (Md_arePassed (gi ν 316 (x1 + (1 : Int32)).toNatClampNeg) ν).bind fun v23 =>
    some (v23.1, v23.2)
  else
    some (true, ν)))))))))
  else none
  else none
set_option maxRecDepth 100000 in
set_option maxHeartbeats 4000000 in
theorem t_Md_isPlayed {g : GG} {d : Nat} (hd0 : 10 ≤ d) : ∀ (x1 : Int32) (ν : Nm) (r : (Bool × Nm)), Md_isPlayed x1 ν = some r → Z g d (0, 0) mX12_isPlayed 333 0 0 0 [(0, .ref 313), (1, .int x1)] [] (zem ν) (zF g (some (.int (b2i r.1)), zem r.2)) := by
  intro x1 ν r h
  unfold Md_isPlayed at h
  refine z_aload_n dX12_isPlayed_0 0 rfl ?_
  refine y_getR (M := mX12_isPlayed) (r := 316) dX12_isPlayed_1 zk_313 flRX12_16 fr_10_2.1 (fr_10_2.2 _) ?_
  refine z_iload_n dX12_isPlayed_4 1 rfl ?_
  refine z_iconst (M := mX12_isPlayed) (v := 1) dX12_isPlayed_5 rfl ?_
  refine z_iadd dX12_isPlayed_6 ?_
  obtain ⟨hi1, h⟩ := oif h
  refine y_iald (M := mX12_isPlayed) (jj := (x1 + (1 : Int32)).toNatClampNeg) dX12_isPlayed_7 zk_316 hi1 rfl ?_
  refine z_istore_n (M := mX12_isPlayed) (lv2 := [(2, .int (gi ν 316 (x1 + (1 : Int32)).toNatClampNeg)), (0, .ref 313), (1, .int x1)]) dX12_isPlayed_8 (Nat.le_of_ble_eq_true rfl) rfl ?_
  refine z_aload_n dX12_isPlayed_9 1 rfl ?_
  refine y_getR (M := mX12_isPlayed) (r := 316) dX12_isPlayed_10 zk_313 flRX12_16 fr_10_2.1 (fr_10_2.2 _) ?_
  refine z_iload_n dX12_isPlayed_13 2 rfl ?_
  obtain ⟨hi2, h⟩ := oif h
  refine y_iald (M := mX12_isPlayed) (jj := x1.toNatClampNeg) dX12_isPlayed_14 zk_316 hi2 rfl ?_
  by_cases hc6 : (gi ν 316 x1.toNatClampNeg) = (2 : Int32)
  · replace h := oT hc6 h
    refine y_sw (2 : Int32) (2) 60 dX12_isPlayed_15 hc6 rfl (by decide) (by decide) rfl rfl ?_
    refine z_aload_n dX12_isPlayed_60 1 rfl ?_
    refine z_iload_n dX12_isPlayed_61 0 rfl ?_
    refine z_aload_n dX12_isPlayed_62 1 rfl ?_
    refine y_getR (M := mX12_isPlayed) (r := 316) dX12_isPlayed_63 zk_313 flRX12_16 fr_10_2.1 (fr_10_2.2 _) ?_
    refine z_iload_n dX12_isPlayed_66 2 rfl ?_
    refine z_iconst (M := mX12_isPlayed) (v := 2) dX12_isPlayed_67 rfl ?_
    refine z_iadd dX12_isPlayed_68 ?_
    obtain ⟨hi3, h⟩ := oif h
    refine y_iald (M := mX12_isPlayed) (jj := (x1 + (2 : Int32)).toNatClampNeg) dX12_isPlayed_69 zk_316 hi3 rfl ?_
    obtain ⟨v4, he4, h⟩ := obind h
    refine y_Vi (M := mX12_isPlayed) (Y := mX12_cord) (d2 := d - 1) (As := [.int (gi ν 316 (x1 + (1 : Int32)).toNatClampNeg), .int (gi ν 316 (x1 + (2 : Int32)).toNatClampNeg)]) (st := []) dX12_isPlayed_70 mlRX12_395 cv_X12_cord zk_313 (ct_Md_cord (dle (Nat.le_of_ble_eq_true rfl) hd0) he4) (dps (Nat.le_of_ble_eq_true rfl) hd0) rfl rfl (Nat.le_of_ble_eq_true rfl) ?_
    refine z_if_lt 80 dX12_isPlayed_73 rfl (fun hc5 => ?_) (fun hc5 => ?_)
    · replace h := oT hc5 h
      refine z_iconst (M := mX12_isPlayed) (v := 0) dX12_isPlayed_80 rfl ?_
      cases h
      exact z_zret dX12_isPlayed_81 rfl rfl
    · replace h := oF hc5 h
      refine z_iconst (M := mX12_isPlayed) (v := 1) dX12_isPlayed_76 rfl ?_
      refine z_goto 81 dX12_isPlayed_77 rfl ?_
      cases h
      exact z_zret dX12_isPlayed_81 rfl rfl
  replace h := oF hc6 h
  by_cases hc8 : (gi ν 316 x1.toNatClampNeg) = (3 : Int32)
  · replace h := oT hc8 h
    refine y_sw (3 : Int32) (3) 82 dX12_isPlayed_15 hc8 rfl (by decide) (by decide) rfl rfl ?_
    refine z_aload_n dX12_isPlayed_82 1 rfl ?_
    refine z_iload_n dX12_isPlayed_83 0 rfl ?_
    obtain ⟨v7, he7, h⟩ := obind h
    refine y_Vi (M := mX12_isPlayed) (Y := mX12_hands) (d2 := d - 1) (As := [.int (gi ν 316 (x1 + (1 : Int32)).toNatClampNeg)]) (st := []) dX12_isPlayed_84 mlRX12_398 cv_X12_hands zk_313 (ct_Md_hands (dle (Nat.le_of_ble_eq_true rfl) hd0) he7) (dps (Nat.le_of_ble_eq_true rfl) hd0) rfl rfl (Nat.le_of_ble_eq_true rfl) ?_
    cases h
    exact z_zret dX12_isPlayed_87 rfl (nar_b2i _)
  replace h := oF hc8 h
  by_cases hc11 : (gi ν 316 x1.toNatClampNeg) = (4 : Int32)
  · replace h := oT hc11 h
    refine y_sw (4 : Int32) (4) 88 dX12_isPlayed_15 hc11 rfl (by decide) (by decide) rfl rfl ?_
    refine z_aload_n dX12_isPlayed_88 1 rfl ?_
    refine z_iload_n dX12_isPlayed_89 0 rfl ?_
    refine z_iconst (M := mX12_isPlayed) (v := 0) dX12_isPlayed_90 rfl ?_
    obtain ⟨v9, he9, h⟩ := obind h
    refine y_Vi (M := mX12_isPlayed) (Y := mX12_light) (d2 := d - 1) (As := [.int (gi ν 316 (x1 + (1 : Int32)).toNatClampNeg), .int (0 : Int32)]) (st := []) dX12_isPlayed_91 mlRX12_401 cv_X12_light zk_313 (ct_Md_light (dle (Nat.le_of_ble_eq_true rfl) hd0) he9) (dps (Nat.le_of_ble_eq_true rfl) hd0) rfl rfl (Nat.le_of_ble_eq_true rfl) ?_
    refine z_if_lt 101 dX12_isPlayed_94 rfl (fun hc10 => ?_) (fun hc10 => ?_)
    · replace h := oT hc10 h
      refine z_iconst (M := mX12_isPlayed) (v := 0) dX12_isPlayed_101 rfl ?_
      cases h
      exact z_zret dX12_isPlayed_102 rfl rfl
    · replace h := oF hc10 h
      refine z_iconst (M := mX12_isPlayed) (v := 1) dX12_isPlayed_97 rfl ?_
      refine z_goto 102 dX12_isPlayed_98 rfl ?_
      cases h
      exact z_zret dX12_isPlayed_102 rfl rfl
  replace h := oF hc11 h
  by_cases hc14 : (gi ν 316 x1.toNatClampNeg) = (5 : Int32)
  · replace h := oT hc14 h
    refine y_sw (5 : Int32) (5) 103 dX12_isPlayed_15 hc14 rfl (by decide) (by decide) rfl rfl ?_
    refine z_aload_n dX12_isPlayed_103 1 rfl ?_
    refine z_iload_n dX12_isPlayed_104 0 rfl ?_
    refine z_iconst (M := mX12_isPlayed) (v := 1) dX12_isPlayed_105 rfl ?_
    obtain ⟨v12, he12, h⟩ := obind h
    refine y_Vi (M := mX12_isPlayed) (Y := mX12_light) (d2 := d - 1) (As := [.int (gi ν 316 (x1 + (1 : Int32)).toNatClampNeg), .int (1 : Int32)]) (st := []) dX12_isPlayed_106 mlRX12_401 cv_X12_light zk_313 (ct_Md_light (dle (Nat.le_of_ble_eq_true rfl) hd0) he12) (dps (Nat.le_of_ble_eq_true rfl) hd0) rfl rfl (Nat.le_of_ble_eq_true rfl) ?_
    refine z_if_lt 116 dX12_isPlayed_109 rfl (fun hc13 => ?_) (fun hc13 => ?_)
    · replace h := oT hc13 h
      refine z_iconst (M := mX12_isPlayed) (v := 0) dX12_isPlayed_116 rfl ?_
      cases h
      exact z_zret dX12_isPlayed_117 rfl rfl
    · replace h := oF hc13 h
      refine z_iconst (M := mX12_isPlayed) (v := 1) dX12_isPlayed_112 rfl ?_
      refine z_goto 117 dX12_isPlayed_113 rfl ?_
      cases h
      exact z_zret dX12_isPlayed_117 rfl rfl
  replace h := oF hc14 h
  by_cases hc17 : (gi ν 316 x1.toNatClampNeg) = (6 : Int32)
  · replace h := oT hc17 h
    refine y_sw (6 : Int32) (6) 118 dX12_isPlayed_15 hc17 rfl (by decide) (by decide) rfl rfl ?_
    refine z_aload_n dX12_isPlayed_118 1 rfl ?_
    refine z_iload_n dX12_isPlayed_119 0 rfl ?_
    refine z_aload_n dX12_isPlayed_120 1 rfl ?_
    refine z_iload_n dX12_isPlayed_121 0 rfl ?_
    refine z_iconst (M := mX12_isPlayed) (v := 0) dX12_isPlayed_122 rfl ?_
    obtain ⟨v15, he15, h⟩ := obind h
    refine y_Vi (M := mX12_isPlayed) (Y := mX12_canSnuff) (d2 := d - 1) (As := [.int (gi ν 316 (x1 + (1 : Int32)).toNatClampNeg), .int (0 : Int32)]) (st := [.int (gi ν 316 (x1 + (1 : Int32)).toNatClampNeg), .ref 313]) dX12_isPlayed_123 mlRX12_373 cv_X12_canSnuff zk_313 (ct_Md_canSnuff (dle (Nat.le_of_ble_eq_true rfl) hd0) he15) (dps (Nat.le_of_ble_eq_true rfl) hd0) rfl rfl (Nat.le_of_ble_eq_true rfl) ?_
    refine z_if_ne 133 dX12_isPlayed_126 rfl (fun hc16 => ?_) (fun hc16 => ?_)
    · replace h := oT hc16 h
      refine z_iconst (M := mX12_isPlayed) (v := 0) dX12_isPlayed_133 rfl ?_
      refine z_lv (lv2 := []) [] rfl ?_
      exact t_Md_isPlayed_134 hd0  (0 : Int32) (gi ν 316 (x1 + (1 : Int32)).toNatClampNeg) ν _ h
    · replace h := oFn hc16 h
      refine z_iconst (M := mX12_isPlayed) (v := 1) dX12_isPlayed_129 rfl ?_
      refine z_goto 134 dX12_isPlayed_130 rfl ?_
      refine z_lv (lv2 := []) [] rfl ?_
      exact t_Md_isPlayed_134 hd0  (1 : Int32) (gi ν 316 (x1 + (1 : Int32)).toNatClampNeg) ν _ h
  replace h := oF hc17 h
  by_cases hc19 : (gi ν 316 x1.toNatClampNeg) = (7 : Int32)
  · replace h := oT hc19 h
    refine y_sw (7 : Int32) (7) 138 dX12_isPlayed_15 hc19 rfl (by decide) (by decide) rfl rfl ?_
    refine z_aload_n dX12_isPlayed_138 1 rfl ?_
    refine z_iload_n dX12_isPlayed_139 0 rfl ?_
    obtain ⟨v18, he18, h⟩ := obind h
    refine y_Vi (M := mX12_isPlayed) (Y := mX12_renew) (d2 := d - 1) (As := [.int (gi ν 316 (x1 + (1 : Int32)).toNatClampNeg)]) (st := []) dX12_isPlayed_140 mlRX12_407 cv_X12_renew zk_313 (ct_Md_renew (dle (Nat.le_of_ble_eq_true rfl) hd0) he18) (dps (Nat.le_of_ble_eq_true rfl) hd0) rfl rfl (Nat.le_of_ble_eq_true rfl) ?_
    cases h
    exact z_zret dX12_isPlayed_143 rfl (nar_b2i _)
  replace h := oF hc19 h
  by_cases hc22 : (gi ν 316 x1.toNatClampNeg) = (8 : Int32)
  · replace h := oT hc22 h
    refine y_sw (8 : Int32) (8) 144 dX12_isPlayed_15 hc22 rfl (by decide) (by decide) rfl rfl ?_
    refine z_aload_n dX12_isPlayed_144 1 rfl ?_
    obtain ⟨v20, he20, h⟩ := obind h
    refine y_Vi (M := mX12_isPlayed) (Y := mX12_burn) (d2 := d - 1) (As := []) (st := []) dX12_isPlayed_145 mlRX12_410 cv_X12_burn zk_313 (ct_Md_burn (dle (Nat.le_of_ble_eq_true rfl) hd0) he20) (dps (Nat.le_of_ble_eq_true rfl) hd0) rfl rfl (Nat.le_of_ble_eq_true rfl) ?_
    refine z_if_lt 155 dX12_isPlayed_148 rfl (fun hc21 => ?_) (fun hc21 => ?_)
    · replace h := oT hc21 h
      refine z_iconst (M := mX12_isPlayed) (v := 0) dX12_isPlayed_155 rfl ?_
      cases h
      exact z_zret dX12_isPlayed_156 rfl rfl
    · replace h := oF hc21 h
      refine z_iconst (M := mX12_isPlayed) (v := 1) dX12_isPlayed_151 rfl ?_
      refine z_goto 156 dX12_isPlayed_152 rfl ?_
      cases h
      exact z_zret dX12_isPlayed_156 rfl rfl
  replace h := oF hc22 h
  by_cases hc24 : (gi ν 316 x1.toNatClampNeg) = (9 : Int32)
  · replace h := oT hc24 h
    refine y_sw (9 : Int32) (9) 157 dX12_isPlayed_15 hc24 rfl (by decide) (by decide) rfl rfl ?_
    refine z_aload_n dX12_isPlayed_157 1 rfl ?_
    refine z_iload_n dX12_isPlayed_158 0 rfl ?_
    obtain ⟨v23, he23, h⟩ := obind h
    refine y_Vi (M := mX12_isPlayed) (Y := mX12_arePassed) (d2 := d - 1) (As := [.int (gi ν 316 (x1 + (1 : Int32)).toNatClampNeg)]) (st := []) dX12_isPlayed_159 mlRX12_392 cv_X12_arePassed zk_313 (ct_Md_arePassed (dle (Nat.le_of_ble_eq_true rfl) hd0) he23) (dps (Nat.le_of_ble_eq_true rfl) hd0) rfl rfl (Nat.le_of_ble_eq_true rfl) ?_
    cases h
    exact z_zret dX12_isPlayed_162 rfl (nar_b2i _)
  replace h := oF hc24 h
  have zhc6 := i32ne hc6 (z := 2) rfl
  have zhc8 := i32ne hc8 (z := 3) rfl
  have zhc11 := i32ne hc11 (z := 4) rfl
  have zhc14 := i32ne hc14 (z := 5) rfl
  have zhc17 := i32ne hc17 (z := 6) rfl
  have zhc19 := i32ne hc19 (z := 7) rfl
  have zhc22 := i32ne hc22 (z := 8) rfl
  have zhc24 := i32ne hc24 (z := 9) rfl
  refine z_tableOut 163 dX12_isPlayed_15 (by omega) rfl ?_
  refine z_iconst (M := mX12_isPlayed) (v := 1) dX12_isPlayed_163 rfl ?_
  cases h
  exact z_zret dX12_isPlayed_164 rfl rfl
theorem ct_Md_isPlayed {g : GG} {d : Nat} {x1 : Int32} {ν : Nm} {r : (Bool × Nm)} (hd0 : 10 ≤ d)  (h : Md_isPlayed x1 ν = some r) : Ct g d mX12_isPlayed [.ref 313, .int x1] (zem ν) (some (.int (b2i r.1)), zem r.2) := y_entry in_X12_isPlayed (Nat.le_of_ble_eq_true rfl) rfl (t_Md_isPlayed hd0 x1 ν r h)
-- FuseMinutesModel.played(I)I
theorem dX12_played_0 : decode cX12_played 0 = .ok (.iload_n 1, 1) := by decide +kernel
theorem dX12_played_1 : decode cX12_played 1 = .ok (.iconst 0, 1) := by decide +kernel
theorem dX12_played_2 : decode cX12_played 2 = .ok (.aload_n 0, 1) := by decide +kernel
theorem dX12_played_3 : decode cX12_played 3 = .ok (.getfield 7, 3) := by decide +kernel
theorem dX12_played_6 : decode cX12_played 6 = .ok (.iconst 2, 1) := by decide +kernel
theorem dX12_played_7 : decode cX12_played 7 = .ok (.iaload, 1) := by decide +kernel
theorem dX12_played_8 : decode cX12_played 8 = .ok (.iconst 1, 1) := by decide +kernel
theorem dX12_played_9 : decode cX12_played 9 = .ok (.isub, 1) := by decide +kernel
theorem dX12_played_10 : decode cX12_played 10 = .ok (.invokestatic 88, 3) := by decide +kernel
theorem dX12_played_13 : decode cX12_played 13 = .ok (.ifCond .ne 6, 3) := by decide +kernel
theorem dX12_played_16 : decode cX12_played 16 = .ok (.bipush (-2), 2) := by decide +kernel
theorem dX12_played_18 : decode cX12_played 18 = .ok (.ireturn, 1) := by decide +kernel
theorem dX12_played_19 : decode cX12_played 19 = .ok (.iconst 0, 1) := by decide +kernel
theorem dX12_played_20 : decode cX12_played 20 = .ok (.istore_n 2, 1) := by decide +kernel
theorem dX12_played_21 : decode cX12_played 21 = .ok (.iload_n 2, 1) := by decide +kernel
theorem dX12_played_22 : decode cX12_played 22 = .ok (.aload_n 0, 1) := by decide +kernel
theorem dX12_played_23 : decode cX12_played 23 = .ok (.getfield 16, 3) := by decide +kernel
theorem dX12_played_26 : decode cX12_played 26 = .ok (.sipush 681, 3) := by decide +kernel
theorem dX12_played_29 : decode cX12_played 29 = .ok (.iload_n 1, 1) := by decide +kernel
theorem dX12_played_30 : decode cX12_played 30 = .ok (.imul, 1) := by decide +kernel
theorem dX12_played_31 : decode cX12_played 31 = .ok (.iaload, 1) := by decide +kernel
theorem dX12_played_32 : decode cX12_played 32 = .ok (.if_icmp .ge 29, 3) := by decide +kernel
theorem dX12_played_35 : decode cX12_played 35 = .ok (.aload_n 0, 1) := by decide +kernel
theorem dX12_played_36 : decode cX12_played 36 = .ok (.sipush 681, 3) := by decide +kernel
theorem dX12_played_39 : decode cX12_played 39 = .ok (.iload_n 1, 1) := by decide +kernel
theorem dX12_played_40 : decode cX12_played 40 = .ok (.imul, 1) := by decide +kernel
theorem dX12_played_41 : decode cX12_played 41 = .ok (.iconst 1, 1) := by decide +kernel
theorem dX12_played_42 : decode cX12_played 42 = .ok (.iadd, 1) := by decide +kernel
theorem dX12_played_43 : decode cX12_played 43 = .ok (.iconst 3, 1) := by decide +kernel
theorem dX12_played_44 : decode cX12_played 44 = .ok (.iload_n 2, 1) := by decide +kernel
theorem dX12_played_45 : decode cX12_played 45 = .ok (.imul, 1) := by decide +kernel
theorem dX12_played_46 : decode cX12_played 46 = .ok (.iadd, 1) := by decide +kernel
theorem dX12_played_47 : decode cX12_played 47 = .ok (.invokevirtual 413, 3) := by decide +kernel
theorem dX12_played_50 : decode cX12_played 50 = .ok (.ifCond .ne 5, 3) := by decide +kernel
theorem dX12_played_53 : decode cX12_played 53 = .ok (.iload_n 2, 1) := by decide +kernel
theorem dX12_played_54 : decode cX12_played 54 = .ok (.ireturn, 1) := by decide +kernel
theorem dX12_played_55 : decode cX12_played 55 = .ok (.iinc 2 1, 3) := by decide +kernel
theorem dX12_played_58 : decode cX12_played 58 = .ok (.goto (-37), 3) := by decide +kernel
theorem dX12_played_61 : decode cX12_played 61 = .ok (.iconst (-1), 1) := by decide +kernel
theorem dX12_played_62 : decode cX12_played 62 = .ok (.ireturn, 1) := by decide +kernel
def Md_played_21 : Nat → Int32 → Int32 → Nm → Option (Int32 × Nm)
  | 0, _, _, _ => none
  | f + 1, x1, x2, ν =>
    if inb ((681 : Int32) * x1) 2724 then
    (if (gi ν 316 ((681 : Int32) * x1).toNatClampNeg) ≤ x2 then
      some ((-1 : Int32), ν)
    else
      (Md_isPlayed ((((681 : Int32) * x1) + (1 : Int32)) + ((3 : Int32) * x2)) ν).bind fun v3 =>
      (if ¬ (b2i v3.1) = 0 then
        (Md_played_21 f) x1 (x2 + (1 : Int32)) v3.2
      else
        some (x2, v3.2)))
    else none
set_option maxRecDepth 100000 in
set_option maxHeartbeats 4000000 in
theorem t_Md_played_21 {g : GG} {d : Nat} (hd0 : 11 ≤ d) : ∀ (f : Nat), ∀ (x1 : Int32) (x2 : Int32) (ν : Nm) (r : (Int32 × Nm)), Md_played_21 f x1 x2 ν = some r → Z g d (0, 0) mX12_played 333 0 0 21 [(0, .ref 313), (1, .int x1), (2, .int x2)] [] (zem ν) (zF g (some (.int r.1), zem r.2)) := by
  intro f
  induction f with
  | zero =>
    intro x1 x2 ν r h
    cases h
  | succ f ih =>
    intro x1 x2 ν r h
    rw [Md_played_21] at h
    refine z_iload_n dX12_played_21 2 rfl ?_
    refine z_aload_n dX12_played_22 0 rfl ?_
    refine y_getR (M := mX12_played) (r := 316) dX12_played_23 zk_313 flRX12_16 fr_10_2.1 (fr_10_2.2 _) ?_
    refine z_sipush (M := mX12_played) (v := 681) dX12_played_26 rfl ?_
    refine z_iload_n dX12_played_29 1 rfl ?_
    refine z_imul dX12_played_30 ?_
    obtain ⟨hi1, h⟩ := oif h
    refine y_iald (M := mX12_played) (jj := ((681 : Int32) * x1).toNatClampNeg) dX12_played_31 zk_316 hi1 rfl ?_
    refine z_icmp_ge 61 dX12_played_32 rfl (fun hc2 => ?_) (fun hc2 => ?_)
    · replace h := oT hc2 h
      refine z_iconst (M := mX12_played) (v := -1) dX12_played_61 rfl ?_
      cases h
      exact z_iret dX12_played_62 rfl
    · replace h := oF hc2 h
      refine z_aload_n dX12_played_35 0 rfl ?_
      refine z_sipush (M := mX12_played) (v := 681) dX12_played_36 rfl ?_
      refine z_iload_n dX12_played_39 1 rfl ?_
      refine z_imul dX12_played_40 ?_
      refine z_iconst (M := mX12_played) (v := 1) dX12_played_41 rfl ?_
      refine z_iadd dX12_played_42 ?_
      refine z_iconst (M := mX12_played) (v := 3) dX12_played_43 rfl ?_
      refine z_iload_n dX12_played_44 2 rfl ?_
      refine z_imul dX12_played_45 ?_
      refine z_iadd dX12_played_46 ?_
      obtain ⟨v3, he3, h⟩ := obind h
      refine y_Vi (M := mX12_played) (Y := mX12_isPlayed) (d2 := d - 1) (As := [.int ((((681 : Int32) * x1) + (1 : Int32)) + ((3 : Int32) * x2))]) (st := []) dX12_played_47 mlRX12_413 cv_X12_isPlayed zk_313 (ct_Md_isPlayed (dle (Nat.le_of_ble_eq_true rfl) hd0) he3) (dps (Nat.le_of_ble_eq_true rfl) hd0) rfl rfl (Nat.le_of_ble_eq_true rfl) ?_
      refine z_if_ne 55 dX12_played_50 rfl (fun hc4 => ?_) (fun hc4 => ?_)
      · replace h := oT hc4 h
        refine z_iinc (M := mX12_played) (v := (x2 + (1 : Int32))) (lv2 := [(2, .int (x2 + (1 : Int32))), (0, .ref 313), (1, .int x1)]) dX12_played_55 2 rfl rfl (Nat.le_of_ble_eq_true rfl) rfl ?_
        refine z_goto 21 dX12_played_58 rfl ?_
        refine z_lv (lv2 := [(0, .ref 313), (1, .int x1), (2, .int (x2 + (1 : Int32)))]) [1, 2, 0] rfl ?_
        exact ih x1 (x2 + (1 : Int32)) v3.2 _ h
      · replace h := oFn hc4 h
        refine z_iload_n dX12_played_53 2 rfl ?_
        cases h
        exact z_iret dX12_played_54 rfl
def Md_played (x1 : Int32) (ν : Nm) : Option (Int32 × Nm) :=
  (Md_isIn x1 (0 : Int32) ((gi ν 314 2) - (1 : Int32))).bind fun v1 =>
  (if ¬ (b2i v1) = 0 then
    Md_played_21 FU x1 (0 : Int32) ν
  else
    some ((-2 : Int32), ν))
set_option maxRecDepth 100000 in
set_option maxHeartbeats 4000000 in
theorem t_Md_played {g : GG} {d : Nat} (hd0 : 11 ≤ d) : ∀ (x1 : Int32) (ν : Nm) (r : (Int32 × Nm)), Md_played x1 ν = some r → Z g d (0, 0) mX12_played 333 0 0 0 [(0, .ref 313), (1, .int x1)] [] (zem ν) (zF g (some (.int r.1), zem r.2)) := by
  intro x1 ν r h
  unfold Md_played at h
  refine z_iload_n dX12_played_0 1 rfl ?_
  refine z_iconst (M := mX12_played) (v := 0) dX12_played_1 rfl ?_
  refine z_aload_n dX12_played_2 0 rfl ?_
  refine y_getR (M := mX12_played) (r := 314) dX12_played_3 zk_313 flRX12_7 fr_10_0.1 (fr_10_0.2 _) ?_
  refine z_iconst (M := mX12_played) (v := 2) dX12_played_6 rfl ?_
  refine y_iald (M := mX12_played) (jj := 2) dX12_played_7 zk_314 rfl rfl ?_
  refine z_iconst (M := mX12_played) (v := 1) dX12_played_8 rfl ?_
  refine z_isub dX12_played_9 ?_
  obtain ⟨v1, he1, h⟩ := obind h
  refine y_Si (M := mX12_played) (Y := mX12_isIn) (d2 := d - 1) (As := [.int x1, .int (0 : Int32), .int ((gi ν 314 2) - (1 : Int32))]) (st := []) dX12_played_10 mlRX12_88 cv_X12_isIn (ct_Md_isIn (dle (Nat.le_of_ble_eq_true rfl) hd0) he1) (dps (Nat.le_of_ble_eq_true rfl) hd0) rfl rfl (Nat.le_of_ble_eq_true rfl) ?_
  refine z_if_ne 19 dX12_played_13 rfl (fun hc2 => ?_) (fun hc2 => ?_)
  · replace h := oT hc2 h
    refine z_iconst (M := mX12_played) (v := 0) dX12_played_19 rfl ?_
    refine z_istore_n (M := mX12_played) (lv2 := [(2, .int (0 : Int32)), (0, .ref 313), (1, .int x1)]) dX12_played_20 (Nat.le_of_ble_eq_true rfl) rfl ?_
    refine z_lv (lv2 := [(0, .ref 313), (1, .int x1), (2, .int (0 : Int32))]) [1, 2, 0] rfl ?_
    exact t_Md_played_21 hd0 FU x1 (0 : Int32) ν _ h
  · replace h := oFn hc2 h
    refine z_bipush (M := mX12_played) (v := -2) dX12_played_16 rfl ?_
    cases h
    exact z_iret dX12_played_18 rfl
theorem ct_Md_played {g : GG} {d : Nat} {x1 : Int32} {ν : Nm} {r : (Int32 × Nm)} (hd0 : 11 ≤ d)  (h : Md_played x1 ν = some r) : Ct g d mX12_played [.ref 313, .int x1] (zem ν) (some (.int r.1), zem r.2) := y_entry in_X12_played (Nat.le_of_ble_eq_true rfl) rfl (t_Md_played hd0 x1 ν r h)
-- FuseMinutesModel.happens(I)V
theorem dX12_happens_0 : decode cX12_happens 0 = .ok (.iload_n 1, 1) := by decide +kernel
theorem dX12_happens_1 : decode cX12_happens 1 = .ok (.bipush 7, 2) := by decide +kernel
theorem dX12_happens_3 : decode cX12_happens 3 = .ok (.irem, 1) := by decide +kernel
theorem dX12_happens_4 : decode cX12_happens 4 = .ok (.bipush 6, 2) := by decide +kernel
theorem dX12_happens_6 : decode cX12_happens 6 = .ok (.if_icmp .ne 38, 3) := by decide +kernel
theorem dX12_happens_9 : decode cX12_happens 9 = .ok (.aload_n 0, 1) := by decide +kernel
theorem dX12_happens_10 : decode cX12_happens 10 = .ok (.getfield 7, 3) := by decide +kernel
theorem dX12_happens_13 : decode cX12_happens 13 = .ok (.bipush 8, 2) := by decide +kernel
theorem dX12_happens_15 : decode cX12_happens 15 = .ok (.iaload, 1) := by decide +kernel
theorem dX12_happens_16 : decode cX12_happens 16 = .ok (.bipush 64, 2) := by decide +kernel
theorem dX12_happens_18 : decode cX12_happens 18 = .ok (.iconst 1, 1) := by decide +kernel
theorem dX12_happens_19 : decode cX12_happens 19 = .ok (.iload_n 1, 1) := by decide +kernel
theorem dX12_happens_20 : decode cX12_happens 20 = .ok (.iconst 5, 1) := by decide +kernel
theorem dX12_happens_21 : decode cX12_happens 21 = .ok (.irem, 1) := by decide +kernel
theorem dX12_happens_22 : decode cX12_happens 22 = .ok (.iadd, 1) := by decide +kernel
theorem dX12_happens_23 : decode cX12_happens 23 = .ok (.imul, 1) := by decide +kernel
theorem dX12_happens_24 : decode cX12_happens 24 = .ok (.iadd, 1) := by decide +kernel
theorem dX12_happens_25 : decode cX12_happens 25 = .ok (.ldc_w 336, 3) := by decide +kernel
theorem dX12_happens_28 : decode cX12_happens 28 = .ok (.if_icmp .gt 15, 3) := by decide +kernel
theorem dX12_happens_31 : decode cX12_happens 31 = .ok (.aload_n 0, 1) := by decide +kernel
theorem dX12_happens_32 : decode cX12_happens 32 = .ok (.bipush 64, 2) := by decide +kernel
theorem dX12_happens_34 : decode cX12_happens 34 = .ok (.iconst 1, 1) := by decide +kernel
theorem dX12_happens_35 : decode cX12_happens 35 = .ok (.iload_n 1, 1) := by decide +kernel
theorem dX12_happens_36 : decode cX12_happens 36 = .ok (.iconst 5, 1) := by decide +kernel
theorem dX12_happens_37 : decode cX12_happens 37 = .ok (.irem, 1) := by decide +kernel
theorem dX12_happens_38 : decode cX12_happens 38 = .ok (.iadd, 1) := by decide +kernel
theorem dX12_happens_39 : decode cX12_happens 39 = .ok (.imul, 1) := by decide +kernel
theorem dX12_happens_40 : decode cX12_happens 40 = .ok (.invokevirtual 386, 3) := by decide +kernel
theorem dX12_happens_43 : decode cX12_happens 43 = .ok (.return_, 1) := by decide +kernel
theorem dX12_happens_44 : decode cX12_happens 44 = .ok (.aload_n 0, 1) := by decide +kernel
theorem dX12_happens_45 : decode cX12_happens 45 = .ok (.getfield 7, 3) := by decide +kernel
theorem dX12_happens_48 : decode cX12_happens 48 = .ok (.iconst 0, 1) := by decide +kernel
theorem dX12_happens_49 : decode cX12_happens 49 = .ok (.iaload, 1) := by decide +kernel
theorem dX12_happens_50 : decode cX12_happens 50 = .ok (.ifCond .ne 4, 3) := by decide +kernel
theorem dX12_happens_53 : decode cX12_happens 53 = .ok (.return_, 1) := by decide +kernel
theorem dX12_happens_54 : decode cX12_happens 54 = .ok (.iload_n 1, 1) := by decide +kernel
theorem dX12_happens_55 : decode cX12_happens 55 = .ok (.aload_n 0, 1) := by decide +kernel
theorem dX12_happens_56 : decode cX12_happens 56 = .ok (.getfield 7, 3) := by decide +kernel
theorem dX12_happens_59 : decode cX12_happens 59 = .ok (.iconst 0, 1) := by decide +kernel
theorem dX12_happens_60 : decode cX12_happens 60 = .ok (.iaload, 1) := by decide +kernel
theorem dX12_happens_61 : decode cX12_happens 61 = .ok (.irem, 1) := by decide +kernel
theorem dX12_happens_62 : decode cX12_happens 62 = .ok (.istore_n 2, 1) := by decide +kernel
theorem dX12_happens_63 : decode cX12_happens 63 = .ok (.iload_n 1, 1) := by decide +kernel
theorem dX12_happens_64 : decode cX12_happens 64 = .ok (.bipush 7, 2) := by decide +kernel
theorem dX12_happens_66 : decode cX12_happens 66 = .ok (.idiv, 1) := by decide +kernel
theorem dX12_happens_67 : decode cX12_happens 67 = .ok (.iconst 2, 1) := by decide +kernel
theorem dX12_happens_68 : decode cX12_happens 68 = .ok (.irem, 1) := by decide +kernel
theorem dX12_happens_69 : decode cX12_happens 69 = .ok (.iconst 1, 1) := by decide +kernel
theorem dX12_happens_70 : decode cX12_happens 70 = .ok (.if_icmp .ne 7, 3) := by decide +kernel
theorem dX12_happens_73 : decode cX12_happens 73 = .ok (.iconst 1, 1) := by decide +kernel
theorem dX12_happens_74 : decode cX12_happens 74 = .ok (.goto 4, 3) := by decide +kernel
theorem dX12_happens_77 : decode cX12_happens 77 = .ok (.iconst 0, 1) := by decide +kernel
theorem dX12_happens_78 : decode cX12_happens 78 = .ok (.istore_n 3, 1) := by decide +kernel
theorem dX12_happens_79 : decode cX12_happens 79 = .ok (.iload_n 1, 1) := by decide +kernel
theorem dX12_happens_80 : decode cX12_happens 80 = .ok (.bipush 7, 2) := by decide +kernel
theorem dX12_happens_82 : decode cX12_happens 82 = .ok (.irem, 1) := by decide +kernel
theorem dX12_happens_83 : decode cX12_happens 83 = .ok (.tableswitch 69 3 5 #[25, 43, 51], 25) := by decide +kernel
theorem dX12_happens_108 : decode cX12_happens 108 = .ok (.aload_n 0, 1) := by decide +kernel
theorem dX12_happens_109 : decode cX12_happens 109 = .ok (.iload_n 2, 1) := by decide +kernel
theorem dX12_happens_110 : decode cX12_happens 110 = .ok (.iload_n 3, 1) := by decide +kernel
theorem dX12_happens_111 : decode cX12_happens 111 = .ok (.invokevirtual 373, 3) := by decide +kernel
theorem dX12_happens_114 : decode cX12_happens 114 = .ok (.ifCond .eq 64, 3) := by decide +kernel
theorem dX12_happens_117 : decode cX12_happens 117 = .ok (.aload_n 0, 1) := by decide +kernel
theorem dX12_happens_118 : decode cX12_happens 118 = .ok (.iload_n 2, 1) := by decide +kernel
theorem dX12_happens_119 : decode cX12_happens 119 = .ok (.iload_n 3, 1) := by decide +kernel
theorem dX12_happens_120 : decode cX12_happens 120 = .ok (.invokevirtual 376, 3) := by decide +kernel
theorem dX12_happens_123 : decode cX12_happens 123 = .ok (.goto 55, 3) := by decide +kernel
theorem dX12_happens_126 : decode cX12_happens 126 = .ok (.aload_n 0, 1) := by decide +kernel
theorem dX12_happens_127 : decode cX12_happens 127 = .ok (.iload_n 2, 1) := by decide +kernel
theorem dX12_happens_128 : decode cX12_happens 128 = .ok (.invokevirtual 104, 3) := by decide +kernel
theorem dX12_happens_131 : decode cX12_happens 131 = .ok (.goto 47, 3) := by decide +kernel
theorem dX12_happens_134 : decode cX12_happens 134 = .ok (.aload_n 0, 1) := by decide +kernel
theorem dX12_happens_135 : decode cX12_happens 135 = .ok (.invokevirtual 383, 3) := by decide +kernel
theorem dX12_happens_138 : decode cX12_happens 138 = .ok (.ifCond .eq 40, 3) := by decide +kernel
theorem dX12_happens_141 : decode cX12_happens 141 = .ok (.aload_n 0, 1) := by decide +kernel
theorem dX12_happens_142 : decode cX12_happens 142 = .ok (.aload_n 0, 1) := by decide +kernel
theorem dX12_happens_143 : decode cX12_happens 143 = .ok (.invokevirtual 343, 3) := by decide +kernel
theorem dX12_happens_146 : decode cX12_happens 146 = .ok (.invokevirtual 386, 3) := by decide +kernel
theorem dX12_happens_149 : decode cX12_happens 149 = .ok (.goto 29, 3) := by decide +kernel
theorem dX12_happens_152 : decode cX12_happens 152 = .ok (.aload_n 0, 1) := by decide +kernel
theorem dX12_happens_153 : decode cX12_happens 153 = .ok (.iload_n 2, 1) := by decide +kernel
theorem dX12_happens_154 : decode cX12_happens 154 = .ok (.iload_n 3, 1) := by decide +kernel
theorem dX12_happens_155 : decode cX12_happens 155 = .ok (.invokevirtual 363, 3) := by decide +kernel
theorem dX12_happens_158 : decode cX12_happens 158 = .ok (.ifCond .eq 20, 3) := by decide +kernel
theorem dX12_happens_161 : decode cX12_happens 161 = .ok (.aload_n 0, 1) := by decide +kernel
theorem dX12_happens_162 : decode cX12_happens 162 = .ok (.iload_n 2, 1) := by decide +kernel
theorem dX12_happens_163 : decode cX12_happens 163 = .ok (.iload_n 3, 1) := by decide +kernel
theorem dX12_happens_164 : decode cX12_happens 164 = .ok (.invokevirtual 370, 3) := by decide +kernel
theorem dX12_happens_167 : decode cX12_happens 167 = .ok (.ifCond .ge 11, 3) := by decide +kernel
theorem dX12_happens_170 : decode cX12_happens 170 = .ok (.aload_n 0, 1) := by decide +kernel
theorem dX12_happens_171 : decode cX12_happens 171 = .ok (.getfield 7, 3) := by decide +kernel
theorem dX12_happens_174 : decode cX12_happens 174 = .ok (.bipush 10, 2) := by decide +kernel
theorem dX12_happens_176 : decode cX12_happens 176 = .ok (.iconst 0, 1) := by decide +kernel
theorem dX12_happens_177 : decode cX12_happens 177 = .ok (.iastore, 1) := by decide +kernel
theorem dX12_happens_178 : decode cX12_happens 178 = .ok (.return_, 1) := by decide +kernel
def Md_happens_78 (x1 : Int32) (x2 : Int32) (s0 : Int32) (ν : Nm) : Option Nm :=
  (if (x1 - x1 / (7 : Int32) * (7 : Int32)) = (3 : Int32) then
    (Md_canSnuff ν x2 s0).bind fun v1 =>
    (if (b2i v1) = 0 then
      some ν
    else
      (Md_snuffNow x2 s0 ν).bind fun v3 =>
      some v3)
  else
  (if (x1 - x1 / (7 : Int32) * (7 : Int32)) = (4 : Int32) then
    (Md_begin x2 ν).bind fun v5 =>
    some v5
  else
  (if (x1 - x1 / (7 : Int32) * (7 : Int32)) = (5 : Int32) then
    (Md_canBurn ν).bind fun v7 =>
    (if (b2i v7) = 0 then
      some ν
    else
      (Md_nextOut ν).bind fun v9 =>
      (Md_pass v9 ν).bind fun v10 =>
      some v10)
  else
    (Md_canLight x2 s0 ν).bind fun v12 =>
    (if (b2i v12.1) = 0 then
      some v12.2
    else
      (Md_lightNow x2 s0 v12.2).bind fun v14 =>
      (if 0 ≤ v14.1 then
        some v14.2
      else
        some (si v14.2 314 10 (0 : Int32)))))))
set_option maxRecDepth 100000 in
set_option maxHeartbeats 4000000 in
theorem t_Md_happens_78 {g : GG} {d : Nat} (hd0 : 9 ≤ d) : ∀ (x1 : Int32) (x2 : Int32) (s0 : Int32) (ν : Nm) (r : Nm), Md_happens_78 x1 x2 s0 ν = some r → Z g d (0, 0) mX12_happens 333 0 0 78 [(0, .ref 313), (1, .int x1), (2, .int x2)] [.int s0] (zem ν) (zF g (none, zem r)) := by
  intro x1 x2 s0 ν r h
  unfold Md_happens_78 at h
  refine z_istore_n (M := mX12_happens) (lv2 := [(3, .int s0), (0, .ref 313), (1, .int x1), (2, .int x2)]) dX12_happens_78 (Nat.le_of_ble_eq_true rfl) rfl ?_
  refine z_iload_n dX12_happens_79 2 rfl ?_
  refine z_bipush (M := mX12_happens) (v := 7) dX12_happens_80 rfl ?_
  refine z_irem dX12_happens_82 (by decide) ?_
  by_cases hc4 : (x1 - x1 / (7 : Int32) * (7 : Int32)) = (3 : Int32)
  · replace h := oT hc4 h
    refine y_sw (3 : Int32) (3) 108 dX12_happens_83 hc4 rfl (by decide) (by decide) rfl rfl ?_
    refine z_aload_n dX12_happens_108 1 rfl ?_
    refine z_iload_n dX12_happens_109 3 rfl ?_
    refine z_iload_n dX12_happens_110 0 rfl ?_
    obtain ⟨v1, he1, h⟩ := obind h
    refine y_Vi (M := mX12_happens) (Y := mX12_canSnuff) (d2 := d - 1) (As := [.int x2, .int s0]) (st := []) dX12_happens_111 mlRX12_373 cv_X12_canSnuff zk_313 (ct_Md_canSnuff (dle (Nat.le_of_ble_eq_true rfl) hd0) he1) (dps (Nat.le_of_ble_eq_true rfl) hd0) rfl rfl (Nat.le_of_ble_eq_true rfl) ?_
    refine z_if_eq 178 dX12_happens_114 rfl (fun hc2 => ?_) (fun hc2 => ?_)
    · replace h := oT hc2 h
      cases h
      exact z_vret dX12_happens_178 rfl
    · replace h := oF hc2 h
      refine z_aload_n dX12_happens_117 1 rfl ?_
      refine z_iload_n dX12_happens_118 3 rfl ?_
      refine z_iload_n dX12_happens_119 0 rfl ?_
      obtain ⟨v3, he3, h⟩ := obind h
      refine y_Vv (M := mX12_happens) (Y := mX12_snuffNow) (d2 := d - 1) (As := [.int x2, .int s0]) (st := []) dX12_happens_120 mlRX12_376 cv_X12_snuffNow zk_313 (ct_Md_snuffNow (dle (Nat.le_of_ble_eq_true rfl) hd0) he3) (dps (Nat.le_of_ble_eq_true rfl) hd0) rfl rfl (Nat.le_of_ble_eq_true rfl) ?_
      refine z_goto 178 dX12_happens_123 rfl ?_
      cases h
      exact z_vret dX12_happens_178 rfl
  replace h := oF hc4 h
  by_cases hc6 : (x1 - x1 / (7 : Int32) * (7 : Int32)) = (4 : Int32)
  · replace h := oT hc6 h
    refine y_sw (4 : Int32) (4) 126 dX12_happens_83 hc6 rfl (by decide) (by decide) rfl rfl ?_
    refine z_aload_n dX12_happens_126 1 rfl ?_
    refine z_iload_n dX12_happens_127 3 rfl ?_
    obtain ⟨v5, he5, h⟩ := obind h
    refine y_Vv (M := mX12_happens) (Y := mX12_begin) (d2 := d - 1) (As := [.int x2]) (st := []) dX12_happens_128 mlRX12_104 cv_X12_begin zk_313 (ct_Md_begin (dle (Nat.le_of_ble_eq_true rfl) hd0) he5) (dps (Nat.le_of_ble_eq_true rfl) hd0) rfl rfl (Nat.le_of_ble_eq_true rfl) ?_
    refine z_goto 178 dX12_happens_131 rfl ?_
    cases h
    exact z_vret dX12_happens_178 rfl
  replace h := oF hc6 h
  by_cases hc11 : (x1 - x1 / (7 : Int32) * (7 : Int32)) = (5 : Int32)
  · replace h := oT hc11 h
    refine y_sw (5 : Int32) (5) 134 dX12_happens_83 hc11 rfl (by decide) (by decide) rfl rfl ?_
    refine z_aload_n dX12_happens_134 1 rfl ?_
    obtain ⟨v7, he7, h⟩ := obind h
    refine y_Vi (M := mX12_happens) (Y := mX12_canBurn) (d2 := d - 1) (As := []) (st := []) dX12_happens_135 mlRX12_383 cv_X12_canBurn zk_313 (ct_Md_canBurn (dle (Nat.le_of_ble_eq_true rfl) hd0) he7) (dps (Nat.le_of_ble_eq_true rfl) hd0) rfl rfl (Nat.le_of_ble_eq_true rfl) ?_
    refine z_if_eq 178 dX12_happens_138 rfl (fun hc8 => ?_) (fun hc8 => ?_)
    · replace h := oT hc8 h
      cases h
      exact z_vret dX12_happens_178 rfl
    · replace h := oF hc8 h
      refine z_aload_n dX12_happens_141 1 rfl ?_
      refine z_aload_n dX12_happens_142 1 rfl ?_
      obtain ⟨v9, he9, h⟩ := obind h
      refine y_Vi (M := mX12_happens) (Y := mX12_nextOut) (d2 := d - 1) (As := []) (st := [.ref 313]) dX12_happens_143 mlRX12_343 cv_X12_nextOut zk_313 (ct_Md_nextOut (dle (Nat.le_of_ble_eq_true rfl) hd0) he9) (dps (Nat.le_of_ble_eq_true rfl) hd0) rfl rfl (Nat.le_of_ble_eq_true rfl) ?_
      obtain ⟨v10, he10, h⟩ := obind h
      refine y_Vv (M := mX12_happens) (Y := mX12_pass) (d2 := d - 1) (As := [.int v9]) (st := []) dX12_happens_146 mlRX12_386 cv_X12_pass zk_313 (ct_Md_pass (dle (Nat.le_of_ble_eq_true rfl) hd0) he10) (dps (Nat.le_of_ble_eq_true rfl) hd0) rfl rfl (Nat.le_of_ble_eq_true rfl) ?_
      refine z_goto 178 dX12_happens_149 rfl ?_
      cases h
      exact z_vret dX12_happens_178 rfl
  replace h := oF hc11 h
  have zhc4 := i32ne hc4 (z := 3) rfl
  have zhc6 := i32ne hc6 (z := 4) rfl
  have zhc11 := i32ne hc11 (z := 5) rfl
  refine z_tableOut 152 dX12_happens_83 (by omega) rfl ?_
  refine z_aload_n dX12_happens_152 1 rfl ?_
  refine z_iload_n dX12_happens_153 3 rfl ?_
  refine z_iload_n dX12_happens_154 0 rfl ?_
  obtain ⟨v12, he12, h⟩ := obind h
  refine y_Vi (M := mX12_happens) (Y := mX12_canLight) (d2 := d - 1) (As := [.int x2, .int s0]) (st := []) dX12_happens_155 mlRX12_363 cv_X12_canLight zk_313 (ct_Md_canLight (dle (Nat.le_of_ble_eq_true rfl) hd0) he12) (dps (Nat.le_of_ble_eq_true rfl) hd0) rfl rfl (Nat.le_of_ble_eq_true rfl) ?_
  refine z_if_eq 178 dX12_happens_158 rfl (fun hc13 => ?_) (fun hc13 => ?_)
  · replace h := oT hc13 h
    cases h
    exact z_vret dX12_happens_178 rfl
  · replace h := oF hc13 h
    refine z_aload_n dX12_happens_161 1 rfl ?_
    refine z_iload_n dX12_happens_162 3 rfl ?_
    refine z_iload_n dX12_happens_163 0 rfl ?_
    obtain ⟨v14, he14, h⟩ := obind h
    refine y_Vi (M := mX12_happens) (Y := mX12_lightNow) (d2 := d - 1) (As := [.int x2, .int s0]) (st := []) dX12_happens_164 mlRX12_370 cv_X12_lightNow zk_313 (ct_Md_lightNow (dle (Nat.le_of_ble_eq_true rfl) hd0) he14) (dps (Nat.le_of_ble_eq_true rfl) hd0) rfl rfl (Nat.le_of_ble_eq_true rfl) ?_
    refine z_if_ge 178 dX12_happens_167 rfl (fun hc15 => ?_) (fun hc15 => ?_)
    · replace h := oT hc15 h
      cases h
      exact z_vret dX12_happens_178 rfl
    · replace h := oF hc15 h
      refine z_aload_n dX12_happens_170 1 rfl ?_
      refine y_getR (M := mX12_happens) (r := 314) dX12_happens_171 zk_313 flRX12_7 fr_10_0.1 (fr_10_0.2 _) ?_
      refine z_bipush (M := mX12_happens) (v := 10) dX12_happens_174 rfl ?_
      refine z_iconst (M := mX12_happens) (v := 0) dX12_happens_176 rfl ?_
      refine y_iast (M := mX12_happens) (jj := 10) dX12_happens_177 zk_314 rfl rfl ?_
      cases h
      exact z_vret dX12_happens_178 rfl
def Md_happens (x1 : Int32) (ν : Nm) : Option Nm :=
  (if ¬ (x1 - x1 / (7 : Int32) * (7 : Int32)) = (6 : Int32) then
    (if ¬ (gi ν 314 0) = 0 then
      if (gi ν 314 0) = 0 then none else
      (if ¬ ((x1 / (7 : Int32)) - (x1 / (7 : Int32)) / (2 : Int32) * (2 : Int32)) = (1 : Int32) then
        Md_happens_78 x1 (x1 - x1 / (gi ν 314 0) * (gi ν 314 0)) (0 : Int32) ν
      else
        Md_happens_78 x1 (x1 - x1 / (gi ν 314 0) * (gi ν 314 0)) (1 : Int32) ν)
    else
      some ν)
  else
    (if (639936 : Int32) < ((gi ν 314 8) + ((64 : Int32) * ((1 : Int32) + (x1 - x1 / (5 : Int32) * (5 : Int32))))) then
      some ν
    else
      (Md_pass ((64 : Int32) * ((1 : Int32) + (x1 - x1 / (5 : Int32) * (5 : Int32)))) ν).bind fun v6 =>
      some v6))
set_option maxRecDepth 100000 in
set_option maxHeartbeats 4000000 in
theorem t_Md_happens {g : GG} {d : Nat} (hd0 : 9 ≤ d) : ∀ (x1 : Int32) (ν : Nm) (r : Nm), Md_happens x1 ν = some r → Z g d (0, 0) mX12_happens 333 0 0 0 [(0, .ref 313), (1, .int x1)] [] (zem ν) (zF g (none, zem r)) := by
  intro x1 ν r h
  unfold Md_happens at h
  refine z_iload_n dX12_happens_0 1 rfl ?_
  refine z_bipush (M := mX12_happens) (v := 7) dX12_happens_1 rfl ?_
  refine z_irem dX12_happens_3 (by decide) ?_
  refine z_bipush (M := mX12_happens) (v := 6) dX12_happens_4 rfl ?_
  refine z_icmp_ne 44 dX12_happens_6 rfl (fun hc1 => ?_) (fun hc1 => ?_)
  · replace h := oT hc1 h
    refine z_aload_n dX12_happens_44 0 rfl ?_
    refine y_getR (M := mX12_happens) (r := 314) dX12_happens_45 zk_313 flRX12_7 fr_10_0.1 (fr_10_0.2 _) ?_
    refine z_iconst (M := mX12_happens) (v := 0) dX12_happens_48 rfl ?_
    refine y_iald (M := mX12_happens) (jj := 0) dX12_happens_49 zk_314 rfl rfl ?_
    refine z_if_ne 54 dX12_happens_50 rfl (fun hc2 => ?_) (fun hc2 => ?_)
    · replace h := oT hc2 h
      refine z_iload_n dX12_happens_54 1 rfl ?_
      refine z_aload_n dX12_happens_55 0 rfl ?_
      refine y_getR (M := mX12_happens) (r := 314) dX12_happens_56 zk_313 flRX12_7 fr_10_0.1 (fr_10_0.2 _) ?_
      refine z_iconst (M := mX12_happens) (v := 0) dX12_happens_59 rfl ?_
      refine y_iald (M := mX12_happens) (jj := 0) dX12_happens_60 zk_314 rfl rfl ?_
      obtain ⟨hz3, h⟩ := oifn h
      refine z_irem dX12_happens_61 hz3 ?_
      refine z_istore_n (M := mX12_happens) (lv2 := [(2, .int (x1 - x1 / (gi ν 314 0) * (gi ν 314 0))), (0, .ref 313), (1, .int x1)]) dX12_happens_62 (Nat.le_of_ble_eq_true rfl) rfl ?_
      refine z_iload_n dX12_happens_63 2 rfl ?_
      refine z_bipush (M := mX12_happens) (v := 7) dX12_happens_64 rfl ?_
      refine z_idiv dX12_happens_66 (by decide) ?_
      refine z_iconst (M := mX12_happens) (v := 2) dX12_happens_67 rfl ?_
      refine z_irem dX12_happens_68 (by decide) ?_
      refine z_iconst (M := mX12_happens) (v := 1) dX12_happens_69 rfl ?_
      refine z_icmp_ne 77 dX12_happens_70 rfl (fun hc4 => ?_) (fun hc4 => ?_)
      · replace h := oT hc4 h
        refine z_iconst (M := mX12_happens) (v := 0) dX12_happens_77 rfl ?_
        refine z_lv (lv2 := [(0, .ref 313), (1, .int x1), (2, .int (x1 - x1 / (gi ν 314 0) * (gi ν 314 0)))]) [1, 2, 0] rfl ?_
        exact t_Md_happens_78 hd0  x1 (x1 - x1 / (gi ν 314 0) * (gi ν 314 0)) (0 : Int32) ν _ h
      · replace h := oFn hc4 h
        refine z_iconst (M := mX12_happens) (v := 1) dX12_happens_73 rfl ?_
        refine z_goto 78 dX12_happens_74 rfl ?_
        refine z_lv (lv2 := [(0, .ref 313), (1, .int x1), (2, .int (x1 - x1 / (gi ν 314 0) * (gi ν 314 0)))]) [1, 2, 0] rfl ?_
        exact t_Md_happens_78 hd0  x1 (x1 - x1 / (gi ν 314 0) * (gi ν 314 0)) (1 : Int32) ν _ h
    · replace h := oFn hc2 h
      cases h
      exact z_vret dX12_happens_53 rfl
  · replace h := oFn hc1 h
    refine z_aload_n dX12_happens_9 0 rfl ?_
    refine y_getR (M := mX12_happens) (r := 314) dX12_happens_10 zk_313 flRX12_7 fr_10_0.1 (fr_10_0.2 _) ?_
    refine z_bipush (M := mX12_happens) (v := 8) dX12_happens_13 rfl ?_
    refine y_iald (M := mX12_happens) (jj := 8) dX12_happens_15 zk_314 rfl rfl ?_
    refine z_bipush (M := mX12_happens) (v := 64) dX12_happens_16 rfl ?_
    refine z_iconst (M := mX12_happens) (v := 1) dX12_happens_18 rfl ?_
    refine z_iload_n dX12_happens_19 1 rfl ?_
    refine z_iconst (M := mX12_happens) (v := 5) dX12_happens_20 rfl ?_
    refine z_irem dX12_happens_21 (by decide) ?_
    refine z_iadd dX12_happens_22 ?_
    refine z_imul dX12_happens_23 ?_
    refine z_iadd dX12_happens_24 ?_
    refine z_ldcw dX12_happens_25 csRX12_336 ?_
    refine z_icmp_gt 43 dX12_happens_28 rfl (fun hc5 => ?_) (fun hc5 => ?_)
    · replace h := oT hc5 h
      cases h
      exact z_vret dX12_happens_43 rfl
    · replace h := oF hc5 h
      refine z_aload_n dX12_happens_31 0 rfl ?_
      refine z_bipush (M := mX12_happens) (v := 64) dX12_happens_32 rfl ?_
      refine z_iconst (M := mX12_happens) (v := 1) dX12_happens_34 rfl ?_
      refine z_iload_n dX12_happens_35 1 rfl ?_
      refine z_iconst (M := mX12_happens) (v := 5) dX12_happens_36 rfl ?_
      refine z_irem dX12_happens_37 (by decide) ?_
      refine z_iadd dX12_happens_38 ?_
      refine z_imul dX12_happens_39 ?_
      obtain ⟨v6, he6, h⟩ := obind h
      refine y_Vv (M := mX12_happens) (Y := mX12_pass) (d2 := d - 1) (As := [.int ((64 : Int32) * ((1 : Int32) + (x1 - x1 / (5 : Int32) * (5 : Int32))))]) (st := []) dX12_happens_40 mlRX12_386 cv_X12_pass zk_313 (ct_Md_pass (dle (Nat.le_of_ble_eq_true rfl) hd0) he6) (dps (Nat.le_of_ble_eq_true rfl) hd0) rfl rfl (Nat.le_of_ble_eq_true rfl) ?_
      cases h
      exact z_vret dX12_happens_43 rfl
theorem ct_Md_happens {g : GG} {d : Nat} {x1 : Int32} {ν : Nm} {r : Nm} (hd0 : 9 ≤ d)  (h : Md_happens x1 ν = some r) : Ct g d mX12_happens [.ref 313, .int x1] (zem ν) (none, zem r) := y_entry in_X12_happens (Nat.le_of_ble_eq_true rfl) rfl (t_Md_happens hd0 x1 ν r h)
-- FuseMinutesModel.shifts(II)I
theorem dX12_shifts_0 : decode cX12_shifts 0 = .ok (.iload_n 1, 1) := by decide +kernel
theorem dX12_shifts_1 : decode cX12_shifts 1 = .ok (.iconst 0, 1) := by decide +kernel
theorem dX12_shifts_2 : decode cX12_shifts 2 = .ok (.sipush 9999, 3) := by decide +kernel
theorem dX12_shifts_5 : decode cX12_shifts 5 = .ok (.invokestatic 88, 3) := by decide +kernel
theorem dX12_shifts_8 : decode cX12_shifts 8 = .ok (.ifCond .eq 13, 3) := by decide +kernel
theorem dX12_shifts_11 : decode cX12_shifts 11 = .ok (.iload_n 2, 1) := by decide +kernel
theorem dX12_shifts_12 : decode cX12_shifts 12 = .ok (.iconst 1, 1) := by decide +kernel
theorem dX12_shifts_13 : decode cX12_shifts 13 = .ok (.bipush 40, 2) := by decide +kernel
theorem dX12_shifts_15 : decode cX12_shifts 15 = .ok (.invokestatic 88, 3) := by decide +kernel
theorem dX12_shifts_18 : decode cX12_shifts 18 = .ok (.ifCond .ne 5, 3) := by decide +kernel
theorem dX12_shifts_21 : decode cX12_shifts 21 = .ok (.iconst (-1), 1) := by decide +kernel
theorem dX12_shifts_22 : decode cX12_shifts 22 = .ok (.ireturn, 1) := by decide +kernel
theorem dX12_shifts_23 : decode cX12_shifts 23 = .ok (.aload_n 0, 1) := by decide +kernel
theorem dX12_shifts_24 : decode cX12_shifts 24 = .ok (.invokevirtual 367, 3) := by decide +kernel
theorem dX12_shifts_27 : decode cX12_shifts 27 = .ok (.aload_n 0, 1) := by decide +kernel
theorem dX12_shifts_28 : decode cX12_shifts 28 = .ok (.getfield 7, 3) := by decide +kernel
theorem dX12_shifts_31 : decode cX12_shifts 31 = .ok (.bipush 9, 2) := by decide +kernel
theorem dX12_shifts_33 : decode cX12_shifts 33 = .ok (.iload_n 1, 1) := by decide +kernel
theorem dX12_shifts_34 : decode cX12_shifts 34 = .ok (.iconst 2, 1) := by decide +kernel
theorem dX12_shifts_35 : decode cX12_shifts 35 = .ok (.imul, 1) := by decide +kernel
theorem dX12_shifts_36 : decode cX12_shifts 36 = .ok (.sipush 311, 3) := by decide +kernel
theorem dX12_shifts_39 : decode cX12_shifts 39 = .ok (.iadd, 1) := by decide +kernel
theorem dX12_shifts_40 : decode cX12_shifts 40 = .ok (.iastore, 1) := by decide +kernel
theorem dX12_shifts_41 : decode cX12_shifts 41 = .ok (.iconst 0, 1) := by decide +kernel
theorem dX12_shifts_42 : decode cX12_shifts 42 = .ok (.istore_n 3, 1) := by decide +kernel
theorem dX12_shifts_43 : decode cX12_shifts 43 = .ok (.iload_n 3, 1) := by decide +kernel
theorem dX12_shifts_44 : decode cX12_shifts 44 = .ok (.iload_n 2, 1) := by decide +kernel
theorem dX12_shifts_45 : decode cX12_shifts 45 = .ok (.if_icmp .ge 28, 3) := by decide +kernel
theorem dX12_shifts_48 : decode cX12_shifts 48 = .ok (.aload_n 0, 1) := by decide +kernel
theorem dX12_shifts_49 : decode cX12_shifts 49 = .ok (.getfield 7, 3) := by decide +kernel
theorem dX12_shifts_52 : decode cX12_shifts 52 = .ok (.bipush 9, 2) := by decide +kernel
theorem dX12_shifts_54 : decode cX12_shifts 54 = .ok (.iaload, 1) := by decide +kernel
theorem dX12_shifts_55 : decode cX12_shifts 55 = .ok (.istore 4, 2) := by decide +kernel
theorem dX12_shifts_57 : decode cX12_shifts 57 = .ok (.aload_n 0, 1) := by decide +kernel
theorem dX12_shifts_58 : decode cX12_shifts 58 = .ok (.invokevirtual 360, 3) := by decide +kernel
theorem dX12_shifts_61 : decode cX12_shifts 61 = .ok (.aload_n 0, 1) := by decide +kernel
theorem dX12_shifts_62 : decode cX12_shifts 62 = .ok (.iload 4, 2) := by decide +kernel
theorem dX12_shifts_64 : decode cX12_shifts 64 = .ok (.invokevirtual 416, 3) := by decide +kernel
theorem dX12_shifts_67 : decode cX12_shifts 67 = .ok (.iinc 3 1, 3) := by decide +kernel
theorem dX12_shifts_70 : decode cX12_shifts 70 = .ok (.goto (-27), 3) := by decide +kernel
theorem dX12_shifts_73 : decode cX12_shifts 73 = .ok (.aload_n 0, 1) := by decide +kernel
theorem dX12_shifts_74 : decode cX12_shifts 74 = .ok (.getfield 7, 3) := by decide +kernel
theorem dX12_shifts_77 : decode cX12_shifts 77 = .ok (.bipush 8, 2) := by decide +kernel
theorem dX12_shifts_79 : decode cX12_shifts 79 = .ok (.iaload, 1) := by decide +kernel
theorem dX12_shifts_80 : decode cX12_shifts 80 = .ok (.ireturn, 1) := by decide +kernel
def Md_shifts_43 : Nat → Int32 → Int32 → Nm → Option (Int32 × Nm)
  | 0, _, _, _ => none
  | f + 1, x2, x3, ν =>
    (if x2 ≤ x3 then
      some ((gi ν 314 8), ν)
    else
      (Md_anew ν).bind fun v2 =>
      (Md_happens (gi ν 314 9) v2).bind fun v3 =>
      (Md_shifts_43 f) x2 (x3 + (1 : Int32)) v3)
set_option maxRecDepth 100000 in
set_option maxHeartbeats 4000000 in
theorem t_Md_shifts_43 {g : GG} {d : Nat} (hd0 : 10 ≤ d) : ∀ (f : Nat), ∀ (x2 : Int32) (x3 : Int32) (ν : Nm) (r : (Int32 × Nm)), Md_shifts_43 f x2 x3 ν = some r → Z g d (0, 0) mX12_shifts 333 0 0 43 [(0, .ref 313), (2, .int x2), (3, .int x3)] [] (zem ν) (zF g (some (.int r.1), zem r.2)) := by
  intro f
  induction f with
  | zero =>
    intro x2 x3 ν r h
    cases h
  | succ f ih =>
    intro x2 x3 ν r h
    rw [Md_shifts_43] at h
    refine z_iload_n dX12_shifts_43 2 rfl ?_
    refine z_iload_n dX12_shifts_44 1 rfl ?_
    refine z_icmp_ge 73 dX12_shifts_45 rfl (fun hc1 => ?_) (fun hc1 => ?_)
    · replace h := oT hc1 h
      refine z_aload_n dX12_shifts_73 0 rfl ?_
      refine y_getR (M := mX12_shifts) (r := 314) dX12_shifts_74 zk_313 flRX12_7 fr_10_0.1 (fr_10_0.2 _) ?_
      refine z_bipush (M := mX12_shifts) (v := 8) dX12_shifts_77 rfl ?_
      refine y_iald (M := mX12_shifts) (jj := 8) dX12_shifts_79 zk_314 rfl rfl ?_
      cases h
      exact z_iret dX12_shifts_80 rfl
    · replace h := oF hc1 h
      refine z_aload_n dX12_shifts_48 0 rfl ?_
      refine y_getR (M := mX12_shifts) (r := 314) dX12_shifts_49 zk_313 flRX12_7 fr_10_0.1 (fr_10_0.2 _) ?_
      refine z_bipush (M := mX12_shifts) (v := 9) dX12_shifts_52 rfl ?_
      refine y_iald (M := mX12_shifts) (jj := 9) dX12_shifts_54 zk_314 rfl rfl ?_
      refine z_istore (M := mX12_shifts) (lv2 := [(4, .int (gi ν 314 9)), (0, .ref 313), (2, .int x2), (3, .int x3)]) dX12_shifts_55 (Nat.le_of_ble_eq_true rfl) rfl ?_
      refine z_aload_n dX12_shifts_57 1 rfl ?_
      obtain ⟨v2, he2, h⟩ := obind h
      refine y_Vv (M := mX12_shifts) (Y := mX12_anew) (d2 := d - 1) (As := []) (st := []) dX12_shifts_58 mlRX12_360 cv_X12_anew zk_313 (ct_Md_anew (dle (Nat.le_of_ble_eq_true rfl) hd0) he2) (dps (Nat.le_of_ble_eq_true rfl) hd0) rfl rfl (Nat.le_of_ble_eq_true rfl) ?_
      refine z_aload_n dX12_shifts_61 1 rfl ?_
      refine z_iload dX12_shifts_62 0 rfl ?_
      obtain ⟨v3, he3, h⟩ := obind h
      refine y_Vv (M := mX12_shifts) (Y := mX12_happens) (d2 := d - 1) (As := [.int (gi ν 314 9)]) (st := []) dX12_shifts_64 mlRX12_416 cv_X12_happens zk_313 (ct_Md_happens (dle (Nat.le_of_ble_eq_true rfl) hd0) he3) (dps (Nat.le_of_ble_eq_true rfl) hd0) rfl rfl (Nat.le_of_ble_eq_true rfl) ?_
      refine z_iinc (M := mX12_shifts) (v := (x3 + (1 : Int32))) (lv2 := [(3, .int (x3 + (1 : Int32))), (4, .int (gi ν 314 9)), (0, .ref 313), (2, .int x2)]) dX12_shifts_67 3 rfl rfl (Nat.le_of_ble_eq_true rfl) rfl ?_
      refine z_goto 43 dX12_shifts_70 rfl ?_
      refine z_lv (lv2 := [(0, .ref 313), (2, .int x2), (3, .int (x3 + (1 : Int32)))]) [2, 3, 0] rfl ?_
      exact ih x2 (x3 + (1 : Int32)) v3 _ h
def Md_shifts (x1 : Int32) (x2 : Int32) (ν : Nm) : Option (Int32 × Nm) :=
  (Md_isIn x1 (0 : Int32) (9999 : Int32)).bind fun v1 =>
  (if (b2i v1) = 0 then
    some ((-1 : Int32), ν)
  else
    (Md_isIn x2 (1 : Int32) (40 : Int32)).bind fun v3 =>
    (if ¬ (b2i v3) = 0 then
      (Md_keep ν).bind fun v5 =>
      Md_shifts_43 FU x2 (0 : Int32) (si v5 314 9 ((x1 * (2 : Int32)) + (311 : Int32)))
    else
      some ((-1 : Int32), ν)))
set_option maxRecDepth 100000 in
set_option maxHeartbeats 4000000 in
theorem t_Md_shifts {g : GG} {d : Nat} (hd0 : 10 ≤ d) : ∀ (x1 : Int32) (x2 : Int32) (ν : Nm) (r : (Int32 × Nm)), Md_shifts x1 x2 ν = some r → Z g d (0, 0) mX12_shifts 333 0 0 0 [(0, .ref 313), (1, .int x1), (2, .int x2)] [] (zem ν) (zF g (some (.int r.1), zem r.2)) := by
  intro x1 x2 ν r h
  unfold Md_shifts at h
  refine z_iload_n dX12_shifts_0 1 rfl ?_
  refine z_iconst (M := mX12_shifts) (v := 0) dX12_shifts_1 rfl ?_
  refine z_sipush (M := mX12_shifts) (v := 9999) dX12_shifts_2 rfl ?_
  obtain ⟨v1, he1, h⟩ := obind h
  refine y_Si (M := mX12_shifts) (Y := mX12_isIn) (d2 := d - 1) (As := [.int x1, .int (0 : Int32), .int (9999 : Int32)]) (st := []) dX12_shifts_5 mlRX12_88 cv_X12_isIn (ct_Md_isIn (dle (Nat.le_of_ble_eq_true rfl) hd0) he1) (dps (Nat.le_of_ble_eq_true rfl) hd0) rfl rfl (Nat.le_of_ble_eq_true rfl) ?_
  refine z_if_eq 21 dX12_shifts_8 rfl (fun hc2 => ?_) (fun hc2 => ?_)
  · replace h := oT hc2 h
    refine z_iconst (M := mX12_shifts) (v := -1) dX12_shifts_21 rfl ?_
    cases h
    exact z_iret dX12_shifts_22 rfl
  · replace h := oF hc2 h
    refine z_iload_n dX12_shifts_11 2 rfl ?_
    refine z_iconst (M := mX12_shifts) (v := 1) dX12_shifts_12 rfl ?_
    refine z_bipush (M := mX12_shifts) (v := 40) dX12_shifts_13 rfl ?_
    obtain ⟨v3, he3, h⟩ := obind h
    refine y_Si (M := mX12_shifts) (Y := mX12_isIn) (d2 := d - 1) (As := [.int x2, .int (1 : Int32), .int (40 : Int32)]) (st := []) dX12_shifts_15 mlRX12_88 cv_X12_isIn (ct_Md_isIn (dle (Nat.le_of_ble_eq_true rfl) hd0) he3) (dps (Nat.le_of_ble_eq_true rfl) hd0) rfl rfl (Nat.le_of_ble_eq_true rfl) ?_
    refine z_if_ne 23 dX12_shifts_18 rfl (fun hc4 => ?_) (fun hc4 => ?_)
    · replace h := oT hc4 h
      refine z_aload_n dX12_shifts_23 0 rfl ?_
      obtain ⟨v5, he5, h⟩ := obind h
      refine y_Vv (M := mX12_shifts) (Y := mX12_keep) (d2 := d - 1) (As := []) (st := []) dX12_shifts_24 mlRX12_367 cv_X12_keep zk_313 (ct_Md_keep (dle (Nat.le_of_ble_eq_true rfl) hd0) he5) (dps (Nat.le_of_ble_eq_true rfl) hd0) rfl rfl (Nat.le_of_ble_eq_true rfl) ?_
      refine z_aload_n dX12_shifts_27 0 rfl ?_
      refine y_getR (M := mX12_shifts) (r := 314) dX12_shifts_28 zk_313 flRX12_7 fr_10_0.1 (fr_10_0.2 _) ?_
      refine z_bipush (M := mX12_shifts) (v := 9) dX12_shifts_31 rfl ?_
      refine z_iload_n dX12_shifts_33 1 rfl ?_
      refine z_iconst (M := mX12_shifts) (v := 2) dX12_shifts_34 rfl ?_
      refine z_imul dX12_shifts_35 ?_
      refine z_sipush (M := mX12_shifts) (v := 311) dX12_shifts_36 rfl ?_
      refine z_iadd dX12_shifts_39 ?_
      refine y_iast (M := mX12_shifts) (jj := 9) dX12_shifts_40 zk_314 rfl rfl ?_
      refine z_iconst (M := mX12_shifts) (v := 0) dX12_shifts_41 rfl ?_
      refine z_istore_n (M := mX12_shifts) (lv2 := [(3, .int (0 : Int32)), (0, .ref 313), (1, .int x1), (2, .int x2)]) dX12_shifts_42 (Nat.le_of_ble_eq_true rfl) rfl ?_
      refine z_lv (lv2 := [(0, .ref 313), (2, .int x2), (3, .int (0 : Int32))]) [1, 3, 0] rfl ?_
      exact t_Md_shifts_43 hd0 FU x2 (0 : Int32) (si v5 314 9 ((x1 * (2 : Int32)) + (311 : Int32))) _ h
    · replace h := oFn hc4 h
      refine z_iconst (M := mX12_shifts) (v := -1) dX12_shifts_21 rfl ?_
      cases h
      exact z_iret dX12_shifts_22 rfl
theorem ct_Md_shifts {g : GG} {d : Nat} {x1 : Int32} {x2 : Int32} {ν : Nm} {r : (Int32 × Nm)} (hd0 : 10 ≤ d)  (h : Md_shifts x1 x2 ν = some r) : Ct g d mX12_shifts [.ref 313, .int x1, .int x2] (zem ν) (some (.int r.1), zem r.2) := y_entry in_X12_shifts (Nat.le_of_ble_eq_true rfl) rfl (t_Md_shifts hd0 x1 x2 ν r h)
-- FuseMinutesModel.law(IZZ)I
theorem dX12_law_0 : decode cX12_law 0 = .ok (.aload_n 0, 1) := by decide +kernel
theorem dX12_law_1 : decode cX12_law 1 = .ok (.iload_n 1, 1) := by decide +kernel
theorem dX12_law_2 : decode cX12_law 2 = .ok (.invokevirtual 115, 3) := by decide +kernel
theorem dX12_law_5 : decode cX12_law 5 = .ok (.ifCond .ne 8, 3) := by decide +kernel
theorem dX12_law_8 : decode cX12_law 8 = .ok (.bipush (-100), 2) := by decide +kernel
theorem dX12_law_10 : decode cX12_law 10 = .ok (.goto 27, 3) := by decide +kernel
theorem dX12_law_13 : decode cX12_law 13 = .ok (.iload_n 3, 1) := by decide +kernel
theorem dX12_law_14 : decode cX12_law 14 = .ok (.ifCond .eq 12, 3) := by decide +kernel
theorem dX12_law_17 : decode cX12_law 17 = .ok (.aload_n 0, 1) := by decide +kernel
theorem dX12_law_18 : decode cX12_law 18 = .ok (.iload_n 1, 1) := by decide +kernel
theorem dX12_law_19 : decode cX12_law 19 = .ok (.iload_n 2, 1) := by decide +kernel
theorem dX12_law_20 : decode cX12_law 20 = .ok (.invokevirtual 353, 3) := by decide +kernel
theorem dX12_law_23 : decode cX12_law 23 = .ok (.goto 14, 3) := by decide +kernel
theorem dX12_law_26 : decode cX12_law 26 = .ok (.aload_n 0, 1) := by decide +kernel
theorem dX12_law_27 : decode cX12_law 27 = .ok (.aload_n 0, 1) := by decide +kernel
theorem dX12_law_28 : decode cX12_law 28 = .ok (.getfield 7, 3) := by decide +kernel
theorem dX12_law_31 : decode cX12_law 31 = .ok (.iconst 3, 1) := by decide +kernel
theorem dX12_law_32 : decode cX12_law 32 = .ok (.iaload, 1) := by decide +kernel
theorem dX12_law_33 : decode cX12_law 33 = .ok (.iload_n 1, 1) := by decide +kernel
theorem dX12_law_34 : decode cX12_law 34 = .ok (.invokevirtual 357, 3) := by decide +kernel
theorem dX12_law_37 : decode cX12_law 37 = .ok (.ireturn, 1) := by decide +kernel
def Md_law (x1 : Int32) (x2 : Int32) (x3 : Int32) (ν : Nm) : Option (Int32 × Nm) :=
  (Md_isCord ν x1).bind fun v1 =>
  (if ¬ (b2i v1) = 0 then
    (if x3 = 0 then
      (Md_failsOf (gi ν 314 3) x1 ν).bind fun v4 =>
      some (v4.1, v4.2)
    else
      (Md_lightsOf x1 x2 ν).bind fun v5 =>
      some (v5.1, v5.2))
  else
    some ((-100 : Int32), ν))
set_option maxRecDepth 100000 in
set_option maxHeartbeats 4000000 in
theorem t_Md_law {g : GG} {d : Nat} (hd0 : 8 ≤ d) : ∀ (x1 : Int32) (x2 : Int32) (x3 : Int32) (ν : Nm) (r : (Int32 × Nm)), Md_law x1 x2 x3 ν = some r → Z g d (0, 0) mX12_law 333 0 0 0 [(0, .ref 313), (1, .int x1), (2, .int x2), (3, .int x3)] [] (zem ν) (zF g (some (.int r.1), zem r.2)) := by
  intro x1 x2 x3 ν r h
  unfold Md_law at h
  refine z_aload_n dX12_law_0 0 rfl ?_
  refine z_iload_n dX12_law_1 1 rfl ?_
  obtain ⟨v1, he1, h⟩ := obind h
  refine y_Vi (M := mX12_law) (Y := mX12_isCord) (d2 := d - 1) (As := [.int x1]) (st := []) dX12_law_2 mlRX12_115 cv_X12_isCord zk_313 (ct_Md_isCord (dle (Nat.le_of_ble_eq_true rfl) hd0) he1) (dps (Nat.le_of_ble_eq_true rfl) hd0) rfl rfl (Nat.le_of_ble_eq_true rfl) ?_
  refine z_if_ne 13 dX12_law_5 rfl (fun hc2 => ?_) (fun hc2 => ?_)
  · replace h := oT hc2 h
    refine z_iload_n dX12_law_13 3 rfl ?_
    refine z_if_eq 26 dX12_law_14 rfl (fun hc3 => ?_) (fun hc3 => ?_)
    · replace h := oT hc3 h
      refine z_aload_n dX12_law_26 0 rfl ?_
      refine z_aload_n dX12_law_27 0 rfl ?_
      refine y_getR (M := mX12_law) (r := 314) dX12_law_28 zk_313 flRX12_7 fr_10_0.1 (fr_10_0.2 _) ?_
      refine z_iconst (M := mX12_law) (v := 3) dX12_law_31 rfl ?_
      refine y_iald (M := mX12_law) (jj := 3) dX12_law_32 zk_314 rfl rfl ?_
      refine z_iload_n dX12_law_33 1 rfl ?_
      obtain ⟨v4, he4, h⟩ := obind h
      refine y_Vi (M := mX12_law) (Y := mX12_failsOf) (d2 := d - 1) (As := [.int (gi ν 314 3), .int x1]) (st := []) dX12_law_34 mlRX12_357 cv_X12_failsOf zk_313 (ct_Md_failsOf (dle (Nat.le_of_ble_eq_true rfl) hd0) he4) (dps (Nat.le_of_ble_eq_true rfl) hd0) rfl rfl (Nat.le_of_ble_eq_true rfl) ?_
      cases h
      exact z_iret dX12_law_37 rfl
    · replace h := oF hc3 h
      refine z_aload_n dX12_law_17 0 rfl ?_
      refine z_iload_n dX12_law_18 1 rfl ?_
      refine z_iload_n dX12_law_19 2 rfl ?_
      obtain ⟨v5, he5, h⟩ := obind h
      refine y_Vi (M := mX12_law) (Y := mX12_lightsOf) (d2 := d - 1) (As := [.int x1, .int x2]) (st := []) dX12_law_20 mlRX12_353 cv_X12_lightsOf zk_313 (ct_Md_lightsOf (dle (Nat.le_of_ble_eq_true rfl) hd0) he5) (dps (Nat.le_of_ble_eq_true rfl) hd0) rfl rfl (Nat.le_of_ble_eq_true rfl) ?_
      refine z_goto 37 dX12_law_23 rfl ?_
      cases h
      exact z_iret dX12_law_37 rfl
  · replace h := oFn hc2 h
    refine z_bipush (M := mX12_law) (v := -100) dX12_law_8 rfl ?_
    refine z_goto 37 dX12_law_10 rfl ?_
    cases h
    exact z_iret dX12_law_37 rfl
theorem ct_Md_law {g : GG} {d : Nat} {x1 : Int32} {x2 : Int32} {x3 : Int32} {ν : Nm} {r : (Int32 × Nm)} (hd0 : 8 ≤ d)  (h : Md_law x1 x2 x3 ν = some r) : Ct g d mX12_law [.ref 313, .int x1, .int x2, .int x3] (zem ν) (some (.int r.1), zem r.2) := y_entry in_X12_law (Nat.le_of_ble_eq_true rfl) rfl (t_Md_law hd0 x1 x2 x3 ν r h)
-- FuseMinutesModel.foretold(II)I
theorem dX12_foretold_0 : decode cX12_foretold 0 = .ok (.iload_n 1, 1) := by decide +kernel
theorem dX12_foretold_1 : decode cX12_foretold 1 = .ok (.iconst 1, 1) := by decide +kernel
theorem dX12_foretold_2 : decode cX12_foretold 2 = .ok (.bipush 60, 2) := by decide +kernel
theorem dX12_foretold_4 : decode cX12_foretold 4 = .ok (.invokestatic 88, 3) := by decide +kernel
theorem dX12_foretold_7 : decode cX12_foretold 7 = .ok (.ifCond .eq 11, 3) := by decide +kernel
theorem dX12_foretold_10 : decode cX12_foretold 10 = .ok (.aload_n 0, 1) := by decide +kernel
theorem dX12_foretold_11 : decode cX12_foretold 11 = .ok (.iload_n 2, 1) := by decide +kernel
theorem dX12_foretold_12 : decode cX12_foretold 12 = .ok (.invokevirtual 115, 3) := by decide +kernel
theorem dX12_foretold_15 : decode cX12_foretold 15 = .ok (.ifCond .ne 5, 3) := by decide +kernel
theorem dX12_foretold_18 : decode cX12_foretold 18 = .ok (.iconst (-1), 1) := by decide +kernel
theorem dX12_foretold_19 : decode cX12_foretold 19 = .ok (.ireturn, 1) := by decide +kernel
theorem dX12_foretold_20 : decode cX12_foretold 20 = .ok (.bipush 8, 2) := by decide +kernel
theorem dX12_foretold_22 : decode cX12_foretold 22 = .ok (.istore_n 3, 1) := by decide +kernel
theorem dX12_foretold_23 : decode cX12_foretold 23 = .ok (.iload_n 3, 1) := by decide +kernel
theorem dX12_foretold_24 : decode cX12_foretold 24 = .ok (.bipush 20, 2) := by decide +kernel
theorem dX12_foretold_26 : decode cX12_foretold 26 = .ok (.if_icmp .ge 21, 3) := by decide +kernel
theorem dX12_foretold_29 : decode cX12_foretold 29 = .ok (.aload_n 0, 1) := by decide +kernel
theorem dX12_foretold_30 : decode cX12_foretold 30 = .ok (.getfield 47, 3) := by decide +kernel
theorem dX12_foretold_33 : decode cX12_foretold 33 = .ok (.iload_n 3, 1) := by decide +kernel
theorem dX12_foretold_34 : decode cX12_foretold 34 = .ok (.aload_n 0, 1) := by decide +kernel
theorem dX12_foretold_35 : decode cX12_foretold 35 = .ok (.getfield 7, 3) := by decide +kernel
theorem dX12_foretold_38 : decode cX12_foretold 38 = .ok (.iload_n 3, 1) := by decide +kernel
theorem dX12_foretold_39 : decode cX12_foretold 39 = .ok (.iaload, 1) := by decide +kernel
theorem dX12_foretold_40 : decode cX12_foretold 40 = .ok (.iastore, 1) := by decide +kernel
theorem dX12_foretold_41 : decode cX12_foretold 41 = .ok (.iinc 3 1, 3) := by decide +kernel
theorem dX12_foretold_44 : decode cX12_foretold 44 = .ok (.goto (-21), 3) := by decide +kernel
theorem dX12_foretold_47 : decode cX12_foretold 47 = .ok (.aload_n 0, 1) := by decide +kernel
theorem dX12_foretold_48 : decode cX12_foretold 48 = .ok (.iconst 0, 1) := by decide +kernel
theorem dX12_foretold_49 : decode cX12_foretold 49 = .ok (.putfield 43, 3) := by decide +kernel
theorem dX12_foretold_52 : decode cX12_foretold 52 = .ok (.aload_n 0, 1) := by decide +kernel
theorem dX12_foretold_53 : decode cX12_foretold 53 = .ok (.bipush 64, 2) := by decide +kernel
theorem dX12_foretold_55 : decode cX12_foretold 55 = .ok (.iload_n 1, 1) := by decide +kernel
theorem dX12_foretold_56 : decode cX12_foretold 56 = .ok (.imul, 1) := by decide +kernel
theorem dX12_foretold_57 : decode cX12_foretold 57 = .ok (.invokevirtual 386, 3) := by decide +kernel
theorem dX12_foretold_60 : decode cX12_foretold 60 = .ok (.aload_n 0, 1) := by decide +kernel
theorem dX12_foretold_61 : decode cX12_foretold 61 = .ok (.iload_n 2, 1) := by decide +kernel
theorem dX12_foretold_62 : decode cX12_foretold 62 = .ok (.iconst 0, 1) := by decide +kernel
theorem dX12_foretold_63 : decode cX12_foretold 63 = .ok (.invokevirtual 96, 3) := by decide +kernel
theorem dX12_foretold_66 : decode cX12_foretold 66 = .ok (.istore_n 3, 1) := by decide +kernel
theorem dX12_foretold_67 : decode cX12_foretold 67 = .ok (.bipush 8, 2) := by decide +kernel
theorem dX12_foretold_69 : decode cX12_foretold 69 = .ok (.istore 4, 2) := by decide +kernel
theorem dX12_foretold_71 : decode cX12_foretold 71 = .ok (.iload 4, 2) := by decide +kernel
theorem dX12_foretold_73 : decode cX12_foretold 73 = .ok (.bipush 20, 2) := by decide +kernel
theorem dX12_foretold_75 : decode cX12_foretold 75 = .ok (.if_icmp .ge 23, 3) := by decide +kernel
theorem dX12_foretold_78 : decode cX12_foretold 78 = .ok (.aload_n 0, 1) := by decide +kernel
theorem dX12_foretold_79 : decode cX12_foretold 79 = .ok (.getfield 7, 3) := by decide +kernel
theorem dX12_foretold_82 : decode cX12_foretold 82 = .ok (.iload 4, 2) := by decide +kernel
theorem dX12_foretold_84 : decode cX12_foretold 84 = .ok (.aload_n 0, 1) := by decide +kernel
theorem dX12_foretold_85 : decode cX12_foretold 85 = .ok (.getfield 47, 3) := by decide +kernel
theorem dX12_foretold_88 : decode cX12_foretold 88 = .ok (.iload 4, 2) := by decide +kernel
theorem dX12_foretold_90 : decode cX12_foretold 90 = .ok (.iaload, 1) := by decide +kernel
theorem dX12_foretold_91 : decode cX12_foretold 91 = .ok (.iastore, 1) := by decide +kernel
theorem dX12_foretold_92 : decode cX12_foretold 92 = .ok (.iinc 4 1, 3) := by decide +kernel
theorem dX12_foretold_95 : decode cX12_foretold 95 = .ok (.goto (-24), 3) := by decide +kernel
theorem dX12_foretold_98 : decode cX12_foretold 98 = .ok (.aload_n 0, 1) := by decide +kernel
theorem dX12_foretold_99 : decode cX12_foretold 99 = .ok (.iconst 1, 1) := by decide +kernel
theorem dX12_foretold_100 : decode cX12_foretold 100 = .ok (.putfield 43, 3) := by decide +kernel
theorem dX12_foretold_103 : decode cX12_foretold 103 = .ok (.iload_n 3, 1) := by decide +kernel
theorem dX12_foretold_104 : decode cX12_foretold 104 = .ok (.ireturn, 1) := by decide +kernel
def Md_foretold_71 : Nat → Int32 → Int32 → Nm → Option (Int32 × Nm)
  | 0, _, _, _ => none
  | f + 1, x3, x4, ν =>
    (if (20 : Int32) ≤ x4 then
      some (x3, (si ν 313 23 (1 : Int32)))
    else
      if inb x4 20 then
      if inb x4 1385 then
      (Md_foretold_71 f) x3 (x4 + (1 : Int32)) (si ν 314 x4.toNatClampNeg (gi ν 322 x4.toNatClampNeg))
      else none
      else none)
set_option maxRecDepth 100000 in
set_option maxHeartbeats 4000000 in
theorem t_Md_foretold_71 {g : GG} {d : Nat} (hd0 : 5 ≤ d) : ∀ (f : Nat), ∀ (x3 : Int32) (x4 : Int32) (ν : Nm) (r : (Int32 × Nm)), Md_foretold_71 f x3 x4 ν = some r → Z g d (0, 0) mX12_foretold 333 0 0 71 [(0, .ref 313), (3, .int x3), (4, .int x4)] [] (zem ν) (zF g (some (.int r.1), zem r.2)) := by
  intro f
  induction f with
  | zero =>
    intro x3 x4 ν r h
    cases h
  | succ f ih =>
    intro x3 x4 ν r h
    rw [Md_foretold_71] at h
    refine z_iload dX12_foretold_71 2 rfl ?_
    refine z_bipush (M := mX12_foretold) (v := 20) dX12_foretold_73 rfl ?_
    refine z_icmp_ge 98 dX12_foretold_75 rfl (fun hc1 => ?_) (fun hc1 => ?_)
    · replace h := oT hc1 h
      refine z_aload_n dX12_foretold_98 0 rfl ?_
      refine z_iconst (M := mX12_foretold) (v := 1) dX12_foretold_99 rfl ?_
      refine y_putI dX12_foretold_100 zk_313 flRX12_43 ⟨rfl, rfl⟩ ?_
      refine z_iload_n dX12_foretold_103 1 rfl ?_
      cases h
      exact z_iret dX12_foretold_104 rfl
    · replace h := oF hc1 h
      refine z_aload_n dX12_foretold_78 0 rfl ?_
      refine y_getR (M := mX12_foretold) (r := 314) dX12_foretold_79 zk_313 flRX12_7 fr_10_0.1 (fr_10_0.2 _) ?_
      refine z_iload dX12_foretold_82 2 rfl ?_
      refine z_aload_n dX12_foretold_84 0 rfl ?_
      refine y_getR (M := mX12_foretold) (r := 322) dX12_foretold_85 zk_313 flRX12_47 fr_10_25.1 (fr_10_25.2 _) ?_
      refine z_iload dX12_foretold_88 2 rfl ?_
      obtain ⟨hi2, h⟩ := oif h
      refine y_iald (M := mX12_foretold) (jj := x4.toNatClampNeg) dX12_foretold_90 zk_322 hi2 rfl ?_
      obtain ⟨hi3, h⟩ := oif h
      refine y_iast (M := mX12_foretold) (jj := x4.toNatClampNeg) dX12_foretold_91 zk_314 hi3 rfl ?_
      refine z_iinc (M := mX12_foretold) (v := (x4 + (1 : Int32))) (lv2 := [(4, .int (x4 + (1 : Int32))), (0, .ref 313), (3, .int x3)]) dX12_foretold_92 2 rfl rfl (Nat.le_of_ble_eq_true rfl) rfl ?_
      refine z_goto 71 dX12_foretold_95 rfl ?_
      refine z_lv (lv2 := [(0, .ref 313), (3, .int x3), (4, .int (x4 + (1 : Int32)))]) [1, 2, 0] rfl ?_
      exact ih x3 (x4 + (1 : Int32)) (si ν 314 x4.toNatClampNeg (gi ν 322 x4.toNatClampNeg)) _ h
def Md_foretold_23 : Nat → Int32 → Int32 → Int32 → Nm → Option (Int32 × Nm)
  | 0, _, _, _, _ => none
  | f + 1, x1, x2, x3, ν =>
    (if (20 : Int32) ≤ x3 then
      (Md_pass ((64 : Int32) * x1) (si ν 313 23 (0 : Int32))).bind fun v2 =>
      (Md_get v2 x2 (0 : Int32)).bind fun v3 =>
      Md_foretold_71 FU v3 (8 : Int32) v2
    else
      if inb x3 1385 then
      if inb x3 20 then
      (Md_foretold_23 f) x1 x2 (x3 + (1 : Int32)) (si ν 322 x3.toNatClampNeg (gi ν 314 x3.toNatClampNeg))
      else none
      else none)
set_option maxRecDepth 100000 in
set_option maxHeartbeats 4000000 in
theorem t_Md_foretold_23 {g : GG} {d : Nat} (hd0 : 5 ≤ d) : ∀ (f : Nat), ∀ (x1 : Int32) (x2 : Int32) (x3 : Int32) (ν : Nm) (r : (Int32 × Nm)), Md_foretold_23 f x1 x2 x3 ν = some r → Z g d (0, 0) mX12_foretold 333 0 0 23 [(0, .ref 313), (1, .int x1), (2, .int x2), (3, .int x3)] [] (zem ν) (zF g (some (.int r.1), zem r.2)) := by
  intro f
  induction f with
  | zero =>
    intro x1 x2 x3 ν r h
    cases h
  | succ f ih =>
    intro x1 x2 x3 ν r h
    rw [Md_foretold_23] at h
    refine z_iload_n dX12_foretold_23 3 rfl ?_
    refine z_bipush (M := mX12_foretold) (v := 20) dX12_foretold_24 rfl ?_
    refine z_icmp_ge 47 dX12_foretold_26 rfl (fun hc1 => ?_) (fun hc1 => ?_)
    · replace h := oT hc1 h
      refine z_aload_n dX12_foretold_47 0 rfl ?_
      refine z_iconst (M := mX12_foretold) (v := 0) dX12_foretold_48 rfl ?_
      refine y_putI dX12_foretold_49 zk_313 flRX12_43 ⟨rfl, rfl⟩ ?_
      refine z_aload_n dX12_foretold_52 0 rfl ?_
      refine z_bipush (M := mX12_foretold) (v := 64) dX12_foretold_53 rfl ?_
      refine z_iload_n dX12_foretold_55 1 rfl ?_
      refine z_imul dX12_foretold_56 ?_
      obtain ⟨v2, he2, h⟩ := obind h
      refine y_Vv (M := mX12_foretold) (Y := mX12_pass) (d2 := d - 1) (As := [.int ((64 : Int32) * x1)]) (st := []) dX12_foretold_57 mlRX12_386 cv_X12_pass zk_313 (ct_Md_pass (dle (Nat.le_of_ble_eq_true rfl) hd0) he2) (dps (Nat.le_of_ble_eq_true rfl) hd0) rfl rfl (Nat.le_of_ble_eq_true rfl) ?_
      refine z_aload_n dX12_foretold_60 0 rfl ?_
      refine z_iload_n dX12_foretold_61 2 rfl ?_
      refine z_iconst (M := mX12_foretold) (v := 0) dX12_foretold_62 rfl ?_
      obtain ⟨v3, he3, h⟩ := obind h
      refine y_Vi (M := mX12_foretold) (Y := mX12_get) (d2 := d - 1) (As := [.int x2, .int (0 : Int32)]) (st := []) dX12_foretold_63 mlRX12_96 cv_X12_get zk_313 (ct_Md_get (dle (Nat.le_of_ble_eq_true rfl) hd0) he3) (dps (Nat.le_of_ble_eq_true rfl) hd0) rfl rfl (Nat.le_of_ble_eq_true rfl) ?_
      refine z_istore_n (M := mX12_foretold) (lv2 := [(3, .int v3), (0, .ref 313), (1, .int x1), (2, .int x2)]) dX12_foretold_66 (Nat.le_of_ble_eq_true rfl) rfl ?_
      refine z_bipush (M := mX12_foretold) (v := 8) dX12_foretold_67 rfl ?_
      refine z_istore (M := mX12_foretold) (lv2 := [(4, .int (8 : Int32)), (3, .int v3), (0, .ref 313), (1, .int x1), (2, .int x2)]) dX12_foretold_69 (Nat.le_of_ble_eq_true rfl) rfl ?_
      refine z_lv (lv2 := [(0, .ref 313), (3, .int v3), (4, .int (8 : Int32))]) [2, 1, 0] rfl ?_
      exact t_Md_foretold_71 hd0 FU v3 (8 : Int32) v2 _ h
    · replace h := oF hc1 h
      refine z_aload_n dX12_foretold_29 0 rfl ?_
      refine y_getR (M := mX12_foretold) (r := 322) dX12_foretold_30 zk_313 flRX12_47 fr_10_25.1 (fr_10_25.2 _) ?_
      refine z_iload_n dX12_foretold_33 3 rfl ?_
      refine z_aload_n dX12_foretold_34 0 rfl ?_
      refine y_getR (M := mX12_foretold) (r := 314) dX12_foretold_35 zk_313 flRX12_7 fr_10_0.1 (fr_10_0.2 _) ?_
      refine z_iload_n dX12_foretold_38 3 rfl ?_
      obtain ⟨hi4, h⟩ := oif h
      refine y_iald (M := mX12_foretold) (jj := x3.toNatClampNeg) dX12_foretold_39 zk_314 hi4 rfl ?_
      obtain ⟨hi5, h⟩ := oif h
      refine y_iast (M := mX12_foretold) (jj := x3.toNatClampNeg) dX12_foretold_40 zk_322 hi5 rfl ?_
      refine z_iinc (M := mX12_foretold) (v := (x3 + (1 : Int32))) (lv2 := [(3, .int (x3 + (1 : Int32))), (0, .ref 313), (1, .int x1), (2, .int x2)]) dX12_foretold_41 3 rfl rfl (Nat.le_of_ble_eq_true rfl) rfl ?_
      refine z_goto 23 dX12_foretold_44 rfl ?_
      refine z_lv (lv2 := [(0, .ref 313), (1, .int x1), (2, .int x2), (3, .int (x3 + (1 : Int32)))]) [1, 2, 3, 0] rfl ?_
      exact ih x1 x2 (x3 + (1 : Int32)) (si ν 322 x3.toNatClampNeg (gi ν 314 x3.toNatClampNeg)) _ h
def Md_foretold (x1 : Int32) (x2 : Int32) (ν : Nm) : Option (Int32 × Nm) :=
  (Md_isIn x1 (1 : Int32) (60 : Int32)).bind fun v1 =>
  (if (b2i v1) = 0 then
    some ((-1 : Int32), ν)
  else
    (Md_isCord ν x2).bind fun v3 =>
    (if ¬ (b2i v3) = 0 then
      Md_foretold_23 FU x1 x2 (8 : Int32) ν
    else
      some ((-1 : Int32), ν)))
set_option maxRecDepth 100000 in
set_option maxHeartbeats 4000000 in
theorem t_Md_foretold {g : GG} {d : Nat} (hd0 : 5 ≤ d) : ∀ (x1 : Int32) (x2 : Int32) (ν : Nm) (r : (Int32 × Nm)), Md_foretold x1 x2 ν = some r → Z g d (0, 0) mX12_foretold 333 0 0 0 [(0, .ref 313), (1, .int x1), (2, .int x2)] [] (zem ν) (zF g (some (.int r.1), zem r.2)) := by
  intro x1 x2 ν r h
  unfold Md_foretold at h
  refine z_iload_n dX12_foretold_0 1 rfl ?_
  refine z_iconst (M := mX12_foretold) (v := 1) dX12_foretold_1 rfl ?_
  refine z_bipush (M := mX12_foretold) (v := 60) dX12_foretold_2 rfl ?_
  obtain ⟨v1, he1, h⟩ := obind h
  refine y_Si (M := mX12_foretold) (Y := mX12_isIn) (d2 := d - 1) (As := [.int x1, .int (1 : Int32), .int (60 : Int32)]) (st := []) dX12_foretold_4 mlRX12_88 cv_X12_isIn (ct_Md_isIn (dle (Nat.le_of_ble_eq_true rfl) hd0) he1) (dps (Nat.le_of_ble_eq_true rfl) hd0) rfl rfl (Nat.le_of_ble_eq_true rfl) ?_
  refine z_if_eq 18 dX12_foretold_7 rfl (fun hc2 => ?_) (fun hc2 => ?_)
  · replace h := oT hc2 h
    refine z_iconst (M := mX12_foretold) (v := -1) dX12_foretold_18 rfl ?_
    cases h
    exact z_iret dX12_foretold_19 rfl
  · replace h := oF hc2 h
    refine z_aload_n dX12_foretold_10 0 rfl ?_
    refine z_iload_n dX12_foretold_11 2 rfl ?_
    obtain ⟨v3, he3, h⟩ := obind h
    refine y_Vi (M := mX12_foretold) (Y := mX12_isCord) (d2 := d - 1) (As := [.int x2]) (st := []) dX12_foretold_12 mlRX12_115 cv_X12_isCord zk_313 (ct_Md_isCord (dle (Nat.le_of_ble_eq_true rfl) hd0) he3) (dps (Nat.le_of_ble_eq_true rfl) hd0) rfl rfl (Nat.le_of_ble_eq_true rfl) ?_
    refine z_if_ne 20 dX12_foretold_15 rfl (fun hc4 => ?_) (fun hc4 => ?_)
    · replace h := oT hc4 h
      refine z_bipush (M := mX12_foretold) (v := 8) dX12_foretold_20 rfl ?_
      refine z_istore_n (M := mX12_foretold) (lv2 := [(3, .int (8 : Int32)), (0, .ref 313), (1, .int x1), (2, .int x2)]) dX12_foretold_22 (Nat.le_of_ble_eq_true rfl) rfl ?_
      refine z_lv (lv2 := [(0, .ref 313), (1, .int x1), (2, .int x2), (3, .int (8 : Int32))]) [1, 2, 3, 0] rfl ?_
      exact t_Md_foretold_23 hd0 FU x1 x2 (8 : Int32) ν _ h
    · replace h := oFn hc4 h
      refine z_iconst (M := mX12_foretold) (v := -1) dX12_foretold_18 rfl ?_
      cases h
      exact z_iret dX12_foretold_19 rfl
theorem ct_Md_foretold {g : GG} {d : Nat} {x1 : Int32} {x2 : Int32} {ν : Nm} {r : (Int32 × Nm)} (hd0 : 5 ≤ d)  (h : Md_foretold x1 x2 ν = some r) : Ct g d mX12_foretold [.ref 313, .int x1, .int x2] (zem ν) (some (.int r.1), zem r.2) := y_entry in_X12_foretold (Nat.le_of_ble_eq_true rfl) rfl (t_Md_foretold hd0 x1 x2 ν r h)
-- FuseMinutesModel.whose()I
theorem dX12_whose_0 : decode cX12_whose 0 = .ok (.iconst 0, 1) := by decide +kernel
theorem dX12_whose_1 : decode cX12_whose 1 = .ok (.istore_n 1, 1) := by decide +kernel
theorem dX12_whose_2 : decode cX12_whose 2 = .ok (.iconst 0, 1) := by decide +kernel
theorem dX12_whose_3 : decode cX12_whose 3 = .ok (.istore_n 2, 1) := by decide +kernel
theorem dX12_whose_4 : decode cX12_whose 4 = .ok (.iload_n 2, 1) := by decide +kernel
theorem dX12_whose_5 : decode cX12_whose 5 = .ok (.aload_n 0, 1) := by decide +kernel
theorem dX12_whose_6 : decode cX12_whose 6 = .ok (.getfield 7, 3) := by decide +kernel
theorem dX12_whose_9 : decode cX12_whose 9 = .ok (.iconst 2, 1) := by decide +kernel
theorem dX12_whose_10 : decode cX12_whose 10 = .ok (.iaload, 1) := by decide +kernel
theorem dX12_whose_11 : decode cX12_whose 11 = .ok (.if_icmp .ge 90, 3) := by decide +kernel
theorem dX12_whose_14 : decode cX12_whose 14 = .ok (.iconst 1, 1) := by decide +kernel
theorem dX12_whose_15 : decode cX12_whose 15 = .ok (.istore_n 3, 1) := by decide +kernel
theorem dX12_whose_16 : decode cX12_whose 16 = .ok (.iconst 0, 1) := by decide +kernel
theorem dX12_whose_17 : decode cX12_whose 17 = .ok (.istore 4, 2) := by decide +kernel
theorem dX12_whose_19 : decode cX12_whose 19 = .ok (.iload 4, 2) := by decide +kernel
theorem dX12_whose_21 : decode cX12_whose 21 = .ok (.aload_n 0, 1) := by decide +kernel
theorem dX12_whose_22 : decode cX12_whose 22 = .ok (.getfield 7, 3) := by decide +kernel
theorem dX12_whose_25 : decode cX12_whose 25 = .ok (.bipush 7, 2) := by decide +kernel
theorem dX12_whose_27 : decode cX12_whose 27 = .ok (.iaload, 1) := by decide +kernel
theorem dX12_whose_28 : decode cX12_whose 28 = .ok (.if_icmp .ge 53, 3) := by decide +kernel
theorem dX12_whose_31 : decode cX12_whose 31 = .ok (.iload_n 3, 1) := by decide +kernel
theorem dX12_whose_32 : decode cX12_whose 32 = .ok (.ifCond .eq 41, 3) := by decide +kernel
theorem dX12_whose_35 : decode cX12_whose 35 = .ok (.aload_n 0, 1) := by decide +kernel
theorem dX12_whose_36 : decode cX12_whose 36 = .ok (.iload_n 2, 1) := by decide +kernel
theorem dX12_whose_37 : decode cX12_whose 37 = .ok (.aload_n 0, 1) := by decide +kernel
theorem dX12_whose_38 : decode cX12_whose 38 = .ok (.getfield 7, 3) := by decide +kernel
theorem dX12_whose_41 : decode cX12_whose 41 = .ok (.bipush 49, 2) := by decide +kernel
theorem dX12_whose_43 : decode cX12_whose 43 = .ok (.iconst 2, 1) := by decide +kernel
theorem dX12_whose_44 : decode cX12_whose 44 = .ok (.iload 4, 2) := by decide +kernel
theorem dX12_whose_46 : decode cX12_whose 46 = .ok (.imul, 1) := by decide +kernel
theorem dX12_whose_47 : decode cX12_whose 47 = .ok (.iadd, 1) := by decide +kernel
theorem dX12_whose_48 : decode cX12_whose 48 = .ok (.iaload, 1) := by decide +kernel
theorem dX12_whose_49 : decode cX12_whose 49 = .ok (.invokevirtual 357, 3) := by decide +kernel
theorem dX12_whose_52 : decode cX12_whose 52 = .ok (.aload_n 0, 1) := by decide +kernel
theorem dX12_whose_53 : decode cX12_whose 53 = .ok (.getfield 7, 3) := by decide +kernel
theorem dX12_whose_56 : decode cX12_whose 56 = .ok (.bipush 49, 2) := by decide +kernel
theorem dX12_whose_58 : decode cX12_whose 58 = .ok (.iconst 2, 1) := by decide +kernel
theorem dX12_whose_59 : decode cX12_whose 59 = .ok (.iload 4, 2) := by decide +kernel
theorem dX12_whose_61 : decode cX12_whose 61 = .ok (.imul, 1) := by decide +kernel
theorem dX12_whose_62 : decode cX12_whose 62 = .ok (.iadd, 1) := by decide +kernel
theorem dX12_whose_63 : decode cX12_whose 63 = .ok (.iconst 1, 1) := by decide +kernel
theorem dX12_whose_64 : decode cX12_whose 64 = .ok (.iadd, 1) := by decide +kernel
theorem dX12_whose_65 : decode cX12_whose 65 = .ok (.iaload, 1) := by decide +kernel
theorem dX12_whose_66 : decode cX12_whose 66 = .ok (.if_icmp .ne 7, 3) := by decide +kernel
theorem dX12_whose_69 : decode cX12_whose 69 = .ok (.iconst 1, 1) := by decide +kernel
theorem dX12_whose_70 : decode cX12_whose 70 = .ok (.goto 4, 3) := by decide +kernel
theorem dX12_whose_73 : decode cX12_whose 73 = .ok (.iconst 0, 1) := by decide +kernel
theorem dX12_whose_74 : decode cX12_whose 74 = .ok (.istore_n 3, 1) := by decide +kernel
theorem dX12_whose_75 : decode cX12_whose 75 = .ok (.iinc 4 1, 3) := by decide +kernel
theorem dX12_whose_78 : decode cX12_whose 78 = .ok (.goto (-59), 3) := by decide +kernel
theorem dX12_whose_81 : decode cX12_whose 81 = .ok (.iload_n 1, 1) := by decide +kernel
theorem dX12_whose_82 : decode cX12_whose 82 = .ok (.iload_n 3, 1) := by decide +kernel
theorem dX12_whose_83 : decode cX12_whose 83 = .ok (.ifCond .eq 9, 3) := by decide +kernel
theorem dX12_whose_86 : decode cX12_whose 86 = .ok (.iconst 1, 1) := by decide +kernel
theorem dX12_whose_87 : decode cX12_whose 87 = .ok (.iload_n 2, 1) := by decide +kernel
theorem dX12_whose_88 : decode cX12_whose 88 = .ok (.ishl, 1) := by decide +kernel
theorem dX12_whose_89 : decode cX12_whose 89 = .ok (.goto 4, 3) := by decide +kernel
theorem dX12_whose_92 : decode cX12_whose 92 = .ok (.iconst 0, 1) := by decide +kernel
theorem dX12_whose_93 : decode cX12_whose 93 = .ok (.ior, 1) := by decide +kernel
theorem dX12_whose_94 : decode cX12_whose 94 = .ok (.istore_n 1, 1) := by decide +kernel
theorem dX12_whose_95 : decode cX12_whose 95 = .ok (.iinc 2 1, 3) := by decide +kernel
theorem dX12_whose_98 : decode cX12_whose 98 = .ok (.goto (-94), 3) := by decide +kernel
theorem dX12_whose_101 : decode cX12_whose 101 = .ok (.iload_n 1, 1) := by decide +kernel
theorem dX12_whose_102 : decode cX12_whose 102 = .ok (.ireturn, 1) := by decide +kernel
def Md_whose_74 (k19 : Int32 → Int32 → Int32 → Int32 → Nm → Option (Int32 × Nm)) (x1 : Int32) (x2 : Int32) (x4 : Int32) (s0 : Int32) (ν : Nm) : Option (Int32 × Nm) :=
  k19 x1 x2 s0 (x4 + (1 : Int32)) ν
set_option maxRecDepth 100000 in
set_option maxHeartbeats 4000000 in
theorem t_Md_whose_74 {g : GG} {d : Nat} (hd0 : 8 ≤ d) {k19 : Int32 → Int32 → Int32 → Int32 → Nm → Option (Int32 × Nm)} (hk19 : ∀ (x1 : Int32) (x2 : Int32) (x3 : Int32) (x4 : Int32) (ν : Nm) (r : (Int32 × Nm)), k19 x1 x2 x3 x4 ν = some r → Z g d (0, 0) mX12_whose 333 0 0 19 [(0, .ref 313), (1, .int x1), (2, .int x2), (3, .int x3), (4, .int x4)] [] (zem ν) (zF g (some (.int r.1), zem r.2))) : ∀ (x1 : Int32) (x2 : Int32) (x4 : Int32) (s0 : Int32) (ν : Nm) (r : (Int32 × Nm)), Md_whose_74 k19 x1 x2 x4 s0 ν = some r → Z g d (0, 0) mX12_whose 333 0 0 74 [(0, .ref 313), (1, .int x1), (2, .int x2), (4, .int x4)] [.int s0] (zem ν) (zF g (some (.int r.1), zem r.2)) := by
  intro x1 x2 x4 s0 ν r h
  unfold Md_whose_74 at h
  refine z_istore_n (M := mX12_whose) (lv2 := [(3, .int s0), (0, .ref 313), (1, .int x1), (2, .int x2), (4, .int x4)]) dX12_whose_74 (Nat.le_of_ble_eq_true rfl) rfl ?_
  refine z_iinc (M := mX12_whose) (v := (x4 + (1 : Int32))) (lv2 := [(4, .int (x4 + (1 : Int32))), (3, .int s0), (0, .ref 313), (1, .int x1), (2, .int x2)]) dX12_whose_75 4 rfl rfl (Nat.le_of_ble_eq_true rfl) rfl ?_
  refine z_goto 19 dX12_whose_78 rfl ?_
  refine z_lv (lv2 := [(0, .ref 313), (1, .int x1), (2, .int x2), (3, .int s0), (4, .int (x4 + (1 : Int32)))]) [2, 3, 4, 1, 0] rfl ?_
  exact hk19 x1 x2 s0 (x4 + (1 : Int32)) ν _ h
def Md_whose_73 (k19 : Int32 → Int32 → Int32 → Int32 → Nm → Option (Int32 × Nm)) (x1 : Int32) (x2 : Int32) (x4 : Int32) (ν : Nm) : Option (Int32 × Nm) :=
  Md_whose_74 k19 x1 x2 x4 (0 : Int32) ν
set_option maxRecDepth 100000 in
set_option maxHeartbeats 4000000 in
theorem t_Md_whose_73 {g : GG} {d : Nat} (hd0 : 8 ≤ d) {k19 : Int32 → Int32 → Int32 → Int32 → Nm → Option (Int32 × Nm)} (hk19 : ∀ (x1 : Int32) (x2 : Int32) (x3 : Int32) (x4 : Int32) (ν : Nm) (r : (Int32 × Nm)), k19 x1 x2 x3 x4 ν = some r → Z g d (0, 0) mX12_whose 333 0 0 19 [(0, .ref 313), (1, .int x1), (2, .int x2), (3, .int x3), (4, .int x4)] [] (zem ν) (zF g (some (.int r.1), zem r.2))) : ∀ (x1 : Int32) (x2 : Int32) (x4 : Int32) (ν : Nm) (r : (Int32 × Nm)), Md_whose_73 k19 x1 x2 x4 ν = some r → Z g d (0, 0) mX12_whose 333 0 0 73 [(0, .ref 313), (1, .int x1), (2, .int x2), (4, .int x4)] [] (zem ν) (zF g (some (.int r.1), zem r.2)) := by
  intro x1 x2 x4 ν r h
  unfold Md_whose_73 at h
  refine z_iconst (M := mX12_whose) (v := 0) dX12_whose_73 rfl ?_
  exact t_Md_whose_74 hd0 hk19 x1 x2 x4 (0 : Int32) ν _ h
def Md_whose_93 (k4 : Int32 → Int32 → Nm → Option (Int32 × Nm)) (x2 : Int32) (s0 : Int32) (s1 : Int32) (ν : Nm) : Option (Int32 × Nm) :=
  k4 (s1 ||| s0) (x2 + (1 : Int32)) ν
set_option maxRecDepth 100000 in
set_option maxHeartbeats 4000000 in
theorem t_Md_whose_93 {g : GG} {d : Nat} (hd0 : 8 ≤ d) {k4 : Int32 → Int32 → Nm → Option (Int32 × Nm)} (hk4 : ∀ (x1 : Int32) (x2 : Int32) (ν : Nm) (r : (Int32 × Nm)), k4 x1 x2 ν = some r → Z g d (0, 0) mX12_whose 333 0 0 4 [(0, .ref 313), (1, .int x1), (2, .int x2)] [] (zem ν) (zF g (some (.int r.1), zem r.2))) : ∀ (x2 : Int32) (s0 : Int32) (s1 : Int32) (ν : Nm) (r : (Int32 × Nm)), Md_whose_93 k4 x2 s0 s1 ν = some r → Z g d (0, 0) mX12_whose 333 0 0 93 [(0, .ref 313), (2, .int x2)] [.int s0, .int s1] (zem ν) (zF g (some (.int r.1), zem r.2)) := by
  intro x2 s0 s1 ν r h
  unfold Md_whose_93 at h
  refine z_ior dX12_whose_93 ?_
  refine z_istore_n (M := mX12_whose) (lv2 := [(1, .int (s1 ||| s0)), (0, .ref 313), (2, .int x2)]) dX12_whose_94 (Nat.le_of_ble_eq_true rfl) rfl ?_
  refine z_iinc (M := mX12_whose) (v := (x2 + (1 : Int32))) (lv2 := [(2, .int (x2 + (1 : Int32))), (1, .int (s1 ||| s0)), (0, .ref 313)]) dX12_whose_95 2 rfl rfl (Nat.le_of_ble_eq_true rfl) rfl ?_
  refine z_goto 4 dX12_whose_98 rfl ?_
  refine z_lv (lv2 := [(0, .ref 313), (1, .int (s1 ||| s0)), (2, .int (x2 + (1 : Int32)))]) [2, 1, 0] rfl ?_
  exact hk4 (s1 ||| s0) (x2 + (1 : Int32)) ν _ h
def Md_whose_19 (k4 : Int32 → Int32 → Nm → Option (Int32 × Nm)) : Nat → Int32 → Int32 → Int32 → Int32 → Nm → Option (Int32 × Nm)
  | 0, _, _, _, _, _ => none
  | f + 1, x1, x2, x3, x4, ν =>
    (if (gi ν 314 7) ≤ x4 then
      (if x3 = 0 then
        Md_whose_93 k4 x2 (0 : Int32) x1 ν
      else
        Md_whose_93 k4 x2 ((1 : Int32) <<< (x2 &&& 31)) x1 ν)
    else
      (if x3 = 0 then
        Md_whose_73 (Md_whose_19 k4 f) x1 x2 x4 ν
      else
        if inb ((49 : Int32) + ((2 : Int32) * x4)) 1385 then
        (Md_failsOf x2 (gi ν 314 ((49 : Int32) + ((2 : Int32) * x4)).toNatClampNeg) ν).bind fun v5 =>
        if inb (((49 : Int32) + ((2 : Int32) * x4)) + (1 : Int32)) 1385 then
        (if ¬ v5.1 = (gi v5.2 314 (((49 : Int32) + ((2 : Int32) * x4)) + (1 : Int32)).toNatClampNeg) then
          Md_whose_73 (Md_whose_19 k4 f) x1 x2 x4 v5.2
        else
          Md_whose_74 (Md_whose_19 k4 f) x1 x2 x4 (1 : Int32) v5.2)
        else none
        else none))
set_option maxRecDepth 100000 in
set_option maxHeartbeats 4000000 in
theorem t_Md_whose_19 {g : GG} {d : Nat} (hd0 : 8 ≤ d) {k4 : Int32 → Int32 → Nm → Option (Int32 × Nm)} (hk4 : ∀ (x1 : Int32) (x2 : Int32) (ν : Nm) (r : (Int32 × Nm)), k4 x1 x2 ν = some r → Z g d (0, 0) mX12_whose 333 0 0 4 [(0, .ref 313), (1, .int x1), (2, .int x2)] [] (zem ν) (zF g (some (.int r.1), zem r.2))) : ∀ (f : Nat), ∀ (x1 : Int32) (x2 : Int32) (x3 : Int32) (x4 : Int32) (ν : Nm) (r : (Int32 × Nm)), Md_whose_19 k4 f x1 x2 x3 x4 ν = some r → Z g d (0, 0) mX12_whose 333 0 0 19 [(0, .ref 313), (1, .int x1), (2, .int x2), (3, .int x3), (4, .int x4)] [] (zem ν) (zF g (some (.int r.1), zem r.2)) := by
  intro f
  induction f with
  | zero =>
    intro x1 x2 x3 x4 ν r h
    cases h
  | succ f ih =>
    intro x1 x2 x3 x4 ν r h
    rw [Md_whose_19] at h
    refine z_iload dX12_whose_19 4 rfl ?_
    refine z_aload_n dX12_whose_21 0 rfl ?_
    refine y_getR (M := mX12_whose) (r := 314) dX12_whose_22 zk_313 flRX12_7 fr_10_0.1 (fr_10_0.2 _) ?_
    refine z_bipush (M := mX12_whose) (v := 7) dX12_whose_25 rfl ?_
    refine y_iald (M := mX12_whose) (jj := 7) dX12_whose_27 zk_314 rfl rfl ?_
    refine z_icmp_ge 81 dX12_whose_28 rfl (fun hc1 => ?_) (fun hc1 => ?_)
    · replace h := oT hc1 h
      refine z_iload_n dX12_whose_81 1 rfl ?_
      refine z_iload_n dX12_whose_82 3 rfl ?_
      refine z_if_eq 92 dX12_whose_83 rfl (fun hc2 => ?_) (fun hc2 => ?_)
      · replace h := oT hc2 h
        refine z_iconst (M := mX12_whose) (v := 0) dX12_whose_92 rfl ?_
        refine z_lv (lv2 := [(0, .ref 313), (2, .int x2)]) [0, 2] rfl ?_
        exact t_Md_whose_93 hd0 hk4 x2 (0 : Int32) x1 ν _ h
      · replace h := oF hc2 h
        refine z_iconst (M := mX12_whose) (v := 1) dX12_whose_86 rfl ?_
        refine z_iload_n dX12_whose_87 2 rfl ?_
        refine z_ishl dX12_whose_88 ?_
        refine z_goto 93 dX12_whose_89 rfl ?_
        refine z_lv (lv2 := [(0, .ref 313), (2, .int x2)]) [0, 2] rfl ?_
        exact t_Md_whose_93 hd0 hk4 x2 ((1 : Int32) <<< (x2 &&& 31)) x1 ν _ h
    · replace h := oF hc1 h
      refine z_iload_n dX12_whose_31 3 rfl ?_
      refine z_if_eq 73 dX12_whose_32 rfl (fun hc3 => ?_) (fun hc3 => ?_)
      · replace h := oT hc3 h
        refine z_lv (lv2 := [(0, .ref 313), (1, .int x1), (2, .int x2), (4, .int x4)]) [0, 1, 2, 4] rfl ?_
        exact t_Md_whose_73 hd0 ih x1 x2 x4 ν _ h
      · replace h := oF hc3 h
        refine z_aload_n dX12_whose_35 0 rfl ?_
        refine z_iload_n dX12_whose_36 2 rfl ?_
        refine z_aload_n dX12_whose_37 0 rfl ?_
        refine y_getR (M := mX12_whose) (r := 314) dX12_whose_38 zk_313 flRX12_7 fr_10_0.1 (fr_10_0.2 _) ?_
        refine z_bipush (M := mX12_whose) (v := 49) dX12_whose_41 rfl ?_
        refine z_iconst (M := mX12_whose) (v := 2) dX12_whose_43 rfl ?_
        refine z_iload dX12_whose_44 4 rfl ?_
        refine z_imul dX12_whose_46 ?_
        refine z_iadd dX12_whose_47 ?_
        obtain ⟨hi4, h⟩ := oif h
        refine y_iald (M := mX12_whose) (jj := ((49 : Int32) + ((2 : Int32) * x4)).toNatClampNeg) dX12_whose_48 zk_314 hi4 rfl ?_
        obtain ⟨v5, he5, h⟩ := obind h
        refine y_Vi (M := mX12_whose) (Y := mX12_failsOf) (d2 := d - 1) (As := [.int x2, .int (gi ν 314 ((49 : Int32) + ((2 : Int32) * x4)).toNatClampNeg)]) (st := []) dX12_whose_49 mlRX12_357 cv_X12_failsOf zk_313 (ct_Md_failsOf (dle (Nat.le_of_ble_eq_true rfl) hd0) he5) (dps (Nat.le_of_ble_eq_true rfl) hd0) rfl rfl (Nat.le_of_ble_eq_true rfl) ?_
        refine z_aload_n dX12_whose_52 0 rfl ?_
        refine y_getR (M := mX12_whose) (r := 314) dX12_whose_53 zk_313 flRX12_7 fr_10_0.1 (fr_10_0.2 _) ?_
        refine z_bipush (M := mX12_whose) (v := 49) dX12_whose_56 rfl ?_
        refine z_iconst (M := mX12_whose) (v := 2) dX12_whose_58 rfl ?_
        refine z_iload dX12_whose_59 4 rfl ?_
        refine z_imul dX12_whose_61 ?_
        refine z_iadd dX12_whose_62 ?_
        refine z_iconst (M := mX12_whose) (v := 1) dX12_whose_63 rfl ?_
        refine z_iadd dX12_whose_64 ?_
        obtain ⟨hi6, h⟩ := oif h
        refine y_iald (M := mX12_whose) (jj := (((49 : Int32) + ((2 : Int32) * x4)) + (1 : Int32)).toNatClampNeg) dX12_whose_65 zk_314 hi6 rfl ?_
        refine z_icmp_ne 73 dX12_whose_66 rfl (fun hc7 => ?_) (fun hc7 => ?_)
        · replace h := oT hc7 h
          refine z_lv (lv2 := [(0, .ref 313), (1, .int x1), (2, .int x2), (4, .int x4)]) [0, 1, 2, 4] rfl ?_
          exact t_Md_whose_73 hd0 ih x1 x2 x4 v5.2 _ h
        · replace h := oFn hc7 h
          refine z_iconst (M := mX12_whose) (v := 1) dX12_whose_69 rfl ?_
          refine z_goto 74 dX12_whose_70 rfl ?_
          refine z_lv (lv2 := [(0, .ref 313), (1, .int x1), (2, .int x2), (4, .int x4)]) [0, 1, 2, 4] rfl ?_
          exact t_Md_whose_74 hd0 ih x1 x2 x4 (1 : Int32) v5.2 _ h
def Md_whose_4 : Nat → Int32 → Int32 → Nm → Option (Int32 × Nm)
  | 0, _, _, _ => none
  | f + 1, x1, x2, ν =>
    (if (gi ν 314 2) ≤ x2 then
      some (x1, ν)
    else
      Md_whose_19 (Md_whose_4 f) FU x1 x2 (1 : Int32) (0 : Int32) ν)
set_option maxRecDepth 100000 in
set_option maxHeartbeats 4000000 in
theorem t_Md_whose_4 {g : GG} {d : Nat} (hd0 : 8 ≤ d) : ∀ (f : Nat), ∀ (x1 : Int32) (x2 : Int32) (ν : Nm) (r : (Int32 × Nm)), Md_whose_4 f x1 x2 ν = some r → Z g d (0, 0) mX12_whose 333 0 0 4 [(0, .ref 313), (1, .int x1), (2, .int x2)] [] (zem ν) (zF g (some (.int r.1), zem r.2)) := by
  intro f
  induction f with
  | zero =>
    intro x1 x2 ν r h
    cases h
  | succ f ih =>
    intro x1 x2 ν r h
    rw [Md_whose_4] at h
    refine z_iload_n dX12_whose_4 2 rfl ?_
    refine z_aload_n dX12_whose_5 0 rfl ?_
    refine y_getR (M := mX12_whose) (r := 314) dX12_whose_6 zk_313 flRX12_7 fr_10_0.1 (fr_10_0.2 _) ?_
    refine z_iconst (M := mX12_whose) (v := 2) dX12_whose_9 rfl ?_
    refine y_iald (M := mX12_whose) (jj := 2) dX12_whose_10 zk_314 rfl rfl ?_
    refine z_icmp_ge 101 dX12_whose_11 rfl (fun hc1 => ?_) (fun hc1 => ?_)
    · replace h := oT hc1 h
      refine z_iload_n dX12_whose_101 1 rfl ?_
      cases h
      exact z_iret dX12_whose_102 rfl
    · replace h := oF hc1 h
      refine z_iconst (M := mX12_whose) (v := 1) dX12_whose_14 rfl ?_
      refine z_istore_n (M := mX12_whose) (lv2 := [(3, .int (1 : Int32)), (0, .ref 313), (1, .int x1), (2, .int x2)]) dX12_whose_15 (Nat.le_of_ble_eq_true rfl) rfl ?_
      refine z_iconst (M := mX12_whose) (v := 0) dX12_whose_16 rfl ?_
      refine z_istore (M := mX12_whose) (lv2 := [(4, .int (0 : Int32)), (3, .int (1 : Int32)), (0, .ref 313), (1, .int x1), (2, .int x2)]) dX12_whose_17 (Nat.le_of_ble_eq_true rfl) rfl ?_
      refine z_lv (lv2 := [(0, .ref 313), (1, .int x1), (2, .int x2), (3, .int (1 : Int32)), (4, .int (0 : Int32))]) [2, 3, 4, 1, 0] rfl ?_
      exact t_Md_whose_19 hd0 ih FU x1 x2 (1 : Int32) (0 : Int32) ν _ h
def Md_whose (ν : Nm) : Option (Int32 × Nm) :=
  Md_whose_4 FU (0 : Int32) (0 : Int32) ν
set_option maxRecDepth 100000 in
set_option maxHeartbeats 4000000 in
theorem t_Md_whose {g : GG} {d : Nat} (hd0 : 8 ≤ d) : ∀ (ν : Nm) (r : (Int32 × Nm)), Md_whose ν = some r → Z g d (0, 0) mX12_whose 333 0 0 0 [(0, .ref 313)] [] (zem ν) (zF g (some (.int r.1), zem r.2)) := by
  intro ν r h
  unfold Md_whose at h
  refine z_iconst (M := mX12_whose) (v := 0) dX12_whose_0 rfl ?_
  refine z_istore_n (M := mX12_whose) (lv2 := [(1, .int (0 : Int32)), (0, .ref 313)]) dX12_whose_1 (Nat.le_of_ble_eq_true rfl) rfl ?_
  refine z_iconst (M := mX12_whose) (v := 0) dX12_whose_2 rfl ?_
  refine z_istore_n (M := mX12_whose) (lv2 := [(2, .int (0 : Int32)), (1, .int (0 : Int32)), (0, .ref 313)]) dX12_whose_3 (Nat.le_of_ble_eq_true rfl) rfl ?_
  refine z_lv (lv2 := [(0, .ref 313), (1, .int (0 : Int32)), (2, .int (0 : Int32))]) [2, 1, 0] rfl ?_
  exact t_Md_whose_4 hd0 FU (0 : Int32) (0 : Int32) ν _ h
theorem ct_Md_whose {g : GG} {d : Nat} {ν : Nm} {r : (Int32 × Nm)} (hd0 : 8 ≤ d)  (h : Md_whose ν = some r) : Ct g d mX12_whose [.ref 313] (zem ν) (some (.int r.1), zem r.2) := y_entry in_X12_whose (Nat.le_of_ble_eq_true rfl) rfl (t_Md_whose hd0 ν r h)

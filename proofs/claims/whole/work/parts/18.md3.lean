-- FuseMinutesModel.copy([I[I)V
theorem dX12_copy_0 : decode cX12_copy 0 = .ok (.iconst 0, 1) := by decide +kernel
theorem dX12_copy_1 : decode cX12_copy 1 = .ok (.istore_n 2, 1) := by decide +kernel
theorem dX12_copy_2 : decode cX12_copy 2 = .ok (.iload_n 2, 1) := by decide +kernel
theorem dX12_copy_3 : decode cX12_copy 3 = .ok (.sipush 1385, 3) := by decide +kernel
theorem dX12_copy_6 : decode cX12_copy 6 = .ok (.if_icmp .ge 15, 3) := by decide +kernel
theorem dX12_copy_9 : decode cX12_copy 9 = .ok (.aload_n 1, 1) := by decide +kernel
theorem dX12_copy_10 : decode cX12_copy 10 = .ok (.iload_n 2, 1) := by decide +kernel
theorem dX12_copy_11 : decode cX12_copy 11 = .ok (.aload_n 0, 1) := by decide +kernel
theorem dX12_copy_12 : decode cX12_copy 12 = .ok (.iload_n 2, 1) := by decide +kernel
theorem dX12_copy_13 : decode cX12_copy 13 = .ok (.iaload, 1) := by decide +kernel
theorem dX12_copy_14 : decode cX12_copy 14 = .ok (.iastore, 1) := by decide +kernel
theorem dX12_copy_15 : decode cX12_copy 15 = .ok (.iinc 2 1, 3) := by decide +kernel
theorem dX12_copy_18 : decode cX12_copy 18 = .ok (.goto (-16), 3) := by decide +kernel
theorem dX12_copy_21 : decode cX12_copy 21 = .ok (.return_, 1) := by decide +kernel
def Md_copy_2 : Nat → Nat → Nat → Int32 → Nm → Option Nm
  | 0, _, _, _, _ => none
  | f + 1, x0, x1, x2, ν =>
    (if (1385 : Int32) ≤ x2 then
      some ν
    else
      if inb x2 1385 then
      if inb x2 1385 then
      (Md_copy_2 f) x0 x1 (x2 + (1 : Int32)) (si ν x1 x2.toNatClampNeg (gi ν x0 x2.toNatClampNeg))
      else none
      else none)
set_option maxRecDepth 100000 in
set_option maxHeartbeats 4000000 in
theorem t_Md_copy_2 {g : GG} {d : Nat} (hd0 : 1 ≤ d) : ∀ (f : Nat), ∀ (x0 : Nat) (x1 : Nat) (x2 : Int32) (ν : Nm) (r : Nm), zk 333 x0 (20, 1385) → zk 333 x1 (20, 1385) → Md_copy_2 f x0 x1 x2 ν = some r → Z g d (0, 0) mX12_copy 333 0 0 2 [(0, .ref x0), (1, .ref x1), (2, .int x2)] [] (zem ν) (zF g (none, zem r)) := by
  intro f
  induction f with
  | zero =>
    intro x0 x1 x2 ν r hq0 hq1 h
    cases h
  | succ f ih =>
    intro x0 x1 x2 ν r hq0 hq1 h
    rw [Md_copy_2] at h
    refine z_iload_n dX12_copy_2 2 rfl ?_
    refine z_sipush (M := mX12_copy) (v := 1385) dX12_copy_3 rfl ?_
    refine z_icmp_ge 21 dX12_copy_6 rfl (fun hc1 => ?_) (fun hc1 => ?_)
    · replace h := oT hc1 h
      cases h
      exact z_vret dX12_copy_21 rfl
    · replace h := oF hc1 h
      refine z_aload_n dX12_copy_9 1 rfl ?_
      refine z_iload_n dX12_copy_10 2 rfl ?_
      refine z_aload_n dX12_copy_11 0 rfl ?_
      refine z_iload_n dX12_copy_12 2 rfl ?_
      obtain ⟨hi2, h⟩ := oif h
      refine y_iald (M := mX12_copy) (jj := x2.toNatClampNeg) dX12_copy_13 hq0 hi2 rfl ?_
      obtain ⟨hi3, h⟩ := oif h
      refine y_iast (M := mX12_copy) (jj := x2.toNatClampNeg) dX12_copy_14 hq1 hi3 rfl ?_
      refine z_iinc (M := mX12_copy) (v := (x2 + (1 : Int32))) (lv2 := [(2, .int (x2 + (1 : Int32))), (0, .ref x0), (1, .ref x1)]) dX12_copy_15 2 rfl rfl (Nat.le_of_ble_eq_true rfl) rfl ?_
      refine z_goto 2 dX12_copy_18 rfl ?_
      refine z_lv (lv2 := [(0, .ref x0), (1, .ref x1), (2, .int (x2 + (1 : Int32)))]) [1, 2, 0] rfl ?_
      exact ih x0 x1 (x2 + (1 : Int32)) (si ν x1 x2.toNatClampNeg (gi ν x0 x2.toNatClampNeg)) _ hq0 hq1 h
def Md_copy (x0 : Nat) (x1 : Nat) (ν : Nm) : Option Nm :=
  Md_copy_2 FU x0 x1 (0 : Int32) ν
set_option maxRecDepth 100000 in
set_option maxHeartbeats 4000000 in
theorem t_Md_copy {g : GG} {d : Nat} (hd0 : 1 ≤ d) : ∀ (x0 : Nat) (x1 : Nat) (ν : Nm) (r : Nm), zk 333 x0 (20, 1385) → zk 333 x1 (20, 1385) → Md_copy x0 x1 ν = some r → Z g d (0, 0) mX12_copy 333 0 0 0 [(0, .ref x0), (1, .ref x1)] [] (zem ν) (zF g (none, zem r)) := by
  intro x0 x1 ν r hq0 hq1 h
  unfold Md_copy at h
  refine z_iconst (M := mX12_copy) (v := 0) dX12_copy_0 rfl ?_
  refine z_istore_n (M := mX12_copy) (lv2 := [(2, .int (0 : Int32)), (0, .ref x0), (1, .ref x1)]) dX12_copy_1 (Nat.le_of_ble_eq_true rfl) rfl ?_
  refine z_lv (lv2 := [(0, .ref x0), (1, .ref x1), (2, .int (0 : Int32))]) [1, 2, 0] rfl ?_
  exact t_Md_copy_2 hd0 FU x0 x1 (0 : Int32) ν _ hq0 hq1 h
theorem ct_Md_copy {g : GG} {d : Nat} {x0 : Nat} {x1 : Nat} {ν : Nm} {r : Nm} (hd0 : 1 ≤ d) (hq0 : zk 333 x0 (20, 1385)) (hq1 : zk 333 x1 (20, 1385)) (h : Md_copy x0 x1 ν = some r) : Ct g d mX12_copy [.ref x0, .ref x1] (zem ν) (none, zem r) := y_entry in_X12_copy (Nat.le_of_ble_eq_true rfl) rfl (t_Md_copy hd0 x0 x1 ν r hq0 hq1 h)
-- FuseMinutesModel.areCords(I)Z
theorem dX12_areCords_0 : decode cX12_areCords 0 = .ok (.iload_n 1, 1) := by decide +kernel
theorem dX12_areCords_1 : decode cX12_areCords 1 = .ok (.iconst 1, 1) := by decide +kernel
theorem dX12_areCords_2 : decode cX12_areCords 2 = .ok (.iconst 1, 1) := by decide +kernel
theorem dX12_areCords_3 : decode cX12_areCords 3 = .ok (.aload_n 0, 1) := by decide +kernel
theorem dX12_areCords_4 : decode cX12_areCords 4 = .ok (.getfield 7, 3) := by decide +kernel
theorem dX12_areCords_7 : decode cX12_areCords 7 = .ok (.iconst 0, 1) := by decide +kernel
theorem dX12_areCords_8 : decode cX12_areCords 8 = .ok (.iaload, 1) := by decide +kernel
theorem dX12_areCords_9 : decode cX12_areCords 9 = .ok (.ishl, 1) := by decide +kernel
theorem dX12_areCords_10 : decode cX12_areCords 10 = .ok (.iconst 1, 1) := by decide +kernel
theorem dX12_areCords_11 : decode cX12_areCords 11 = .ok (.isub, 1) := by decide +kernel
theorem dX12_areCords_12 : decode cX12_areCords 12 = .ok (.invokestatic 88, 3) := by decide +kernel
theorem dX12_areCords_15 : decode cX12_areCords 15 = .ok (.ireturn, 1) := by decide +kernel
def Md_areCords (ν : Nm) (x1 : Int32) : Option Bool :=
  (Md_isIn x1 (1 : Int32) (((1 : Int32) <<< ((gi ν 314 0) &&& 31)) - (1 : Int32))).bind fun v1 =>
  some v1
set_option maxRecDepth 100000 in
set_option maxHeartbeats 4000000 in
theorem t_Md_areCords {g : GG} {d : Nat} {ν : Nm} (hd0 : 2 ≤ d) : ∀ (x1 : Int32) (r : Bool), Md_areCords ν x1 = some r → Z g d (0, 0) mX12_areCords 333 0 0 0 [(0, .ref 313), (1, .int x1)] [] (zem ν) (zF g (some (.int (b2i r)), zem ν)) := by
  intro x1 r h
  unfold Md_areCords at h
  refine z_iload_n dX12_areCords_0 1 rfl ?_
  refine z_iconst (M := mX12_areCords) (v := 1) dX12_areCords_1 rfl ?_
  refine z_iconst (M := mX12_areCords) (v := 1) dX12_areCords_2 rfl ?_
  refine z_aload_n dX12_areCords_3 0 rfl ?_
  refine y_getR (M := mX12_areCords) (r := 314) dX12_areCords_4 zk_313 flRX12_7 fr_10_0.1 (fr_10_0.2 _) ?_
  refine z_iconst (M := mX12_areCords) (v := 0) dX12_areCords_7 rfl ?_
  refine y_iald (M := mX12_areCords) (jj := 0) dX12_areCords_8 zk_314 rfl rfl ?_
  refine z_ishl dX12_areCords_9 ?_
  refine z_iconst (M := mX12_areCords) (v := 1) dX12_areCords_10 rfl ?_
  refine z_isub dX12_areCords_11 ?_
  obtain ⟨v1, he1, h⟩ := obind h
  refine y_Si (M := mX12_areCords) (Y := mX12_isIn) (d2 := d - 1) (As := [.int x1, .int (1 : Int32), .int (((1 : Int32) <<< ((gi ν 314 0) &&& 31)) - (1 : Int32))]) (st := []) dX12_areCords_12 mlRX12_88 cv_X12_isIn (ct_Md_isIn (dle (Nat.le_of_ble_eq_true rfl) hd0) he1) (dps (Nat.le_of_ble_eq_true rfl) hd0) rfl rfl (Nat.le_of_ble_eq_true rfl) ?_
  cases h
  exact z_zret dX12_areCords_15 rfl (nar_b2i _)
theorem ct_Md_areCords {g : GG} {d : Nat} {x1 : Int32} {ν : Nm} {r : Bool} (hd0 : 2 ≤ d)  (h : Md_areCords ν x1 = some r) : Ct g d mX12_areCords [.ref 313, .int x1] (zem ν) (some (.int (b2i r)), zem ν) := y_entry in_X12_areCords (Nat.le_of_ble_eq_true rfl) rfl (t_Md_areCords hd0 x1 r h)
-- FuseMinutesModel.isSpan(I)Z
theorem dX12_isSpan_0 : decode cX12_isSpan 0 = .ok (.iload_n 0, 1) := by decide +kernel
theorem dX12_isSpan_1 : decode cX12_isSpan 1 = .ok (.iconst 1, 1) := by decide +kernel
theorem dX12_isSpan_2 : decode cX12_isSpan 2 = .ok (.sipush 15360, 3) := by decide +kernel
theorem dX12_isSpan_5 : decode cX12_isSpan 5 = .ok (.invokestatic 88, 3) := by decide +kernel
theorem dX12_isSpan_8 : decode cX12_isSpan 8 = .ok (.ireturn, 1) := by decide +kernel
def Md_isSpan (x0 : Int32) : Option Bool :=
  (Md_isIn x0 (1 : Int32) (15360 : Int32)).bind fun v1 =>
  some v1
set_option maxRecDepth 100000 in
set_option maxHeartbeats 4000000 in
theorem t_Md_isSpan {g : GG} {d : Nat} {μ : Mm} (hd0 : 2 ≤ d) : ∀ (x0 : Int32) (r : Bool), Md_isSpan x0 = some r → Z g d (0, 0) mX12_isSpan 333 0 0 0 [(0, .int x0)] [] μ (zF g (some (.int (b2i r)), μ)) := by
  intro x0 r h
  unfold Md_isSpan at h
  refine z_iload_n dX12_isSpan_0 0 rfl ?_
  refine z_iconst (M := mX12_isSpan) (v := 1) dX12_isSpan_1 rfl ?_
  refine z_sipush (M := mX12_isSpan) (v := 15360) dX12_isSpan_2 rfl ?_
  obtain ⟨v1, he1, h⟩ := obind h
  refine y_Si (M := mX12_isSpan) (Y := mX12_isIn) (d2 := d - 1) (As := [.int x0, .int (1 : Int32), .int (15360 : Int32)]) (st := []) dX12_isSpan_5 mlRX12_88 cv_X12_isIn (ct_Md_isIn (dle (Nat.le_of_ble_eq_true rfl) hd0) he1) (dps (Nat.le_of_ble_eq_true rfl) hd0) rfl rfl (Nat.le_of_ble_eq_true rfl) ?_
  cases h
  exact z_zret dX12_isSpan_8 rfl (nar_b2i _)
theorem ct_Md_isSpan {g : GG} {d : Nat} {x0 : Int32} {μ : Mm} {r : Bool} (hd0 : 2 ≤ d)  (h : Md_isSpan x0 = some r) : Ct g d mX12_isSpan [.int x0] μ (some (.int (b2i r)), μ) := y_entry in_X12_isSpan (Nat.le_of_ble_eq_true rfl) rfl (t_Md_isSpan hd0 x0 r h)
-- FuseMinutesModel.priceOf(I)I
theorem dX12_priceOf_0 : decode cX12_priceOf 0 = .ok (.iconst 0, 1) := by decide +kernel
theorem dX12_priceOf_1 : decode cX12_priceOf 1 = .ok (.istore_n 2, 1) := by decide +kernel
theorem dX12_priceOf_2 : decode cX12_priceOf 2 = .ok (.iconst 0, 1) := by decide +kernel
theorem dX12_priceOf_3 : decode cX12_priceOf 3 = .ok (.istore_n 3, 1) := by decide +kernel
theorem dX12_priceOf_4 : decode cX12_priceOf 4 = .ok (.iload_n 3, 1) := by decide +kernel
theorem dX12_priceOf_5 : decode cX12_priceOf 5 = .ok (.aload_n 0, 1) := by decide +kernel
theorem dX12_priceOf_6 : decode cX12_priceOf 6 = .ok (.getfield 7, 3) := by decide +kernel
theorem dX12_priceOf_9 : decode cX12_priceOf 9 = .ok (.iconst 0, 1) := by decide +kernel
theorem dX12_priceOf_10 : decode cX12_priceOf 10 = .ok (.iaload, 1) := by decide +kernel
theorem dX12_priceOf_11 : decode cX12_priceOf 11 = .ok (.if_icmp .ge 37, 3) := by decide +kernel
theorem dX12_priceOf_14 : decode cX12_priceOf 14 = .ok (.iload_n 2, 1) := by decide +kernel
theorem dX12_priceOf_15 : decode cX12_priceOf 15 = .ok (.iload_n 1, 1) := by decide +kernel
theorem dX12_priceOf_16 : decode cX12_priceOf 16 = .ok (.iload_n 3, 1) := by decide +kernel
theorem dX12_priceOf_17 : decode cX12_priceOf 17 = .ok (.invokestatic 92, 3) := by decide +kernel
theorem dX12_priceOf_20 : decode cX12_priceOf 20 = .ok (.ifCond .eq 19, 3) := by decide +kernel
theorem dX12_priceOf_23 : decode cX12_priceOf 23 = .ok (.aload_n 0, 1) := by decide +kernel
theorem dX12_priceOf_24 : decode cX12_priceOf 24 = .ok (.getfield 7, 3) := by decide +kernel
theorem dX12_priceOf_27 : decode cX12_priceOf 27 = .ok (.bipush 20, 2) := by decide +kernel
theorem dX12_priceOf_29 : decode cX12_priceOf 29 = .ok (.iconst 2, 1) := by decide +kernel
theorem dX12_priceOf_30 : decode cX12_priceOf 30 = .ok (.iload_n 3, 1) := by decide +kernel
theorem dX12_priceOf_31 : decode cX12_priceOf 31 = .ok (.imul, 1) := by decide +kernel
theorem dX12_priceOf_32 : decode cX12_priceOf 32 = .ok (.iadd, 1) := by decide +kernel
theorem dX12_priceOf_33 : decode cX12_priceOf 33 = .ok (.iconst 1, 1) := by decide +kernel
theorem dX12_priceOf_34 : decode cX12_priceOf 34 = .ok (.iadd, 1) := by decide +kernel
theorem dX12_priceOf_35 : decode cX12_priceOf 35 = .ok (.iaload, 1) := by decide +kernel
theorem dX12_priceOf_36 : decode cX12_priceOf 36 = .ok (.goto 4, 3) := by decide +kernel
theorem dX12_priceOf_39 : decode cX12_priceOf 39 = .ok (.iconst 0, 1) := by decide +kernel
theorem dX12_priceOf_40 : decode cX12_priceOf 40 = .ok (.iadd, 1) := by decide +kernel
theorem dX12_priceOf_41 : decode cX12_priceOf 41 = .ok (.istore_n 2, 1) := by decide +kernel
theorem dX12_priceOf_42 : decode cX12_priceOf 42 = .ok (.iinc 3 1, 3) := by decide +kernel
theorem dX12_priceOf_45 : decode cX12_priceOf 45 = .ok (.goto (-41), 3) := by decide +kernel
theorem dX12_priceOf_48 : decode cX12_priceOf 48 = .ok (.iload_n 2, 1) := by decide +kernel
theorem dX12_priceOf_49 : decode cX12_priceOf 49 = .ok (.ireturn, 1) := by decide +kernel
def Md_priceOf_40 (ν : Nm) (k4 : Int32 → Int32 → Int32 → Option Int32) (x1 : Int32) (x3 : Int32) (s0 : Int32) (s1 : Int32) : Option Int32 :=
  k4 x1 (s1 + s0) (x3 + (1 : Int32))
set_option maxRecDepth 100000 in
set_option maxHeartbeats 4000000 in
theorem t_Md_priceOf_40 {g : GG} {d : Nat} {ν : Nm} (hd0 : 2 ≤ d) {k4 : Int32 → Int32 → Int32 → Option Int32} (hk4 : ∀ (x1 : Int32) (x2 : Int32) (x3 : Int32) (r : Int32), k4 x1 x2 x3 = some r → Z g d (0, 0) mX12_priceOf 333 0 0 4 [(0, .ref 313), (1, .int x1), (2, .int x2), (3, .int x3)] [] (zem ν) (zF g (some (.int r), zem ν))) : ∀ (x1 : Int32) (x3 : Int32) (s0 : Int32) (s1 : Int32) (r : Int32), Md_priceOf_40 ν k4 x1 x3 s0 s1 = some r → Z g d (0, 0) mX12_priceOf 333 0 0 40 [(0, .ref 313), (1, .int x1), (3, .int x3)] [.int s0, .int s1] (zem ν) (zF g (some (.int r), zem ν)) := by
  intro x1 x3 s0 s1 r h
  unfold Md_priceOf_40 at h
  refine z_iadd dX12_priceOf_40 ?_
  refine z_istore_n (M := mX12_priceOf) (lv2 := [(2, .int (s1 + s0)), (0, .ref 313), (1, .int x1), (3, .int x3)]) dX12_priceOf_41 (Nat.le_of_ble_eq_true rfl) rfl ?_
  refine z_iinc (M := mX12_priceOf) (v := (x3 + (1 : Int32))) (lv2 := [(3, .int (x3 + (1 : Int32))), (2, .int (s1 + s0)), (0, .ref 313), (1, .int x1)]) dX12_priceOf_42 3 rfl rfl (Nat.le_of_ble_eq_true rfl) rfl ?_
  refine z_goto 4 dX12_priceOf_45 rfl ?_
  refine z_lv (lv2 := [(0, .ref 313), (1, .int x1), (2, .int (s1 + s0)), (3, .int (x3 + (1 : Int32)))]) [2, 3, 1, 0] rfl ?_
  exact hk4 x1 (s1 + s0) (x3 + (1 : Int32)) _ h
def Md_priceOf_4 (ν : Nm) : Nat → Int32 → Int32 → Int32 → Option Int32
  | 0, _, _, _ => none
  | f + 1, x1, x2, x3 =>
    (if (gi ν 314 0) ≤ x3 then
      some x2
    else
      (Md_has x1 x3).bind fun v2 =>
      (if (b2i v2) = 0 then
        Md_priceOf_40 ν (Md_priceOf_4 ν f) x1 x3 (0 : Int32) x2
      else
        if inb (((20 : Int32) + ((2 : Int32) * x3)) + (1 : Int32)) 1385 then
        Md_priceOf_40 ν (Md_priceOf_4 ν f) x1 x3 (gi ν 314 (((20 : Int32) + ((2 : Int32) * x3)) + (1 : Int32)).toNatClampNeg) x2
        else none))
set_option maxRecDepth 100000 in
set_option maxHeartbeats 4000000 in
theorem t_Md_priceOf_4 {g : GG} {d : Nat} {ν : Nm} (hd0 : 2 ≤ d) : ∀ (f : Nat), ∀ (x1 : Int32) (x2 : Int32) (x3 : Int32) (r : Int32), Md_priceOf_4 ν f x1 x2 x3 = some r → Z g d (0, 0) mX12_priceOf 333 0 0 4 [(0, .ref 313), (1, .int x1), (2, .int x2), (3, .int x3)] [] (zem ν) (zF g (some (.int r), zem ν)) := by
  intro f
  induction f with
  | zero =>
    intro x1 x2 x3 r h
    cases h
  | succ f ih =>
    intro x1 x2 x3 r h
    rw [Md_priceOf_4] at h
    refine z_iload_n dX12_priceOf_4 3 rfl ?_
    refine z_aload_n dX12_priceOf_5 0 rfl ?_
    refine y_getR (M := mX12_priceOf) (r := 314) dX12_priceOf_6 zk_313 flRX12_7 fr_10_0.1 (fr_10_0.2 _) ?_
    refine z_iconst (M := mX12_priceOf) (v := 0) dX12_priceOf_9 rfl ?_
    refine y_iald (M := mX12_priceOf) (jj := 0) dX12_priceOf_10 zk_314 rfl rfl ?_
    refine z_icmp_ge 48 dX12_priceOf_11 rfl (fun hc1 => ?_) (fun hc1 => ?_)
    · replace h := oT hc1 h
      refine z_iload_n dX12_priceOf_48 2 rfl ?_
      cases h
      exact z_iret dX12_priceOf_49 rfl
    · replace h := oF hc1 h
      refine z_iload_n dX12_priceOf_14 2 rfl ?_
      refine z_iload_n dX12_priceOf_15 1 rfl ?_
      refine z_iload_n dX12_priceOf_16 3 rfl ?_
      obtain ⟨v2, he2, h⟩ := obind h
      refine y_Si (M := mX12_priceOf) (Y := mX12_has) (d2 := d - 1) (As := [.int x1, .int x3]) (st := [.int x2]) dX12_priceOf_17 mlRX12_92 cv_X12_has (ct_Md_has (dle (Nat.le_of_ble_eq_true rfl) hd0) he2) (dps (Nat.le_of_ble_eq_true rfl) hd0) rfl rfl (Nat.le_of_ble_eq_true rfl) ?_
      refine z_if_eq 39 dX12_priceOf_20 rfl (fun hc3 => ?_) (fun hc3 => ?_)
      · replace h := oT hc3 h
        refine z_iconst (M := mX12_priceOf) (v := 0) dX12_priceOf_39 rfl ?_
        refine z_lv (lv2 := [(0, .ref 313), (1, .int x1), (3, .int x3)]) [0, 1, 3] rfl ?_
        exact t_Md_priceOf_40 hd0 ih x1 x3 (0 : Int32) x2 _ h
      · replace h := oF hc3 h
        refine z_aload_n dX12_priceOf_23 0 rfl ?_
        refine y_getR (M := mX12_priceOf) (r := 314) dX12_priceOf_24 zk_313 flRX12_7 fr_10_0.1 (fr_10_0.2 _) ?_
        refine z_bipush (M := mX12_priceOf) (v := 20) dX12_priceOf_27 rfl ?_
        refine z_iconst (M := mX12_priceOf) (v := 2) dX12_priceOf_29 rfl ?_
        refine z_iload_n dX12_priceOf_30 3 rfl ?_
        refine z_imul dX12_priceOf_31 ?_
        refine z_iadd dX12_priceOf_32 ?_
        refine z_iconst (M := mX12_priceOf) (v := 1) dX12_priceOf_33 rfl ?_
        refine z_iadd dX12_priceOf_34 ?_
        obtain ⟨hi4, h⟩ := oif h
        refine y_iald (M := mX12_priceOf) (jj := (((20 : Int32) + ((2 : Int32) * x3)) + (1 : Int32)).toNatClampNeg) dX12_priceOf_35 zk_314 hi4 rfl ?_
        refine z_goto 40 dX12_priceOf_36 rfl ?_
        refine z_lv (lv2 := [(0, .ref 313), (1, .int x1), (3, .int x3)]) [0, 1, 3] rfl ?_
        exact t_Md_priceOf_40 hd0 ih x1 x3 (gi ν 314 (((20 : Int32) + ((2 : Int32) * x3)) + (1 : Int32)).toNatClampNeg) x2 _ h
def Md_priceOf (ν : Nm) (x1 : Int32) : Option Int32 :=
  Md_priceOf_4 ν FU x1 (0 : Int32) (0 : Int32)
set_option maxRecDepth 100000 in
set_option maxHeartbeats 4000000 in
theorem t_Md_priceOf {g : GG} {d : Nat} {ν : Nm} (hd0 : 2 ≤ d) : ∀ (x1 : Int32) (r : Int32), Md_priceOf ν x1 = some r → Z g d (0, 0) mX12_priceOf 333 0 0 0 [(0, .ref 313), (1, .int x1)] [] (zem ν) (zF g (some (.int r), zem ν)) := by
  intro x1 r h
  unfold Md_priceOf at h
  refine z_iconst (M := mX12_priceOf) (v := 0) dX12_priceOf_0 rfl ?_
  refine z_istore_n (M := mX12_priceOf) (lv2 := [(2, .int (0 : Int32)), (0, .ref 313), (1, .int x1)]) dX12_priceOf_1 (Nat.le_of_ble_eq_true rfl) rfl ?_
  refine z_iconst (M := mX12_priceOf) (v := 0) dX12_priceOf_2 rfl ?_
  refine z_istore_n (M := mX12_priceOf) (lv2 := [(3, .int (0 : Int32)), (2, .int (0 : Int32)), (0, .ref 313), (1, .int x1)]) dX12_priceOf_3 (Nat.le_of_ble_eq_true rfl) rfl ?_
  refine z_lv (lv2 := [(0, .ref 313), (1, .int x1), (2, .int (0 : Int32)), (3, .int (0 : Int32))]) [2, 3, 1, 0] rfl ?_
  exact t_Md_priceOf_4 hd0 FU x1 (0 : Int32) (0 : Int32) _ h
theorem ct_Md_priceOf {g : GG} {d : Nat} {x1 : Int32} {ν : Nm} {r : Int32} (hd0 : 2 ≤ d)  (h : Md_priceOf ν x1 = some r) : Ct g d mX12_priceOf [.ref 313, .int x1] (zem ν) (some (.int r), zem ν) := y_entry in_X12_priceOf (Nat.le_of_ble_eq_true rfl) rfl (t_Md_priceOf hd0 x1 r h)
-- FuseMinutesModel.wet(IZ)Z
theorem dX12_wet_0 : decode cX12_wet 0 = .ok (.aload_n 0, 1) := by decide +kernel
theorem dX12_wet_1 : decode cX12_wet 1 = .ok (.iload_n 1, 1) := by decide +kernel
theorem dX12_wet_2 : decode cX12_wet 2 = .ok (.invokevirtual 115, 3) := by decide +kernel
theorem dX12_wet_5 : decode cX12_wet 5 = .ok (.ifCond .ne 5, 3) := by decide +kernel
theorem dX12_wet_8 : decode cX12_wet 8 = .ok (.iconst 0, 1) := by decide +kernel
theorem dX12_wet_9 : decode cX12_wet 9 = .ok (.ireturn, 1) := by decide +kernel
theorem dX12_wet_10 : decode cX12_wet 10 = .ok (.aload_n 0, 1) := by decide +kernel
theorem dX12_wet_11 : decode cX12_wet 11 = .ok (.getfield 7, 3) := by decide +kernel
theorem dX12_wet_14 : decode cX12_wet 14 = .ok (.bipush 28, 2) := by decide +kernel
theorem dX12_wet_16 : decode cX12_wet 16 = .ok (.iload_n 2, 1) := by decide +kernel
theorem dX12_wet_17 : decode cX12_wet 17 = .ok (.ifCond .eq 17, 3) := by decide +kernel
theorem dX12_wet_20 : decode cX12_wet 20 = .ok (.aload_n 0, 1) := by decide +kernel
theorem dX12_wet_21 : decode cX12_wet 21 = .ok (.getfield 7, 3) := by decide +kernel
theorem dX12_wet_24 : decode cX12_wet 24 = .ok (.bipush 28, 2) := by decide +kernel
theorem dX12_wet_26 : decode cX12_wet 26 = .ok (.iaload, 1) := by decide +kernel
theorem dX12_wet_27 : decode cX12_wet 27 = .ok (.iconst 1, 1) := by decide +kernel
theorem dX12_wet_28 : decode cX12_wet 28 = .ok (.iload_n 1, 1) := by decide +kernel
theorem dX12_wet_29 : decode cX12_wet 29 = .ok (.ishl, 1) := by decide +kernel
theorem dX12_wet_30 : decode cX12_wet 30 = .ok (.ior, 1) := by decide +kernel
theorem dX12_wet_31 : decode cX12_wet 31 = .ok (.goto 16, 3) := by decide +kernel
theorem dX12_wet_34 : decode cX12_wet 34 = .ok (.aload_n 0, 1) := by decide +kernel
theorem dX12_wet_35 : decode cX12_wet 35 = .ok (.getfield 7, 3) := by decide +kernel
theorem dX12_wet_38 : decode cX12_wet 38 = .ok (.bipush 28, 2) := by decide +kernel
theorem dX12_wet_40 : decode cX12_wet 40 = .ok (.iaload, 1) := by decide +kernel
theorem dX12_wet_41 : decode cX12_wet 41 = .ok (.iconst 1, 1) := by decide +kernel
theorem dX12_wet_42 : decode cX12_wet 42 = .ok (.iload_n 1, 1) := by decide +kernel
theorem dX12_wet_43 : decode cX12_wet 43 = .ok (.ishl, 1) := by decide +kernel
theorem dX12_wet_44 : decode cX12_wet 44 = .ok (.iconst (-1), 1) := by decide +kernel
theorem dX12_wet_45 : decode cX12_wet 45 = .ok (.ixor, 1) := by decide +kernel
theorem dX12_wet_46 : decode cX12_wet 46 = .ok (.iand, 1) := by decide +kernel
theorem dX12_wet_47 : decode cX12_wet 47 = .ok (.iastore, 1) := by decide +kernel
theorem dX12_wet_48 : decode cX12_wet 48 = .ok (.iconst 1, 1) := by decide +kernel
theorem dX12_wet_49 : decode cX12_wet 49 = .ok (.ireturn, 1) := by decide +kernel
def Md_wet (x1 : Int32) (x2 : Int32) (ν : Nm) : Option (Bool × Nm) :=
  (Md_isCord ν x1).bind fun v1 =>
  (if ¬ (b2i v1) = 0 then
    (if x2 = 0 then
      some (true, (si ν 314 28 ((gi ν 314 28) &&& (((1 : Int32) <<< (x1 &&& 31)) ^^^ (-1 : Int32)))))
    else
      some (true, (si ν 314 28 ((gi ν 314 28) ||| ((1 : Int32) <<< (x1 &&& 31))))))
  else
    some (false, ν))
set_option maxRecDepth 100000 in
set_option maxHeartbeats 4000000 in
theorem t_Md_wet {g : GG} {d : Nat} (hd0 : 3 ≤ d) : ∀ (x1 : Int32) (x2 : Int32) (ν : Nm) (r : (Bool × Nm)), Md_wet x1 x2 ν = some r → Z g d (0, 0) mX12_wet 333 0 0 0 [(0, .ref 313), (1, .int x1), (2, .int x2)] [] (zem ν) (zF g (some (.int (b2i r.1)), zem r.2)) := by
  intro x1 x2 ν r h
  unfold Md_wet at h
  refine z_aload_n dX12_wet_0 0 rfl ?_
  refine z_iload_n dX12_wet_1 1 rfl ?_
  obtain ⟨v1, he1, h⟩ := obind h
  refine y_Vi (M := mX12_wet) (Y := mX12_isCord) (d2 := d - 1) (As := [.int x1]) (st := []) dX12_wet_2 mlRX12_115 cv_X12_isCord zk_313 (ct_Md_isCord (dle (Nat.le_of_ble_eq_true rfl) hd0) he1) (dps (Nat.le_of_ble_eq_true rfl) hd0) rfl rfl (Nat.le_of_ble_eq_true rfl) ?_
  refine z_if_ne 10 dX12_wet_5 rfl (fun hc2 => ?_) (fun hc2 => ?_)
  · replace h := oT hc2 h
    refine z_aload_n dX12_wet_10 0 rfl ?_
    refine y_getR (M := mX12_wet) (r := 314) dX12_wet_11 zk_313 flRX12_7 fr_10_0.1 (fr_10_0.2 _) ?_
    refine z_bipush (M := mX12_wet) (v := 28) dX12_wet_14 rfl ?_
    refine z_iload_n dX12_wet_16 2 rfl ?_
    refine z_if_eq 34 dX12_wet_17 rfl (fun hc3 => ?_) (fun hc3 => ?_)
    · replace h := oT hc3 h
      refine z_aload_n dX12_wet_34 0 rfl ?_
      refine y_getR (M := mX12_wet) (r := 314) dX12_wet_35 zk_313 flRX12_7 fr_10_0.1 (fr_10_0.2 _) ?_
      refine z_bipush (M := mX12_wet) (v := 28) dX12_wet_38 rfl ?_
      refine y_iald (M := mX12_wet) (jj := 28) dX12_wet_40 zk_314 rfl rfl ?_
      refine z_iconst (M := mX12_wet) (v := 1) dX12_wet_41 rfl ?_
      refine z_iload_n dX12_wet_42 1 rfl ?_
      refine z_ishl dX12_wet_43 ?_
      refine z_iconst (M := mX12_wet) (v := -1) dX12_wet_44 rfl ?_
      refine z_ixor dX12_wet_45 ?_
      refine z_iand dX12_wet_46 ?_
      refine y_iast (M := mX12_wet) (jj := 28) dX12_wet_47 zk_314 rfl rfl ?_
      refine z_iconst (M := mX12_wet) (v := 1) dX12_wet_48 rfl ?_
      cases h
      exact z_zret dX12_wet_49 rfl rfl
    · replace h := oF hc3 h
      refine z_aload_n dX12_wet_20 0 rfl ?_
      refine y_getR (M := mX12_wet) (r := 314) dX12_wet_21 zk_313 flRX12_7 fr_10_0.1 (fr_10_0.2 _) ?_
      refine z_bipush (M := mX12_wet) (v := 28) dX12_wet_24 rfl ?_
      refine y_iald (M := mX12_wet) (jj := 28) dX12_wet_26 zk_314 rfl rfl ?_
      refine z_iconst (M := mX12_wet) (v := 1) dX12_wet_27 rfl ?_
      refine z_iload_n dX12_wet_28 1 rfl ?_
      refine z_ishl dX12_wet_29 ?_
      refine z_ior dX12_wet_30 ?_
      refine z_goto 47 dX12_wet_31 rfl ?_
      refine y_iast (M := mX12_wet) (jj := 28) dX12_wet_47 zk_314 rfl rfl ?_
      refine z_iconst (M := mX12_wet) (v := 1) dX12_wet_48 rfl ?_
      cases h
      exact z_zret dX12_wet_49 rfl rfl
  · replace h := oFn hc2 h
    refine z_iconst (M := mX12_wet) (v := 0) dX12_wet_8 rfl ?_
    cases h
    exact z_zret dX12_wet_9 rfl rfl
theorem ct_Md_wet {g : GG} {d : Nat} {x1 : Int32} {x2 : Int32} {ν : Nm} {r : (Bool × Nm)} (hd0 : 3 ≤ d)  (h : Md_wet x1 x2 ν = some r) : Ct g d mX12_wet [.ref 313, .int x1, .int x2] (zem ν) (some (.int (b2i r.1)), zem r.2) := y_entry in_X12_wet (Nat.le_of_ble_eq_true rfl) rfl (t_Md_wet hd0 x1 x2 ν r h)
-- FuseMinutesModel.four(I)V
theorem dX12_four_0 : decode cX12_four 0 = .ok (.bipush 24, 2) := by decide +kernel
theorem dX12_four_2 : decode cX12_four 2 = .ok (.istore_n 2, 1) := by decide +kernel
theorem dX12_four_3 : decode cX12_four 3 = .ok (.iload_n 2, 1) := by decide +kernel
theorem dX12_four_4 : decode cX12_four 4 = .ok (.ifCond .lt 35, 3) := by decide +kernel
theorem dX12_four_7 : decode cX12_four 7 = .ok (.aload_n 0, 1) := by decide +kernel
theorem dX12_four_8 : decode cX12_four 8 = .ok (.getfield 19, 3) := by decide +kernel
theorem dX12_four_11 : decode cX12_four 11 = .ok (.aload_n 0, 1) := by decide +kernel
theorem dX12_four_12 : decode cX12_four 12 = .ok (.getfield 119, 3) := by decide +kernel
theorem dX12_four_15 : decode cX12_four 15 = .ok (.iload_n 1, 1) := by decide +kernel
theorem dX12_four_16 : decode cX12_four 16 = .ok (.iload_n 2, 1) := by decide +kernel
theorem dX12_four_17 : decode cX12_four 17 = .ok (.ishr, 1) := by decide +kernel
theorem dX12_four_18 : decode cX12_four 18 = .ok (.sipush 255, 3) := by decide +kernel
theorem dX12_four_21 : decode cX12_four 21 = .ok (.iand, 1) := by decide +kernel
theorem dX12_four_22 : decode cX12_four 22 = .ok (.iastore, 1) := by decide +kernel
theorem dX12_four_23 : decode cX12_four 23 = .ok (.aload_n 0, 1) := by decide +kernel
theorem dX12_four_24 : decode cX12_four 24 = .ok (.dup, 1) := by decide +kernel
theorem dX12_four_25 : decode cX12_four 25 = .ok (.getfield 119, 3) := by decide +kernel
theorem dX12_four_28 : decode cX12_four 28 = .ok (.iconst 1, 1) := by decide +kernel
theorem dX12_four_29 : decode cX12_four 29 = .ok (.iadd, 1) := by decide +kernel
theorem dX12_four_30 : decode cX12_four 30 = .ok (.putfield 119, 3) := by decide +kernel
theorem dX12_four_33 : decode cX12_four 33 = .ok (.iinc 2 (-8), 3) := by decide +kernel
theorem dX12_four_36 : decode cX12_four 36 = .ok (.goto (-33), 3) := by decide +kernel
theorem dX12_four_39 : decode cX12_four 39 = .ok (.return_, 1) := by decide +kernel
def Md_four_33 (k3 : Int32 → Int32 → Nm → Option Nm) (x1 : Int32) (x2 : Int32) (ν : Nm) : Option Nm :=
  k3 x1 (x2 + (-8 : Int32)) ν
set_option maxRecDepth 100000 in
set_option maxHeartbeats 4000000 in
theorem t_Md_four_33 {g : GG} {d : Nat} (hd0 : 1 ≤ d) {k3 : Int32 → Int32 → Nm → Option Nm} (hk3 : ∀ (x1 : Int32) (x2 : Int32) (ν : Nm) (r : Nm), k3 x1 x2 ν = some r → Z g d (0, 0) mX12_four 333 0 0 3 [(0, .ref 313), (1, .int x1), (2, .int x2)] [] (zem ν) (zF g (none, zem r))) : ∀ (x1 : Int32) (x2 : Int32) (ν : Nm) (r : Nm), Md_four_33 k3 x1 x2 ν = some r → Z g d (0, 0) mX12_four 333 0 0 33 [(0, .ref 313), (1, .int x1), (2, .int x2)] [] (zem ν) (zF g (none, zem r)) := by
  intro x1 x2 ν r h
  unfold Md_four_33 at h
  refine z_iinc (M := mX12_four) (v := (x2 + (-8 : Int32))) (lv2 := [(2, .int (x2 + (-8 : Int32))), (0, .ref 313), (1, .int x1)]) dX12_four_33 2 rfl rfl (Nat.le_of_ble_eq_true rfl) rfl ?_
  refine z_goto 3 dX12_four_36 rfl ?_
  refine z_lv (lv2 := [(0, .ref 313), (1, .int x1), (2, .int (x2 + (-8 : Int32)))]) [1, 2, 0] rfl ?_
  exact hk3 x1 (x2 + (-8 : Int32)) ν _ h
def Md_four_3 : Nat → Int32 → Int32 → Nm → Option Nm
  | 0, _, _, _ => none
  | f + 1, x1, x2, ν =>
    (if x2 < 0 then
      some ν
    else
      if inb (gi ν 313 4) 300 then
      Md_four_33 (Md_four_3 f) x1 x2 (si (si ν 317 (gi ν 313 4).toNatClampNeg ((x1 >>> (x2 &&& 31)) &&& (255 : Int32))) 313 4 ((gi (si ν 317 (gi ν 313 4).toNatClampNeg ((x1 >>> (x2 &&& 31)) &&& (255 : Int32))) 313 4) + (1 : Int32)))
      else none)
set_option maxRecDepth 100000 in
set_option maxHeartbeats 4000000 in
theorem t_Md_four_3 {g : GG} {d : Nat} (hd0 : 1 ≤ d) : ∀ (f : Nat), ∀ (x1 : Int32) (x2 : Int32) (ν : Nm) (r : Nm), Md_four_3 f x1 x2 ν = some r → Z g d (0, 0) mX12_four 333 0 0 3 [(0, .ref 313), (1, .int x1), (2, .int x2)] [] (zem ν) (zF g (none, zem r)) := by
  intro f
  induction f with
  | zero =>
    intro x1 x2 ν r h
    cases h
  | succ f ih =>
    intro x1 x2 ν r h
    rw [Md_four_3] at h
    refine z_iload_n dX12_four_3 2 rfl ?_
    refine z_if_lt 39 dX12_four_4 rfl (fun hc1 => ?_) (fun hc1 => ?_)
    · replace h := oT hc1 h
      cases h
      exact z_vret dX12_four_39 rfl
    · replace h := oF hc1 h
      refine z_aload_n dX12_four_7 0 rfl ?_
      refine y_getR (M := mX12_four) (r := 317) dX12_four_8 zk_313 flRX12_19 fr_10_3.1 (fr_10_3.2 _) ?_
      refine z_aload_n dX12_four_11 0 rfl ?_
      refine y_getI dX12_four_12 zk_313 flRX12_119 ?_
      refine z_iload_n dX12_four_15 1 rfl ?_
      refine z_iload_n dX12_four_16 2 rfl ?_
      refine z_ishr dX12_four_17 ?_
      refine z_sipush (M := mX12_four) (v := 255) dX12_four_18 rfl ?_
      refine z_iand dX12_four_21 ?_
      obtain ⟨hi2, h⟩ := oif h
      refine y_iast (M := mX12_four) (jj := (gi ν 313 4).toNatClampNeg) dX12_four_22 zk_317 hi2 rfl ?_
      refine z_aload_n dX12_four_23 0 rfl ?_
      refine z_dup dX12_four_24 rfl ?_
      refine y_getI dX12_four_25 zk_313 flRX12_119 ?_
      refine z_iconst (M := mX12_four) (v := 1) dX12_four_28 rfl ?_
      refine z_iadd dX12_four_29 ?_
      refine y_putI dX12_four_30 zk_313 flRX12_119 ⟨rfl, rfl⟩ ?_
      exact t_Md_four_33 hd0 ih x1 x2 (si (si ν 317 (gi ν 313 4).toNatClampNeg ((x1 >>> (x2 &&& 31)) &&& (255 : Int32))) 313 4 ((gi (si ν 317 (gi ν 313 4).toNatClampNeg ((x1 >>> (x2 &&& 31)) &&& (255 : Int32))) 313 4) + (1 : Int32))) _ h
def Md_four (x1 : Int32) (ν : Nm) : Option Nm :=
  Md_four_3 FU x1 (24 : Int32) ν
set_option maxRecDepth 100000 in
set_option maxHeartbeats 4000000 in
theorem t_Md_four {g : GG} {d : Nat} (hd0 : 1 ≤ d) : ∀ (x1 : Int32) (ν : Nm) (r : Nm), Md_four x1 ν = some r → Z g d (0, 0) mX12_four 333 0 0 0 [(0, .ref 313), (1, .int x1)] [] (zem ν) (zF g (none, zem r)) := by
  intro x1 ν r h
  unfold Md_four at h
  refine z_bipush (M := mX12_four) (v := 24) dX12_four_0 rfl ?_
  refine z_istore_n (M := mX12_four) (lv2 := [(2, .int (24 : Int32)), (0, .ref 313), (1, .int x1)]) dX12_four_2 (Nat.le_of_ble_eq_true rfl) rfl ?_
  refine z_lv (lv2 := [(0, .ref 313), (1, .int x1), (2, .int (24 : Int32))]) [1, 2, 0] rfl ?_
  exact t_Md_four_3 hd0 FU x1 (24 : Int32) ν _ h
theorem ct_Md_four {g : GG} {d : Nat} {x1 : Int32} {ν : Nm} {r : Nm} (hd0 : 1 ≤ d)  (h : Md_four x1 ν = some r) : Ct g d mX12_four [.ref 313, .int x1] (zem ν) (none, zem r) := y_entry in_X12_four (Nat.le_of_ble_eq_true rfl) rfl (t_Md_four hd0 x1 ν r h)
-- FuseMinutesModel.feed(IIIII)I
theorem dX12_feed_0 : decode cX12_feed 0 = .ok (.aload_n 0, 1) := by decide +kernel
theorem dX12_feed_1 : decode cX12_feed 1 = .ok (.getfield 119, 3) := by decide +kernel
theorem dX12_feed_4 : decode cX12_feed 4 = .ok (.bipush 20, 2) := by decide +kernel
theorem dX12_feed_6 : decode cX12_feed 6 = .ok (.iadd, 1) := by decide +kernel
theorem dX12_feed_7 : decode cX12_feed 7 = .ok (.sipush 300, 3) := by decide +kernel
theorem dX12_feed_10 : decode cX12_feed 10 = .ok (.if_icmp .le 5, 3) := by decide +kernel
theorem dX12_feed_13 : decode cX12_feed 13 = .ok (.iconst (-1), 1) := by decide +kernel
theorem dX12_feed_14 : decode cX12_feed 14 = .ok (.ireturn, 1) := by decide +kernel
theorem dX12_feed_15 : decode cX12_feed 15 = .ok (.aload_n 0, 1) := by decide +kernel
theorem dX12_feed_16 : decode cX12_feed 16 = .ok (.iload_n 1, 1) := by decide +kernel
theorem dX12_feed_17 : decode cX12_feed 17 = .ok (.invokevirtual 122, 3) := by decide +kernel
theorem dX12_feed_20 : decode cX12_feed 20 = .ok (.aload_n 0, 1) := by decide +kernel
theorem dX12_feed_21 : decode cX12_feed 21 = .ok (.iload_n 2, 1) := by decide +kernel
theorem dX12_feed_22 : decode cX12_feed 22 = .ok (.invokevirtual 122, 3) := by decide +kernel
theorem dX12_feed_25 : decode cX12_feed 25 = .ok (.aload_n 0, 1) := by decide +kernel
theorem dX12_feed_26 : decode cX12_feed 26 = .ok (.iload_n 3, 1) := by decide +kernel
theorem dX12_feed_27 : decode cX12_feed 27 = .ok (.invokevirtual 122, 3) := by decide +kernel
theorem dX12_feed_30 : decode cX12_feed 30 = .ok (.aload_n 0, 1) := by decide +kernel
theorem dX12_feed_31 : decode cX12_feed 31 = .ok (.iload 4, 2) := by decide +kernel
theorem dX12_feed_33 : decode cX12_feed 33 = .ok (.invokevirtual 122, 3) := by decide +kernel
theorem dX12_feed_36 : decode cX12_feed 36 = .ok (.aload_n 0, 1) := by decide +kernel
theorem dX12_feed_37 : decode cX12_feed 37 = .ok (.iload 5, 2) := by decide +kernel
theorem dX12_feed_39 : decode cX12_feed 39 = .ok (.invokevirtual 122, 3) := by decide +kernel
theorem dX12_feed_42 : decode cX12_feed 42 = .ok (.aload_n 0, 1) := by decide +kernel
theorem dX12_feed_43 : decode cX12_feed 43 = .ok (.getfield 119, 3) := by decide +kernel
theorem dX12_feed_46 : decode cX12_feed 46 = .ok (.ireturn, 1) := by decide +kernel
def Md_feed (x1 : Int32) (x2 : Int32) (x3 : Int32) (x4 : Int32) (x5 : Int32) (ν : Nm) : Option (Int32 × Nm) :=
  (if ((gi ν 313 4) + (20 : Int32)) ≤ (300 : Int32) then
    (Md_four x1 ν).bind fun v2 =>
    (Md_four x2 v2).bind fun v3 =>
    (Md_four x3 v3).bind fun v4 =>
    (Md_four x4 v4).bind fun v5 =>
    (Md_four x5 v5).bind fun v6 =>
    some ((gi v6 313 4), v6)
  else
    some ((-1 : Int32), ν))
set_option maxRecDepth 100000 in
set_option maxHeartbeats 4000000 in
theorem t_Md_feed {g : GG} {d : Nat} (hd0 : 2 ≤ d) : ∀ (x1 : Int32) (x2 : Int32) (x3 : Int32) (x4 : Int32) (x5 : Int32) (ν : Nm) (r : (Int32 × Nm)), Md_feed x1 x2 x3 x4 x5 ν = some r → Z g d (0, 0) mX12_feed 333 0 0 0 [(0, .ref 313), (1, .int x1), (2, .int x2), (3, .int x3), (4, .int x4), (5, .int x5)] [] (zem ν) (zF g (some (.int r.1), zem r.2)) := by
  intro x1 x2 x3 x4 x5 ν r h
  unfold Md_feed at h
  refine z_aload_n dX12_feed_0 0 rfl ?_
  refine y_getI dX12_feed_1 zk_313 flRX12_119 ?_
  refine z_bipush (M := mX12_feed) (v := 20) dX12_feed_4 rfl ?_
  refine z_iadd dX12_feed_6 ?_
  refine z_sipush (M := mX12_feed) (v := 300) dX12_feed_7 rfl ?_
  refine z_icmp_le 15 dX12_feed_10 rfl (fun hc1 => ?_) (fun hc1 => ?_)
  · replace h := oT hc1 h
    refine z_aload_n dX12_feed_15 0 rfl ?_
    refine z_iload_n dX12_feed_16 1 rfl ?_
    obtain ⟨v2, he2, h⟩ := obind h
    refine y_Vv (M := mX12_feed) (Y := mX12_four) (d2 := d - 1) (As := [.int x1]) (st := []) dX12_feed_17 mlRX12_122 cv_X12_four zk_313 (ct_Md_four (dle (Nat.le_of_ble_eq_true rfl) hd0) he2) (dps (Nat.le_of_ble_eq_true rfl) hd0) rfl rfl (Nat.le_of_ble_eq_true rfl) ?_
    refine z_aload_n dX12_feed_20 0 rfl ?_
    refine z_iload_n dX12_feed_21 2 rfl ?_
    obtain ⟨v3, he3, h⟩ := obind h
    refine y_Vv (M := mX12_feed) (Y := mX12_four) (d2 := d - 1) (As := [.int x2]) (st := []) dX12_feed_22 mlRX12_122 cv_X12_four zk_313 (ct_Md_four (dle (Nat.le_of_ble_eq_true rfl) hd0) he3) (dps (Nat.le_of_ble_eq_true rfl) hd0) rfl rfl (Nat.le_of_ble_eq_true rfl) ?_
    refine z_aload_n dX12_feed_25 0 rfl ?_
    refine z_iload_n dX12_feed_26 3 rfl ?_
    obtain ⟨v4, he4, h⟩ := obind h
    refine y_Vv (M := mX12_feed) (Y := mX12_four) (d2 := d - 1) (As := [.int x3]) (st := []) dX12_feed_27 mlRX12_122 cv_X12_four zk_313 (ct_Md_four (dle (Nat.le_of_ble_eq_true rfl) hd0) he4) (dps (Nat.le_of_ble_eq_true rfl) hd0) rfl rfl (Nat.le_of_ble_eq_true rfl) ?_
    refine z_aload_n dX12_feed_30 0 rfl ?_
    refine z_iload dX12_feed_31 4 rfl ?_
    obtain ⟨v5, he5, h⟩ := obind h
    refine y_Vv (M := mX12_feed) (Y := mX12_four) (d2 := d - 1) (As := [.int x4]) (st := []) dX12_feed_33 mlRX12_122 cv_X12_four zk_313 (ct_Md_four (dle (Nat.le_of_ble_eq_true rfl) hd0) he5) (dps (Nat.le_of_ble_eq_true rfl) hd0) rfl rfl (Nat.le_of_ble_eq_true rfl) ?_
    refine z_aload_n dX12_feed_36 0 rfl ?_
    refine z_iload dX12_feed_37 5 rfl ?_
    obtain ⟨v6, he6, h⟩ := obind h
    refine y_Vv (M := mX12_feed) (Y := mX12_four) (d2 := d - 1) (As := [.int x5]) (st := []) dX12_feed_39 mlRX12_122 cv_X12_four zk_313 (ct_Md_four (dle (Nat.le_of_ble_eq_true rfl) hd0) he6) (dps (Nat.le_of_ble_eq_true rfl) hd0) rfl rfl (Nat.le_of_ble_eq_true rfl) ?_
    refine z_aload_n dX12_feed_42 0 rfl ?_
    refine y_getI dX12_feed_43 zk_313 flRX12_119 ?_
    cases h
    exact z_iret dX12_feed_46 rfl
  · replace h := oF hc1 h
    refine z_iconst (M := mX12_feed) (v := -1) dX12_feed_13 rfl ?_
    cases h
    exact z_iret dX12_feed_14 rfl
theorem ct_Md_feed {g : GG} {d : Nat} {x1 : Int32} {x2 : Int32} {x3 : Int32} {x4 : Int32} {x5 : Int32} {ν : Nm} {r : (Int32 × Nm)} (hd0 : 2 ≤ d)  (h : Md_feed x1 x2 x3 x4 x5 ν = some r) : Ct g d mX12_feed [.ref 313, .int x1, .int x2, .int x3, .int x4, .int x5] (zem ν) (some (.int r.1), zem r.2) := y_entry in_X12_feed (Nat.le_of_ble_eq_true rfl) rfl (t_Md_feed hd0 x1 x2 x3 x4 x5 ν r h)
-- FuseMinutesModel.end(I)I
theorem dX12_end_0 : decode cX12_end 0 = .ok (.iload_n 1, 1) := by decide +kernel
theorem dX12_end_1 : decode cX12_end 1 = .ok (.iconst 0, 1) := by decide +kernel
theorem dX12_end_2 : decode cX12_end 2 = .ok (.aload_n 0, 1) := by decide +kernel
theorem dX12_end_3 : decode cX12_end 3 = .ok (.getfield 119, 3) := by decide +kernel
theorem dX12_end_6 : decode cX12_end 6 = .ok (.invokestatic 88, 3) := by decide +kernel
theorem dX12_end_9 : decode cX12_end 9 = .ok (.ifCond .ne 5, 3) := by decide +kernel
theorem dX12_end_12 : decode cX12_end 12 = .ok (.iconst (-1), 1) := by decide +kernel
theorem dX12_end_13 : decode cX12_end 13 = .ok (.ireturn, 1) := by decide +kernel
theorem dX12_end_14 : decode cX12_end 14 = .ok (.aload_n 0, 1) := by decide +kernel
theorem dX12_end_15 : decode cX12_end 15 = .ok (.iload_n 1, 1) := by decide +kernel
theorem dX12_end_16 : decode cX12_end 16 = .ok (.putfield 119, 3) := by decide +kernel
theorem dX12_end_19 : decode cX12_end 19 = .ok (.iload_n 1, 1) := by decide +kernel
theorem dX12_end_20 : decode cX12_end 20 = .ok (.ireturn, 1) := by decide +kernel
def Md_end (x1 : Int32) (ν : Nm) : Option (Int32 × Nm) :=
  (Md_isIn x1 (0 : Int32) (gi ν 313 4)).bind fun v1 =>
  (if ¬ (b2i v1) = 0 then
    some (x1, (si ν 313 4 x1))
  else
    some ((-1 : Int32), ν))
set_option maxRecDepth 100000 in
set_option maxHeartbeats 4000000 in
theorem t_Md_end {g : GG} {d : Nat} (hd0 : 2 ≤ d) : ∀ (x1 : Int32) (ν : Nm) (r : (Int32 × Nm)), Md_end x1 ν = some r → Z g d (0, 0) mX12_end 333 0 0 0 [(0, .ref 313), (1, .int x1)] [] (zem ν) (zF g (some (.int r.1), zem r.2)) := by
  intro x1 ν r h
  unfold Md_end at h
  refine z_iload_n dX12_end_0 1 rfl ?_
  refine z_iconst (M := mX12_end) (v := 0) dX12_end_1 rfl ?_
  refine z_aload_n dX12_end_2 0 rfl ?_
  refine y_getI dX12_end_3 zk_313 flRX12_119 ?_
  obtain ⟨v1, he1, h⟩ := obind h
  refine y_Si (M := mX12_end) (Y := mX12_isIn) (d2 := d - 1) (As := [.int x1, .int (0 : Int32), .int (gi ν 313 4)]) (st := []) dX12_end_6 mlRX12_88 cv_X12_isIn (ct_Md_isIn (dle (Nat.le_of_ble_eq_true rfl) hd0) he1) (dps (Nat.le_of_ble_eq_true rfl) hd0) rfl rfl (Nat.le_of_ble_eq_true rfl) ?_
  refine z_if_ne 14 dX12_end_9 rfl (fun hc2 => ?_) (fun hc2 => ?_)
  · replace h := oT hc2 h
    refine z_aload_n dX12_end_14 0 rfl ?_
    refine z_iload_n dX12_end_15 1 rfl ?_
    refine y_putI dX12_end_16 zk_313 flRX12_119 ⟨rfl, rfl⟩ ?_
    refine z_iload_n dX12_end_19 1 rfl ?_
    cases h
    exact z_iret dX12_end_20 rfl
  · replace h := oFn hc2 h
    refine z_iconst (M := mX12_end) (v := -1) dX12_end_12 rfl ?_
    cases h
    exact z_iret dX12_end_13 rfl
theorem ct_Md_end {g : GG} {d : Nat} {x1 : Int32} {ν : Nm} {r : (Int32 × Nm)} (hd0 : 2 ≤ d)  (h : Md_end x1 ν = some r) : Ct g d mX12_end [.ref 313, .int x1] (zem ν) (some (.int r.1), zem r.2) := y_entry in_X12_end (Nat.le_of_ble_eq_true rfl) rfl (t_Md_end hd0 x1 ν r h)
-- FuseMinutesModel.fault(I)I
theorem dX12_fault_0 : decode cX12_fault 0 = .ok (.iload_n 1, 1) := by decide +kernel
theorem dX12_fault_1 : decode cX12_fault 1 = .ok (.ifCond .ne 10, 3) := by decide +kernel
theorem dX12_fault_4 : decode cX12_fault 4 = .ok (.aload_n 0, 1) := by decide +kernel
theorem dX12_fault_5 : decode cX12_fault 5 = .ok (.getfield 22, 3) := by decide +kernel
theorem dX12_fault_8 : decode cX12_fault 8 = .ok (.goto 16, 3) := by decide +kernel
theorem dX12_fault_11 : decode cX12_fault 11 = .ok (.iload_n 1, 1) := by decide +kernel
theorem dX12_fault_12 : decode cX12_fault 12 = .ok (.iconst 1, 1) := by decide +kernel
theorem dX12_fault_13 : decode cX12_fault 13 = .ok (.if_icmp .ne 10, 3) := by decide +kernel
theorem dX12_fault_16 : decode cX12_fault 16 = .ok (.aload_n 0, 1) := by decide +kernel
theorem dX12_fault_17 : decode cX12_fault 17 = .ok (.getfield 26, 3) := by decide +kernel
theorem dX12_fault_20 : decode cX12_fault 20 = .ok (.goto 4, 3) := by decide +kernel
theorem dX12_fault_23 : decode cX12_fault 23 = .ok (.iconst (-1), 1) := by decide +kernel
theorem dX12_fault_24 : decode cX12_fault 24 = .ok (.ireturn, 1) := by decide +kernel
def Md_fault (ν : Nm) (x1 : Int32) : Option Int32 :=
  (if ¬ x1 = 0 then
    (if ¬ x1 = (1 : Int32) then
      some (-1 : Int32)
    else
      some (gi ν 313 6))
  else
    some (gi ν 313 5))
set_option maxRecDepth 100000 in
set_option maxHeartbeats 4000000 in
theorem t_Md_fault {g : GG} {d : Nat} {ν : Nm} (hd0 : 1 ≤ d) : ∀ (x1 : Int32) (r : Int32), Md_fault ν x1 = some r → Z g d (0, 0) mX12_fault 333 0 0 0 [(0, .ref 313), (1, .int x1)] [] (zem ν) (zF g (some (.int r), zem ν)) := by
  intro x1 r h
  unfold Md_fault at h
  refine z_iload_n dX12_fault_0 1 rfl ?_
  refine z_if_ne 11 dX12_fault_1 rfl (fun hc1 => ?_) (fun hc1 => ?_)
  · replace h := oT hc1 h
    refine z_iload_n dX12_fault_11 1 rfl ?_
    refine z_iconst (M := mX12_fault) (v := 1) dX12_fault_12 rfl ?_
    refine z_icmp_ne 23 dX12_fault_13 rfl (fun hc2 => ?_) (fun hc2 => ?_)
    · replace h := oT hc2 h
      refine z_iconst (M := mX12_fault) (v := -1) dX12_fault_23 rfl ?_
      cases h
      exact z_iret dX12_fault_24 rfl
    · replace h := oFn hc2 h
      refine z_aload_n dX12_fault_16 0 rfl ?_
      refine y_getI dX12_fault_17 zk_313 flRX12_26 ?_
      refine z_goto 24 dX12_fault_20 rfl ?_
      cases h
      exact z_iret dX12_fault_24 rfl
  · replace h := oFn hc1 h
    refine z_aload_n dX12_fault_4 0 rfl ?_
    refine y_getI dX12_fault_5 zk_313 flRX12_22 ?_
    refine z_goto 24 dX12_fault_8 rfl ?_
    cases h
    exact z_iret dX12_fault_24 rfl
theorem ct_Md_fault {g : GG} {d : Nat} {x1 : Int32} {ν : Nm} {r : Int32} (hd0 : 1 ≤ d)  (h : Md_fault ν x1 = some r) : Ct g d mX12_fault [.ref 313, .int x1] (zem ν) (some (.int r), zem ν) := y_entry in_X12_fault (Nat.le_of_ble_eq_true rfl) rfl (t_Md_fault hd0 x1 r h)
-- FuseMinutesModel.by(I)Z
theorem dX12_by_0 : decode cX12_by 0 = .ok (.iload_n 1, 1) := by decide +kernel
theorem dX12_by_1 : decode cX12_by 1 = .ok (.iconst (-1), 1) := by decide +kernel
theorem dX12_by_2 : decode cX12_by 2 = .ok (.aload_n 0, 1) := by decide +kernel
theorem dX12_by_3 : decode cX12_by 3 = .ok (.getfield 7, 3) := by decide +kernel
theorem dX12_by_6 : decode cX12_by 6 = .ok (.iconst 2, 1) := by decide +kernel
theorem dX12_by_7 : decode cX12_by 7 = .ok (.iaload, 1) := by decide +kernel
theorem dX12_by_8 : decode cX12_by 8 = .ok (.iconst 1, 1) := by decide +kernel
theorem dX12_by_9 : decode cX12_by 9 = .ok (.isub, 1) := by decide +kernel
theorem dX12_by_10 : decode cX12_by 10 = .ok (.invokestatic 88, 3) := by decide +kernel
theorem dX12_by_13 : decode cX12_by 13 = .ok (.ifCond .ne 5, 3) := by decide +kernel
theorem dX12_by_16 : decode cX12_by 16 = .ok (.iconst 0, 1) := by decide +kernel
theorem dX12_by_17 : decode cX12_by 17 = .ok (.ireturn, 1) := by decide +kernel
theorem dX12_by_18 : decode cX12_by 18 = .ok (.aload_n 0, 1) := by decide +kernel
theorem dX12_by_19 : decode cX12_by 19 = .ok (.getfield 7, 3) := by decide +kernel
theorem dX12_by_22 : decode cX12_by 22 = .ok (.iconst 3, 1) := by decide +kernel
theorem dX12_by_23 : decode cX12_by 23 = .ok (.iload_n 1, 1) := by decide +kernel
theorem dX12_by_24 : decode cX12_by 24 = .ok (.iastore, 1) := by decide +kernel
theorem dX12_by_25 : decode cX12_by 25 = .ok (.iconst 1, 1) := by decide +kernel
theorem dX12_by_26 : decode cX12_by 26 = .ok (.ireturn, 1) := by decide +kernel
def Md_by (x1 : Int32) (ν : Nm) : Option (Bool × Nm) :=
  (Md_isIn x1 (-1 : Int32) ((gi ν 314 2) - (1 : Int32))).bind fun v1 =>
  (if ¬ (b2i v1) = 0 then
    some (true, (si ν 314 3 x1))
  else
    some (false, ν))
set_option maxRecDepth 100000 in
set_option maxHeartbeats 4000000 in
theorem t_Md_by {g : GG} {d : Nat} (hd0 : 2 ≤ d) : ∀ (x1 : Int32) (ν : Nm) (r : (Bool × Nm)), Md_by x1 ν = some r → Z g d (0, 0) mX12_by 333 0 0 0 [(0, .ref 313), (1, .int x1)] [] (zem ν) (zF g (some (.int (b2i r.1)), zem r.2)) := by
  intro x1 ν r h
  unfold Md_by at h
  refine z_iload_n dX12_by_0 1 rfl ?_
  refine z_iconst (M := mX12_by) (v := -1) dX12_by_1 rfl ?_
  refine z_aload_n dX12_by_2 0 rfl ?_
  refine y_getR (M := mX12_by) (r := 314) dX12_by_3 zk_313 flRX12_7 fr_10_0.1 (fr_10_0.2 _) ?_
  refine z_iconst (M := mX12_by) (v := 2) dX12_by_6 rfl ?_
  refine y_iald (M := mX12_by) (jj := 2) dX12_by_7 zk_314 rfl rfl ?_
  refine z_iconst (M := mX12_by) (v := 1) dX12_by_8 rfl ?_
  refine z_isub dX12_by_9 ?_
  obtain ⟨v1, he1, h⟩ := obind h
  refine y_Si (M := mX12_by) (Y := mX12_isIn) (d2 := d - 1) (As := [.int x1, .int (-1 : Int32), .int ((gi ν 314 2) - (1 : Int32))]) (st := []) dX12_by_10 mlRX12_88 cv_X12_isIn (ct_Md_isIn (dle (Nat.le_of_ble_eq_true rfl) hd0) he1) (dps (Nat.le_of_ble_eq_true rfl) hd0) rfl rfl (Nat.le_of_ble_eq_true rfl) ?_
  refine z_if_ne 18 dX12_by_13 rfl (fun hc2 => ?_) (fun hc2 => ?_)
  · replace h := oT hc2 h
    refine z_aload_n dX12_by_18 0 rfl ?_
    refine y_getR (M := mX12_by) (r := 314) dX12_by_19 zk_313 flRX12_7 fr_10_0.1 (fr_10_0.2 _) ?_
    refine z_iconst (M := mX12_by) (v := 3) dX12_by_22 rfl ?_
    refine z_iload_n dX12_by_23 1 rfl ?_
    refine y_iast (M := mX12_by) (jj := 3) dX12_by_24 zk_314 rfl rfl ?_
    refine z_iconst (M := mX12_by) (v := 1) dX12_by_25 rfl ?_
    cases h
    exact z_zret dX12_by_26 rfl rfl
  · replace h := oFn hc2 h
    refine z_iconst (M := mX12_by) (v := 0) dX12_by_16 rfl ?_
    cases h
    exact z_zret dX12_by_17 rfl rfl
theorem ct_Md_by {g : GG} {d : Nat} {x1 : Int32} {ν : Nm} {r : (Bool × Nm)} (hd0 : 2 ≤ d)  (h : Md_by x1 ν = some r) : Ct g d mX12_by [.ref 313, .int x1] (zem ν) (some (.int (b2i r.1)), zem r.2) := y_entry in_X12_by (Nat.le_of_ble_eq_true rfl) rfl (t_Md_by hd0 x1 ν r h)
-- FuseMinutesModel.of(II)I
theorem dX12_of_0 : decode cX12_of 0 = .ok (.aload_n 0, 1) := by decide +kernel
theorem dX12_of_1 : decode cX12_of 1 = .ok (.iload_n 1, 1) := by decide +kernel
theorem dX12_of_2 : decode cX12_of 2 = .ok (.invokevirtual 115, 3) := by decide +kernel
theorem dX12_of_5 : decode cX12_of 5 = .ok (.ifCond .ne 5, 3) := by decide +kernel
theorem dX12_of_8 : decode cX12_of 8 = .ok (.iconst (-1), 1) := by decide +kernel
theorem dX12_of_9 : decode cX12_of 9 = .ok (.ireturn, 1) := by decide +kernel
theorem dX12_of_10 : decode cX12_of 10 = .ok (.iload_n 2, 1) := by decide +kernel
theorem dX12_of_11 : decode cX12_of 11 = .ok (.iconst 0, 1) := by decide +kernel
theorem dX12_of_12 : decode cX12_of 12 = .ok (.iconst 1, 1) := by decide +kernel
theorem dX12_of_13 : decode cX12_of 13 = .ok (.invokestatic 88, 3) := by decide +kernel
theorem dX12_of_16 : decode cX12_of 16 = .ok (.ifCond .eq 19, 3) := by decide +kernel
theorem dX12_of_19 : decode cX12_of 19 = .ok (.aload_n 0, 1) := by decide +kernel
theorem dX12_of_20 : decode cX12_of 20 = .ok (.getfield 7, 3) := by decide +kernel
theorem dX12_of_23 : decode cX12_of 23 = .ok (.bipush 20, 2) := by decide +kernel
theorem dX12_of_25 : decode cX12_of 25 = .ok (.iconst 2, 1) := by decide +kernel
theorem dX12_of_26 : decode cX12_of 26 = .ok (.iload_n 1, 1) := by decide +kernel
theorem dX12_of_27 : decode cX12_of 27 = .ok (.imul, 1) := by decide +kernel
theorem dX12_of_28 : decode cX12_of 28 = .ok (.iadd, 1) := by decide +kernel
theorem dX12_of_29 : decode cX12_of 29 = .ok (.iload_n 2, 1) := by decide +kernel
theorem dX12_of_30 : decode cX12_of 30 = .ok (.iadd, 1) := by decide +kernel
theorem dX12_of_31 : decode cX12_of 31 = .ok (.iaload, 1) := by decide +kernel
theorem dX12_of_32 : decode cX12_of 32 = .ok (.goto 43, 3) := by decide +kernel
theorem dX12_of_35 : decode cX12_of 35 = .ok (.iload_n 2, 1) := by decide +kernel
theorem dX12_of_36 : decode cX12_of 36 = .ok (.iconst 2, 1) := by decide +kernel
theorem dX12_of_37 : decode cX12_of 37 = .ok (.iconst 3, 1) := by decide +kernel
theorem dX12_of_38 : decode cX12_of 38 = .ok (.invokestatic 88, 3) := by decide +kernel
theorem dX12_of_41 : decode cX12_of 41 = .ok (.ifCond .eq 14, 3) := by decide +kernel
theorem dX12_of_44 : decode cX12_of 44 = .ok (.aload_n 0, 1) := by decide +kernel
theorem dX12_of_45 : decode cX12_of 45 = .ok (.iload_n 1, 1) := by decide +kernel
theorem dX12_of_46 : decode cX12_of 46 = .ok (.iload_n 2, 1) := by decide +kernel
theorem dX12_of_47 : decode cX12_of 47 = .ok (.iconst 2, 1) := by decide +kernel
theorem dX12_of_48 : decode cX12_of 48 = .ok (.isub, 1) := by decide +kernel
theorem dX12_of_49 : decode cX12_of 49 = .ok (.invokevirtual 96, 3) := by decide +kernel
theorem dX12_of_52 : decode cX12_of 52 = .ok (.goto 23, 3) := by decide +kernel
theorem dX12_of_55 : decode cX12_of 55 = .ok (.iload_n 2, 1) := by decide +kernel
theorem dX12_of_56 : decode cX12_of 56 = .ok (.iconst 4, 1) := by decide +kernel
theorem dX12_of_57 : decode cX12_of 57 = .ok (.if_icmp .ne 17, 3) := by decide +kernel
theorem dX12_of_60 : decode cX12_of 60 = .ok (.aload_n 0, 1) := by decide +kernel
theorem dX12_of_61 : decode cX12_of 61 = .ok (.getfield 7, 3) := by decide +kernel
theorem dX12_of_64 : decode cX12_of 64 = .ok (.bipush 28, 2) := by decide +kernel
theorem dX12_of_66 : decode cX12_of 66 = .ok (.iaload, 1) := by decide +kernel
theorem dX12_of_67 : decode cX12_of 67 = .ok (.iload_n 1, 1) := by decide +kernel
theorem dX12_of_68 : decode cX12_of 68 = .ok (.ishr, 1) := by decide +kernel
theorem dX12_of_69 : decode cX12_of 69 = .ok (.iconst 1, 1) := by decide +kernel
theorem dX12_of_70 : decode cX12_of 70 = .ok (.iand, 1) := by decide +kernel
theorem dX12_of_71 : decode cX12_of 71 = .ok (.goto 4, 3) := by decide +kernel
theorem dX12_of_74 : decode cX12_of 74 = .ok (.iconst (-1), 1) := by decide +kernel
theorem dX12_of_75 : decode cX12_of 75 = .ok (.ireturn, 1) := by decide +kernel
def Md_of (ν : Nm) (x1 : Int32) (x2 : Int32) : Option Int32 :=
  (Md_isCord ν x1).bind fun v1 =>
  (if ¬ (b2i v1) = 0 then
    (Md_isIn x2 (0 : Int32) (1 : Int32)).bind fun v3 =>
    (if (b2i v3) = 0 then
      (Md_isIn x2 (2 : Int32) (3 : Int32)).bind fun v5 =>
      (if (b2i v5) = 0 then
        (if ¬ x2 = (4 : Int32) then
          some (-1 : Int32)
        else
          some (((gi ν 314 28) >>> (x1 &&& 31)) &&& (1 : Int32)))
      else
        (Md_get ν x1 (x2 - (2 : Int32))).bind fun v8 =>
        some v8)
    else
      if inb (((20 : Int32) + ((2 : Int32) * x1)) + x2) 1385 then
      some (gi ν 314 (((20 : Int32) + ((2 : Int32) * x1)) + x2).toNatClampNeg)
      else none)
  else
    some (-1 : Int32))
set_option maxRecDepth 100000 in
set_option maxHeartbeats 4000000 in
theorem t_Md_of {g : GG} {d : Nat} {ν : Nm} (hd0 : 3 ≤ d) : ∀ (x1 : Int32) (x2 : Int32) (r : Int32), Md_of ν x1 x2 = some r → Z g d (0, 0) mX12_of 333 0 0 0 [(0, .ref 313), (1, .int x1), (2, .int x2)] [] (zem ν) (zF g (some (.int r), zem ν)) := by
  intro x1 x2 r h
  unfold Md_of at h
  refine z_aload_n dX12_of_0 0 rfl ?_
  refine z_iload_n dX12_of_1 1 rfl ?_
  obtain ⟨v1, he1, h⟩ := obind h
  refine y_Vi (M := mX12_of) (Y := mX12_isCord) (d2 := d - 1) (As := [.int x1]) (st := []) dX12_of_2 mlRX12_115 cv_X12_isCord zk_313 (ct_Md_isCord (dle (Nat.le_of_ble_eq_true rfl) hd0) he1) (dps (Nat.le_of_ble_eq_true rfl) hd0) rfl rfl (Nat.le_of_ble_eq_true rfl) ?_
  refine z_if_ne 10 dX12_of_5 rfl (fun hc2 => ?_) (fun hc2 => ?_)
  · replace h := oT hc2 h
    refine z_iload_n dX12_of_10 2 rfl ?_
    refine z_iconst (M := mX12_of) (v := 0) dX12_of_11 rfl ?_
    refine z_iconst (M := mX12_of) (v := 1) dX12_of_12 rfl ?_
    obtain ⟨v3, he3, h⟩ := obind h
    refine y_Si (M := mX12_of) (Y := mX12_isIn) (d2 := d - 1) (As := [.int x2, .int (0 : Int32), .int (1 : Int32)]) (st := []) dX12_of_13 mlRX12_88 cv_X12_isIn (ct_Md_isIn (dle (Nat.le_of_ble_eq_true rfl) hd0) he3) (dps (Nat.le_of_ble_eq_true rfl) hd0) rfl rfl (Nat.le_of_ble_eq_true rfl) ?_
    refine z_if_eq 35 dX12_of_16 rfl (fun hc4 => ?_) (fun hc4 => ?_)
    · replace h := oT hc4 h
      refine z_iload_n dX12_of_35 2 rfl ?_
      refine z_iconst (M := mX12_of) (v := 2) dX12_of_36 rfl ?_
      refine z_iconst (M := mX12_of) (v := 3) dX12_of_37 rfl ?_
      obtain ⟨v5, he5, h⟩ := obind h
      refine y_Si (M := mX12_of) (Y := mX12_isIn) (d2 := d - 1) (As := [.int x2, .int (2 : Int32), .int (3 : Int32)]) (st := []) dX12_of_38 mlRX12_88 cv_X12_isIn (ct_Md_isIn (dle (Nat.le_of_ble_eq_true rfl) hd0) he5) (dps (Nat.le_of_ble_eq_true rfl) hd0) rfl rfl (Nat.le_of_ble_eq_true rfl) ?_
      refine z_if_eq 55 dX12_of_41 rfl (fun hc6 => ?_) (fun hc6 => ?_)
      · replace h := oT hc6 h
        refine z_iload_n dX12_of_55 2 rfl ?_
        refine z_iconst (M := mX12_of) (v := 4) dX12_of_56 rfl ?_
        refine z_icmp_ne 74 dX12_of_57 rfl (fun hc7 => ?_) (fun hc7 => ?_)
        · replace h := oT hc7 h
          refine z_iconst (M := mX12_of) (v := -1) dX12_of_74 rfl ?_
          cases h
          exact z_iret dX12_of_75 rfl
        · replace h := oFn hc7 h
          refine z_aload_n dX12_of_60 0 rfl ?_
          refine y_getR (M := mX12_of) (r := 314) dX12_of_61 zk_313 flRX12_7 fr_10_0.1 (fr_10_0.2 _) ?_
          refine z_bipush (M := mX12_of) (v := 28) dX12_of_64 rfl ?_
          refine y_iald (M := mX12_of) (jj := 28) dX12_of_66 zk_314 rfl rfl ?_
          refine z_iload_n dX12_of_67 1 rfl ?_
          refine z_ishr dX12_of_68 ?_
          refine z_iconst (M := mX12_of) (v := 1) dX12_of_69 rfl ?_
          refine z_iand dX12_of_70 ?_
          refine z_goto 75 dX12_of_71 rfl ?_
          cases h
          exact z_iret dX12_of_75 rfl
      · replace h := oF hc6 h
        refine z_aload_n dX12_of_44 0 rfl ?_
        refine z_iload_n dX12_of_45 1 rfl ?_
        refine z_iload_n dX12_of_46 2 rfl ?_
        refine z_iconst (M := mX12_of) (v := 2) dX12_of_47 rfl ?_
        refine z_isub dX12_of_48 ?_
        obtain ⟨v8, he8, h⟩ := obind h
        refine y_Vi (M := mX12_of) (Y := mX12_get) (d2 := d - 1) (As := [.int x1, .int (x2 - (2 : Int32))]) (st := []) dX12_of_49 mlRX12_96 cv_X12_get zk_313 (ct_Md_get (dle (Nat.le_of_ble_eq_true rfl) hd0) he8) (dps (Nat.le_of_ble_eq_true rfl) hd0) rfl rfl (Nat.le_of_ble_eq_true rfl) ?_
        refine z_goto 75 dX12_of_52 rfl ?_
        cases h
        exact z_iret dX12_of_75 rfl
    · replace h := oF hc4 h
      refine z_aload_n dX12_of_19 0 rfl ?_
      refine y_getR (M := mX12_of) (r := 314) dX12_of_20 zk_313 flRX12_7 fr_10_0.1 (fr_10_0.2 _) ?_
      refine z_bipush (M := mX12_of) (v := 20) dX12_of_23 rfl ?_
      refine z_iconst (M := mX12_of) (v := 2) dX12_of_25 rfl ?_
      refine z_iload_n dX12_of_26 1 rfl ?_
      refine z_imul dX12_of_27 ?_
      refine z_iadd dX12_of_28 ?_
      refine z_iload_n dX12_of_29 2 rfl ?_
      refine z_iadd dX12_of_30 ?_
      obtain ⟨hi9, h⟩ := oif h
      refine y_iald (M := mX12_of) (jj := (((20 : Int32) + ((2 : Int32) * x1)) + x2).toNatClampNeg) dX12_of_31 zk_314 hi9 rfl ?_
      refine z_goto 75 dX12_of_32 rfl ?_
      cases h
      exact z_iret dX12_of_75 rfl
  · replace h := oFn hc2 h
    refine z_iconst (M := mX12_of) (v := -1) dX12_of_8 rfl ?_
    cases h
    exact z_iret dX12_of_9 rfl
theorem ct_Md_of {g : GG} {d : Nat} {x1 : Int32} {x2 : Int32} {ν : Nm} {r : Int32} (hd0 : 3 ≤ d)  (h : Md_of ν x1 x2 = some r) : Ct g d mX12_of [.ref 313, .int x1, .int x2] (zem ν) (some (.int r), zem ν) := y_entry in_X12_of (Nat.le_of_ble_eq_true rfl) rfl (t_Md_of hd0 x1 x2 r h)
-- FuseMinutesModel.is(I)I
theorem dX12_is_0 : decode cX12_is 0 = .ok (.iload_n 1, 1) := by decide +kernel
theorem dX12_is_1 : decode cX12_is 1 = .ok (.iconst 0, 1) := by decide +kernel
theorem dX12_is_2 : decode cX12_is 2 = .ok (.iconst 2, 1) := by decide +kernel
theorem dX12_is_3 : decode cX12_is 3 = .ok (.invokestatic 88, 3) := by decide +kernel
theorem dX12_is_6 : decode cX12_is 6 = .ok (.ifCond .eq 15, 3) := by decide +kernel
theorem dX12_is_9 : decode cX12_is 9 = .ok (.aload_n 0, 1) := by decide +kernel
theorem dX12_is_10 : decode cX12_is 10 = .ok (.getfield 7, 3) := by decide +kernel
theorem dX12_is_13 : decode cX12_is 13 = .ok (.bipush 8, 2) := by decide +kernel
theorem dX12_is_15 : decode cX12_is 15 = .ok (.iload_n 1, 1) := by decide +kernel
theorem dX12_is_16 : decode cX12_is 16 = .ok (.iadd, 1) := by decide +kernel
theorem dX12_is_17 : decode cX12_is 17 = .ok (.iaload, 1) := by decide +kernel
theorem dX12_is_18 : decode cX12_is 18 = .ok (.goto 17, 3) := by decide +kernel
theorem dX12_is_21 : decode cX12_is 21 = .ok (.iload_n 1, 1) := by decide +kernel
theorem dX12_is_22 : decode cX12_is 22 = .ok (.iconst 3, 1) := by decide +kernel
theorem dX12_is_23 : decode cX12_is 23 = .ok (.if_icmp .ne 10, 3) := by decide +kernel
theorem dX12_is_26 : decode cX12_is 26 = .ok (.aload_n 0, 1) := by decide +kernel
theorem dX12_is_27 : decode cX12_is 27 = .ok (.invokevirtual 316, 3) := by decide +kernel
theorem dX12_is_30 : decode cX12_is 30 = .ok (.goto 5, 3) := by decide +kernel
theorem dX12_is_33 : decode cX12_is 33 = .ok (.bipush (-2), 2) := by decide +kernel
theorem dX12_is_35 : decode cX12_is 35 = .ok (.ireturn, 1) := by decide +kernel
def Md_is (ν : Nm) (x1 : Int32) : Option Int32 :=
  (Md_isIn x1 (0 : Int32) (2 : Int32)).bind fun v1 =>
  (if (b2i v1) = 0 then
    (if ¬ x1 = (3 : Int32) then
      some (-2 : Int32)
    else
      (Md_endsNow ν).bind fun v4 =>
      some v4)
  else
    if inb ((8 : Int32) + x1) 1385 then
    some (gi ν 314 ((8 : Int32) + x1).toNatClampNeg)
    else none)
set_option maxRecDepth 100000 in
set_option maxHeartbeats 4000000 in
theorem t_Md_is {g : GG} {d : Nat} {ν : Nm} (hd0 : 3 ≤ d) : ∀ (x1 : Int32) (r : Int32), Md_is ν x1 = some r → Z g d (0, 0) mX12_is 333 0 0 0 [(0, .ref 313), (1, .int x1)] [] (zem ν) (zF g (some (.int r), zem ν)) := by
  intro x1 r h
  unfold Md_is at h
  refine z_iload_n dX12_is_0 1 rfl ?_
  refine z_iconst (M := mX12_is) (v := 0) dX12_is_1 rfl ?_
  refine z_iconst (M := mX12_is) (v := 2) dX12_is_2 rfl ?_
  obtain ⟨v1, he1, h⟩ := obind h
  refine y_Si (M := mX12_is) (Y := mX12_isIn) (d2 := d - 1) (As := [.int x1, .int (0 : Int32), .int (2 : Int32)]) (st := []) dX12_is_3 mlRX12_88 cv_X12_isIn (ct_Md_isIn (dle (Nat.le_of_ble_eq_true rfl) hd0) he1) (dps (Nat.le_of_ble_eq_true rfl) hd0) rfl rfl (Nat.le_of_ble_eq_true rfl) ?_
  refine z_if_eq 21 dX12_is_6 rfl (fun hc2 => ?_) (fun hc2 => ?_)
  · replace h := oT hc2 h
    refine z_iload_n dX12_is_21 1 rfl ?_
    refine z_iconst (M := mX12_is) (v := 3) dX12_is_22 rfl ?_
    refine z_icmp_ne 33 dX12_is_23 rfl (fun hc3 => ?_) (fun hc3 => ?_)
    · replace h := oT hc3 h
      refine z_bipush (M := mX12_is) (v := -2) dX12_is_33 rfl ?_
      cases h
      exact z_iret dX12_is_35 rfl
    · replace h := oFn hc3 h
      refine z_aload_n dX12_is_26 0 rfl ?_
      obtain ⟨v4, he4, h⟩ := obind h
      refine y_Vi (M := mX12_is) (Y := mX12_endsNow) (d2 := d - 1) (As := []) (st := []) dX12_is_27 mlRX12_316 cv_X12_endsNow zk_313 (ct_Md_endsNow (dle (Nat.le_of_ble_eq_true rfl) hd0) he4) (dps (Nat.le_of_ble_eq_true rfl) hd0) rfl rfl (Nat.le_of_ble_eq_true rfl) ?_
      refine z_goto 35 dX12_is_30 rfl ?_
      cases h
      exact z_iret dX12_is_35 rfl
  · replace h := oF hc2 h
    refine z_aload_n dX12_is_9 0 rfl ?_
    refine y_getR (M := mX12_is) (r := 314) dX12_is_10 zk_313 flRX12_7 fr_10_0.1 (fr_10_0.2 _) ?_
    refine z_bipush (M := mX12_is) (v := 8) dX12_is_13 rfl ?_
    refine z_iload_n dX12_is_15 1 rfl ?_
    refine z_iadd dX12_is_16 ?_
    obtain ⟨hi5, h⟩ := oif h
    refine y_iald (M := mX12_is) (jj := ((8 : Int32) + x1).toNatClampNeg) dX12_is_17 zk_314 hi5 rfl ?_
    refine z_goto 35 dX12_is_18 rfl ?_
    cases h
    exact z_iret dX12_is_35 rfl
theorem ct_Md_is {g : GG} {d : Nat} {x1 : Int32} {ν : Nm} {r : Int32} (hd0 : 3 ≤ d)  (h : Md_is ν x1 = some r) : Ct g d mX12_is [.ref 313, .int x1] (zem ν) (some (.int r), zem ν) := y_entry in_X12_is (Nat.le_of_ble_eq_true rfl) rfl (t_Md_is hd0 x1 r h)
-- FuseMinutesModel.entry(II)I
theorem dX12_entry_0 : decode cX12_entry 0 = .ok (.aload_n 0, 1) := by decide +kernel
theorem dX12_entry_1 : decode cX12_entry 1 = .ok (.getfield 7, 3) := by decide +kernel
theorem dX12_entry_4 : decode cX12_entry 4 = .ok (.sipush 1355, 3) := by decide +kernel
theorem dX12_entry_7 : decode cX12_entry 7 = .ok (.iload_n 1, 1) := by decide +kernel
theorem dX12_entry_8 : decode cX12_entry 8 = .ok (.iadd, 1) := by decide +kernel
theorem dX12_entry_9 : decode cX12_entry 9 = .ok (.iaload, 1) := by decide +kernel
theorem dX12_entry_10 : decode cX12_entry 10 = .ok (.istore_n 3, 1) := by decide +kernel
theorem dX12_entry_11 : decode cX12_entry 11 = .ok (.iload_n 2, 1) := by decide +kernel
theorem dX12_entry_12 : decode cX12_entry 12 = .ok (.ifCond .ne 10, 3) := by decide +kernel
theorem dX12_entry_15 : decode cX12_entry 15 = .ok (.iload_n 3, 1) := by decide +kernel
theorem dX12_entry_16 : decode cX12_entry 16 = .ok (.bipush 32, 2) := by decide +kernel
theorem dX12_entry_18 : decode cX12_entry 18 = .ok (.idiv, 1) := by decide +kernel
theorem dX12_entry_19 : decode cX12_entry 19 = .ok (.goto 33, 3) := by decide +kernel
theorem dX12_entry_22 : decode cX12_entry 22 = .ok (.iload_n 2, 1) := by decide +kernel
theorem dX12_entry_23 : decode cX12_entry 23 = .ok (.iconst 1, 1) := by decide +kernel
theorem dX12_entry_24 : decode cX12_entry 24 = .ok (.if_icmp .ne 12, 3) := by decide +kernel
theorem dX12_entry_27 : decode cX12_entry 27 = .ok (.iload_n 3, 1) := by decide +kernel
theorem dX12_entry_28 : decode cX12_entry 28 = .ok (.bipush 8, 2) := by decide +kernel
theorem dX12_entry_30 : decode cX12_entry 30 = .ok (.idiv, 1) := by decide +kernel
theorem dX12_entry_31 : decode cX12_entry 31 = .ok (.iconst 4, 1) := by decide +kernel
theorem dX12_entry_32 : decode cX12_entry 32 = .ok (.irem, 1) := by decide +kernel
theorem dX12_entry_33 : decode cX12_entry 33 = .ok (.goto 19, 3) := by decide +kernel
theorem dX12_entry_36 : decode cX12_entry 36 = .ok (.iload_n 2, 1) := by decide +kernel
theorem dX12_entry_37 : decode cX12_entry 37 = .ok (.iconst 2, 1) := by decide +kernel
theorem dX12_entry_38 : decode cX12_entry 38 = .ok (.if_icmp .ne 11, 3) := by decide +kernel
theorem dX12_entry_41 : decode cX12_entry 41 = .ok (.iload_n 3, 1) := by decide +kernel
theorem dX12_entry_42 : decode cX12_entry 42 = .ok (.iconst 2, 1) := by decide +kernel
theorem dX12_entry_43 : decode cX12_entry 43 = .ok (.idiv, 1) := by decide +kernel
theorem dX12_entry_44 : decode cX12_entry 44 = .ok (.iconst 4, 1) := by decide +kernel
theorem dX12_entry_45 : decode cX12_entry 45 = .ok (.irem, 1) := by decide +kernel
theorem dX12_entry_46 : decode cX12_entry 46 = .ok (.goto 6, 3) := by decide +kernel
theorem dX12_entry_49 : decode cX12_entry 49 = .ok (.iload_n 3, 1) := by decide +kernel
theorem dX12_entry_50 : decode cX12_entry 50 = .ok (.iconst 2, 1) := by decide +kernel
theorem dX12_entry_51 : decode cX12_entry 51 = .ok (.irem, 1) := by decide +kernel
theorem dX12_entry_52 : decode cX12_entry 52 = .ok (.ireturn, 1) := by decide +kernel
def Md_entry (ν : Nm) (x1 : Int32) (x2 : Int32) : Option Int32 :=
  if inb ((1355 : Int32) + x1) 1385 then
  (if ¬ x2 = 0 then
    (if ¬ x2 = (1 : Int32) then
      (if ¬ x2 = (2 : Int32) then
        some ((gi ν 314 ((1355 : Int32) + x1).toNatClampNeg) - (gi ν 314 ((1355 : Int32) + x1).toNatClampNeg) / (2 : Int32) * (2 : Int32))
      else
        some (((gi ν 314 ((1355 : Int32) + x1).toNatClampNeg) / (2 : Int32)) - ((gi ν 314 ((1355 : Int32) + x1).toNatClampNeg) / (2 : Int32)) / (4 : Int32) * (4 : Int32)))
    else
      some (((gi ν 314 ((1355 : Int32) + x1).toNatClampNeg) / (8 : Int32)) - ((gi ν 314 ((1355 : Int32) + x1).toNatClampNeg) / (8 : Int32)) / (4 : Int32) * (4 : Int32)))
  else
    some ((gi ν 314 ((1355 : Int32) + x1).toNatClampNeg) / (32 : Int32)))
  else none
set_option maxRecDepth 100000 in
set_option maxHeartbeats 4000000 in
theorem t_Md_entry {g : GG} {d : Nat} {ν : Nm} (hd0 : 1 ≤ d) : ∀ (x1 : Int32) (x2 : Int32) (r : Int32), Md_entry ν x1 x2 = some r → Z g d (0, 0) mX12_entry 333 0 0 0 [(0, .ref 313), (1, .int x1), (2, .int x2)] [] (zem ν) (zF g (some (.int r), zem ν)) := by
  intro x1 x2 r h
  unfold Md_entry at h
  refine z_aload_n dX12_entry_0 0 rfl ?_
  refine y_getR (M := mX12_entry) (r := 314) dX12_entry_1 zk_313 flRX12_7 fr_10_0.1 (fr_10_0.2 _) ?_
  refine z_sipush (M := mX12_entry) (v := 1355) dX12_entry_4 rfl ?_
  refine z_iload_n dX12_entry_7 1 rfl ?_
  refine z_iadd dX12_entry_8 ?_
  obtain ⟨hi1, h⟩ := oif h
  refine y_iald (M := mX12_entry) (jj := ((1355 : Int32) + x1).toNatClampNeg) dX12_entry_9 zk_314 hi1 rfl ?_
  refine z_istore_n (M := mX12_entry) (lv2 := [(3, .int (gi ν 314 ((1355 : Int32) + x1).toNatClampNeg)), (0, .ref 313), (1, .int x1), (2, .int x2)]) dX12_entry_10 (Nat.le_of_ble_eq_true rfl) rfl ?_
  refine z_iload_n dX12_entry_11 3 rfl ?_
  refine z_if_ne 22 dX12_entry_12 rfl (fun hc2 => ?_) (fun hc2 => ?_)
  · replace h := oT hc2 h
    refine z_iload_n dX12_entry_22 3 rfl ?_
    refine z_iconst (M := mX12_entry) (v := 1) dX12_entry_23 rfl ?_
    refine z_icmp_ne 36 dX12_entry_24 rfl (fun hc3 => ?_) (fun hc3 => ?_)
    · replace h := oT hc3 h
      refine z_iload_n dX12_entry_36 3 rfl ?_
      refine z_iconst (M := mX12_entry) (v := 2) dX12_entry_37 rfl ?_
      refine z_icmp_ne 49 dX12_entry_38 rfl (fun hc4 => ?_) (fun hc4 => ?_)
      · replace h := oT hc4 h
        refine z_iload_n dX12_entry_49 0 rfl ?_
        refine z_iconst (M := mX12_entry) (v := 2) dX12_entry_50 rfl ?_
        refine z_irem dX12_entry_51 (by decide) ?_
        cases h
        exact z_iret dX12_entry_52 rfl
      · replace h := oFn hc4 h
        refine z_iload_n dX12_entry_41 0 rfl ?_
        refine z_iconst (M := mX12_entry) (v := 2) dX12_entry_42 rfl ?_
        refine z_idiv dX12_entry_43 (by decide) ?_
        refine z_iconst (M := mX12_entry) (v := 4) dX12_entry_44 rfl ?_
        refine z_irem dX12_entry_45 (by decide) ?_
        refine z_goto 52 dX12_entry_46 rfl ?_
        cases h
        exact z_iret dX12_entry_52 rfl
    · replace h := oFn hc3 h
      refine z_iload_n dX12_entry_27 0 rfl ?_
      refine z_bipush (M := mX12_entry) (v := 8) dX12_entry_28 rfl ?_
      refine z_idiv dX12_entry_30 (by decide) ?_
      refine z_iconst (M := mX12_entry) (v := 4) dX12_entry_31 rfl ?_
      refine z_irem dX12_entry_32 (by decide) ?_
      refine z_goto 52 dX12_entry_33 rfl ?_
      cases h
      exact z_iret dX12_entry_52 rfl
  · replace h := oFn hc2 h
    refine z_iload_n dX12_entry_15 0 rfl ?_
    refine z_bipush (M := mX12_entry) (v := 32) dX12_entry_16 rfl ?_
    refine z_idiv dX12_entry_18 (by decide) ?_
    refine z_goto 52 dX12_entry_19 rfl ?_
    cases h
    exact z_iret dX12_entry_52 rfl
theorem ct_Md_entry {g : GG} {d : Nat} {x1 : Int32} {x2 : Int32} {ν : Nm} {r : Int32} (hd0 : 1 ≤ d)  (h : Md_entry ν x1 x2 = some r) : Ct g d mX12_entry [.ref 313, .int x1, .int x2] (zem ν) (some (.int r), zem ν) := y_entry in_X12_entry (Nat.le_of_ble_eq_true rfl) rfl (t_Md_entry hd0 x1 x2 r h)
-- FuseMinutesModel.book(II)I
theorem dX12_book_0 : decode cX12_book 0 = .ok (.iload_n 1, 1) := by decide +kernel
theorem dX12_book_1 : decode cX12_book 1 = .ok (.iconst (-1), 1) := by decide +kernel
theorem dX12_book_2 : decode cX12_book 2 = .ok (.if_icmp .ne 11, 3) := by decide +kernel
theorem dX12_book_5 : decode cX12_book 5 = .ok (.aload_n 0, 1) := by decide +kernel
theorem dX12_book_6 : decode cX12_book 6 = .ok (.getfield 7, 3) := by decide +kernel
theorem dX12_book_9 : decode cX12_book 9 = .ok (.bipush 11, 2) := by decide +kernel
theorem dX12_book_11 : decode cX12_book 11 = .ok (.iaload, 1) := by decide +kernel
theorem dX12_book_12 : decode cX12_book 12 = .ok (.ireturn, 1) := by decide +kernel
theorem dX12_book_13 : decode cX12_book 13 = .ok (.iload_n 1, 1) := by decide +kernel
theorem dX12_book_14 : decode cX12_book 14 = .ok (.iconst 0, 1) := by decide +kernel
theorem dX12_book_15 : decode cX12_book 15 = .ok (.aload_n 0, 1) := by decide +kernel
theorem dX12_book_16 : decode cX12_book 16 = .ok (.getfield 7, 3) := by decide +kernel
theorem dX12_book_19 : decode cX12_book 19 = .ok (.bipush 11, 2) := by decide +kernel
theorem dX12_book_21 : decode cX12_book 21 = .ok (.iaload, 1) := by decide +kernel
theorem dX12_book_22 : decode cX12_book 22 = .ok (.iconst 1, 1) := by decide +kernel
theorem dX12_book_23 : decode cX12_book 23 = .ok (.isub, 1) := by decide +kernel
theorem dX12_book_24 : decode cX12_book 24 = .ok (.invokestatic 88, 3) := by decide +kernel
theorem dX12_book_27 : decode cX12_book 27 = .ok (.ifCond .eq 21, 3) := by decide +kernel
theorem dX12_book_30 : decode cX12_book 30 = .ok (.iload_n 2, 1) := by decide +kernel
theorem dX12_book_31 : decode cX12_book 31 = .ok (.iconst 0, 1) := by decide +kernel
theorem dX12_book_32 : decode cX12_book 32 = .ok (.iconst 3, 1) := by decide +kernel
theorem dX12_book_33 : decode cX12_book 33 = .ok (.invokestatic 88, 3) := by decide +kernel
theorem dX12_book_36 : decode cX12_book 36 = .ok (.ifCond .eq 12, 3) := by decide +kernel
theorem dX12_book_39 : decode cX12_book 39 = .ok (.aload_n 0, 1) := by decide +kernel
theorem dX12_book_40 : decode cX12_book 40 = .ok (.iload_n 1, 1) := by decide +kernel
theorem dX12_book_41 : decode cX12_book 41 = .ok (.iload_n 2, 1) := by decide +kernel
theorem dX12_book_42 : decode cX12_book 42 = .ok (.invokevirtual 419, 3) := by decide +kernel
theorem dX12_book_45 : decode cX12_book 45 = .ok (.goto 5, 3) := by decide +kernel
theorem dX12_book_48 : decode cX12_book 48 = .ok (.bipush (-2), 2) := by decide +kernel
theorem dX12_book_50 : decode cX12_book 50 = .ok (.ireturn, 1) := by decide +kernel
def Md_book (ν : Nm) (x1 : Int32) (x2 : Int32) : Option Int32 :=
  (if ¬ x1 = (-1 : Int32) then
    (Md_isIn x1 (0 : Int32) ((gi ν 314 11) - (1 : Int32))).bind fun v2 =>
    (if (b2i v2) = 0 then
      some (-2 : Int32)
    else
      (Md_isIn x2 (0 : Int32) (3 : Int32)).bind fun v4 =>
      (if (b2i v4) = 0 then
        some (-2 : Int32)
      else
        (Md_entry ν x1 x2).bind fun v6 =>
        some v6))
  else
    some (gi ν 314 11))
set_option maxRecDepth 100000 in
set_option maxHeartbeats 4000000 in
theorem t_Md_book {g : GG} {d : Nat} {ν : Nm} (hd0 : 2 ≤ d) : ∀ (x1 : Int32) (x2 : Int32) (r : Int32), Md_book ν x1 x2 = some r → Z g d (0, 0) mX12_book 333 0 0 0 [(0, .ref 313), (1, .int x1), (2, .int x2)] [] (zem ν) (zF g (some (.int r), zem ν)) := by
  intro x1 x2 r h
  unfold Md_book at h
  refine z_iload_n dX12_book_0 1 rfl ?_
  refine z_iconst (M := mX12_book) (v := -1) dX12_book_1 rfl ?_
  refine z_icmp_ne 13 dX12_book_2 rfl (fun hc1 => ?_) (fun hc1 => ?_)
  · replace h := oT hc1 h
    refine z_iload_n dX12_book_13 1 rfl ?_
    refine z_iconst (M := mX12_book) (v := 0) dX12_book_14 rfl ?_
    refine z_aload_n dX12_book_15 0 rfl ?_
    refine y_getR (M := mX12_book) (r := 314) dX12_book_16 zk_313 flRX12_7 fr_10_0.1 (fr_10_0.2 _) ?_
    refine z_bipush (M := mX12_book) (v := 11) dX12_book_19 rfl ?_
    refine y_iald (M := mX12_book) (jj := 11) dX12_book_21 zk_314 rfl rfl ?_
    refine z_iconst (M := mX12_book) (v := 1) dX12_book_22 rfl ?_
    refine z_isub dX12_book_23 ?_
    obtain ⟨v2, he2, h⟩ := obind h
    refine y_Si (M := mX12_book) (Y := mX12_isIn) (d2 := d - 1) (As := [.int x1, .int (0 : Int32), .int ((gi ν 314 11) - (1 : Int32))]) (st := []) dX12_book_24 mlRX12_88 cv_X12_isIn (ct_Md_isIn (dle (Nat.le_of_ble_eq_true rfl) hd0) he2) (dps (Nat.le_of_ble_eq_true rfl) hd0) rfl rfl (Nat.le_of_ble_eq_true rfl) ?_
    refine z_if_eq 48 dX12_book_27 rfl (fun hc3 => ?_) (fun hc3 => ?_)
    · replace h := oT hc3 h
      refine z_bipush (M := mX12_book) (v := -2) dX12_book_48 rfl ?_
      cases h
      exact z_iret dX12_book_50 rfl
    · replace h := oF hc3 h
      refine z_iload_n dX12_book_30 2 rfl ?_
      refine z_iconst (M := mX12_book) (v := 0) dX12_book_31 rfl ?_
      refine z_iconst (M := mX12_book) (v := 3) dX12_book_32 rfl ?_
      obtain ⟨v4, he4, h⟩ := obind h
      refine y_Si (M := mX12_book) (Y := mX12_isIn) (d2 := d - 1) (As := [.int x2, .int (0 : Int32), .int (3 : Int32)]) (st := []) dX12_book_33 mlRX12_88 cv_X12_isIn (ct_Md_isIn (dle (Nat.le_of_ble_eq_true rfl) hd0) he4) (dps (Nat.le_of_ble_eq_true rfl) hd0) rfl rfl (Nat.le_of_ble_eq_true rfl) ?_
      refine z_if_eq 48 dX12_book_36 rfl (fun hc5 => ?_) (fun hc5 => ?_)
      · replace h := oT hc5 h
        refine z_bipush (M := mX12_book) (v := -2) dX12_book_48 rfl ?_
        cases h
        exact z_iret dX12_book_50 rfl
      · replace h := oF hc5 h
        refine z_aload_n dX12_book_39 0 rfl ?_
        refine z_iload_n dX12_book_40 1 rfl ?_
        refine z_iload_n dX12_book_41 2 rfl ?_
        obtain ⟨v6, he6, h⟩ := obind h
        refine y_Vi (M := mX12_book) (Y := mX12_entry) (d2 := d - 1) (As := [.int x1, .int x2]) (st := []) dX12_book_42 mlRX12_419 cv_X12_entry zk_313 (ct_Md_entry (dle (Nat.le_of_ble_eq_true rfl) hd0) he6) (dps (Nat.le_of_ble_eq_true rfl) hd0) rfl rfl (Nat.le_of_ble_eq_true rfl) ?_
        refine z_goto 50 dX12_book_45 rfl ?_
        cases h
        exact z_iret dX12_book_50 rfl
  · replace h := oFn hc1 h
    refine z_aload_n dX12_book_5 0 rfl ?_
    refine y_getR (M := mX12_book) (r := 314) dX12_book_6 zk_313 flRX12_7 fr_10_0.1 (fr_10_0.2 _) ?_
    refine z_bipush (M := mX12_book) (v := 11) dX12_book_9 rfl ?_
    refine y_iald (M := mX12_book) (jj := 11) dX12_book_11 zk_314 rfl rfl ?_
    cases h
    exact z_iret dX12_book_12 rfl
theorem ct_Md_book {g : GG} {d : Nat} {x1 : Int32} {x2 : Int32} {ν : Nm} {r : Int32} (hd0 : 2 ≤ d)  (h : Md_book ν x1 x2 = some r) : Ct g d mX12_book [.ref 313, .int x1, .int x2] (zem ν) (some (.int r), zem ν) := y_entry in_X12_book (Nat.le_of_ble_eq_true rfl) rfl (t_Md_book hd0 x1 x2 r h)
-- FuseMinutesModel.ledger(I)I
theorem dX12_ledger_0 : decode cX12_ledger 0 = .ok (.iload_n 1, 1) := by decide +kernel
theorem dX12_ledger_1 : decode cX12_ledger 1 = .ok (.iconst 0, 1) := by decide +kernel
theorem dX12_ledger_2 : decode cX12_ledger 2 = .ok (.iconst 3, 1) := by decide +kernel
theorem dX12_ledger_3 : decode cX12_ledger 3 = .ok (.invokestatic 88, 3) := by decide +kernel
theorem dX12_ledger_6 : decode cX12_ledger 6 = .ok (.ifCond .ne 6, 3) := by decide +kernel
theorem dX12_ledger_9 : decode cX12_ledger 9 = .ok (.bipush (-2), 2) := by decide +kernel
theorem dX12_ledger_11 : decode cX12_ledger 11 = .ok (.ireturn, 1) := by decide +kernel
theorem dX12_ledger_12 : decode cX12_ledger 12 = .ok (.iconst 0, 1) := by decide +kernel
theorem dX12_ledger_13 : decode cX12_ledger 13 = .ok (.istore_n 2, 1) := by decide +kernel
theorem dX12_ledger_14 : decode cX12_ledger 14 = .ok (.iconst 0, 1) := by decide +kernel
theorem dX12_ledger_15 : decode cX12_ledger 15 = .ok (.istore_n 3, 1) := by decide +kernel
theorem dX12_ledger_16 : decode cX12_ledger 16 = .ok (.iload_n 3, 1) := by decide +kernel
theorem dX12_ledger_17 : decode cX12_ledger 17 = .ok (.aload_n 0, 1) := by decide +kernel
theorem dX12_ledger_18 : decode cX12_ledger 18 = .ok (.getfield 7, 3) := by decide +kernel
theorem dX12_ledger_21 : decode cX12_ledger 21 = .ok (.bipush 11, 2) := by decide +kernel
theorem dX12_ledger_23 : decode cX12_ledger 23 = .ok (.iaload, 1) := by decide +kernel
theorem dX12_ledger_24 : decode cX12_ledger 24 = .ok (.if_icmp .ge 27, 3) := by decide +kernel
theorem dX12_ledger_27 : decode cX12_ledger 27 = .ok (.iload_n 2, 1) := by decide +kernel
theorem dX12_ledger_28 : decode cX12_ledger 28 = .ok (.aload_n 0, 1) := by decide +kernel
theorem dX12_ledger_29 : decode cX12_ledger 29 = .ok (.iload_n 3, 1) := by decide +kernel
theorem dX12_ledger_30 : decode cX12_ledger 30 = .ok (.iconst 2, 1) := by decide +kernel
theorem dX12_ledger_31 : decode cX12_ledger 31 = .ok (.invokevirtual 419, 3) := by decide +kernel
theorem dX12_ledger_34 : decode cX12_ledger 34 = .ok (.iload_n 1, 1) := by decide +kernel
theorem dX12_ledger_35 : decode cX12_ledger 35 = .ok (.if_icmp .ne 7, 3) := by decide +kernel
theorem dX12_ledger_38 : decode cX12_ledger 38 = .ok (.iconst 1, 1) := by decide +kernel
theorem dX12_ledger_39 : decode cX12_ledger 39 = .ok (.goto 4, 3) := by decide +kernel
theorem dX12_ledger_42 : decode cX12_ledger 42 = .ok (.iconst 0, 1) := by decide +kernel
theorem dX12_ledger_43 : decode cX12_ledger 43 = .ok (.iadd, 1) := by decide +kernel
theorem dX12_ledger_44 : decode cX12_ledger 44 = .ok (.istore_n 2, 1) := by decide +kernel
theorem dX12_ledger_45 : decode cX12_ledger 45 = .ok (.iinc 3 1, 3) := by decide +kernel
theorem dX12_ledger_48 : decode cX12_ledger 48 = .ok (.goto (-32), 3) := by decide +kernel
theorem dX12_ledger_51 : decode cX12_ledger 51 = .ok (.iload_n 2, 1) := by decide +kernel
theorem dX12_ledger_52 : decode cX12_ledger 52 = .ok (.ireturn, 1) := by decide +kernel
def Md_ledger_43 (ν : Nm) (k16 : Int32 → Int32 → Int32 → Option Int32) (x1 : Int32) (x3 : Int32) (s0 : Int32) (s1 : Int32) : Option Int32 :=
  k16 x1 (s1 + s0) (x3 + (1 : Int32))
set_option maxRecDepth 100000 in
set_option maxHeartbeats 4000000 in
theorem t_Md_ledger_43 {g : GG} {d : Nat} {ν : Nm} (hd0 : 2 ≤ d) {k16 : Int32 → Int32 → Int32 → Option Int32} (hk16 : ∀ (x1 : Int32) (x2 : Int32) (x3 : Int32) (r : Int32), k16 x1 x2 x3 = some r → Z g d (0, 0) mX12_ledger 333 0 0 16 [(0, .ref 313), (1, .int x1), (2, .int x2), (3, .int x3)] [] (zem ν) (zF g (some (.int r), zem ν))) : ∀ (x1 : Int32) (x3 : Int32) (s0 : Int32) (s1 : Int32) (r : Int32), Md_ledger_43 ν k16 x1 x3 s0 s1 = some r → Z g d (0, 0) mX12_ledger 333 0 0 43 [(0, .ref 313), (1, .int x1), (3, .int x3)] [.int s0, .int s1] (zem ν) (zF g (some (.int r), zem ν)) := by
  intro x1 x3 s0 s1 r h
  unfold Md_ledger_43 at h
  refine z_iadd dX12_ledger_43 ?_
  refine z_istore_n (M := mX12_ledger) (lv2 := [(2, .int (s1 + s0)), (0, .ref 313), (1, .int x1), (3, .int x3)]) dX12_ledger_44 (Nat.le_of_ble_eq_true rfl) rfl ?_
  refine z_iinc (M := mX12_ledger) (v := (x3 + (1 : Int32))) (lv2 := [(3, .int (x3 + (1 : Int32))), (2, .int (s1 + s0)), (0, .ref 313), (1, .int x1)]) dX12_ledger_45 3 rfl rfl (Nat.le_of_ble_eq_true rfl) rfl ?_
  refine z_goto 16 dX12_ledger_48 rfl ?_
  refine z_lv (lv2 := [(0, .ref 313), (1, .int x1), (2, .int (s1 + s0)), (3, .int (x3 + (1 : Int32)))]) [2, 3, 1, 0] rfl ?_
  exact hk16 x1 (s1 + s0) (x3 + (1 : Int32)) _ h
def Md_ledger_16 (ν : Nm) : Nat → Int32 → Int32 → Int32 → Option Int32
  | 0, _, _, _ => none
  | f + 1, x1, x2, x3 =>
    (if (gi ν 314 11) ≤ x3 then
      some x2
    else
      (Md_entry ν x3 (2 : Int32)).bind fun v2 =>
      (if ¬ v2 = x1 then
        Md_ledger_43 ν (Md_ledger_16 ν f) x1 x3 (0 : Int32) x2
      else
        Md_ledger_43 ν (Md_ledger_16 ν f) x1 x3 (1 : Int32) x2))
set_option maxRecDepth 100000 in
set_option maxHeartbeats 4000000 in
theorem t_Md_ledger_16 {g : GG} {d : Nat} {ν : Nm} (hd0 : 2 ≤ d) : ∀ (f : Nat), ∀ (x1 : Int32) (x2 : Int32) (x3 : Int32) (r : Int32), Md_ledger_16 ν f x1 x2 x3 = some r → Z g d (0, 0) mX12_ledger 333 0 0 16 [(0, .ref 313), (1, .int x1), (2, .int x2), (3, .int x3)] [] (zem ν) (zF g (some (.int r), zem ν)) := by
  intro f
  induction f with
  | zero =>
    intro x1 x2 x3 r h
    cases h
  | succ f ih =>
    intro x1 x2 x3 r h
    rw [Md_ledger_16] at h
    refine z_iload_n dX12_ledger_16 3 rfl ?_
    refine z_aload_n dX12_ledger_17 0 rfl ?_
    refine y_getR (M := mX12_ledger) (r := 314) dX12_ledger_18 zk_313 flRX12_7 fr_10_0.1 (fr_10_0.2 _) ?_
    refine z_bipush (M := mX12_ledger) (v := 11) dX12_ledger_21 rfl ?_
    refine y_iald (M := mX12_ledger) (jj := 11) dX12_ledger_23 zk_314 rfl rfl ?_
    refine z_icmp_ge 51 dX12_ledger_24 rfl (fun hc1 => ?_) (fun hc1 => ?_)
    · replace h := oT hc1 h
      refine z_iload_n dX12_ledger_51 2 rfl ?_
      cases h
      exact z_iret dX12_ledger_52 rfl
    · replace h := oF hc1 h
      refine z_iload_n dX12_ledger_27 2 rfl ?_
      refine z_aload_n dX12_ledger_28 0 rfl ?_
      refine z_iload_n dX12_ledger_29 3 rfl ?_
      refine z_iconst (M := mX12_ledger) (v := 2) dX12_ledger_30 rfl ?_
      obtain ⟨v2, he2, h⟩ := obind h
      refine y_Vi (M := mX12_ledger) (Y := mX12_entry) (d2 := d - 1) (As := [.int x3, .int (2 : Int32)]) (st := [.int x2]) dX12_ledger_31 mlRX12_419 cv_X12_entry zk_313 (ct_Md_entry (dle (Nat.le_of_ble_eq_true rfl) hd0) he2) (dps (Nat.le_of_ble_eq_true rfl) hd0) rfl rfl (Nat.le_of_ble_eq_true rfl) ?_
      refine z_iload_n dX12_ledger_34 1 rfl ?_
      refine z_icmp_ne 42 dX12_ledger_35 rfl (fun hc3 => ?_) (fun hc3 => ?_)
      · replace h := oT hc3 h
        refine z_iconst (M := mX12_ledger) (v := 0) dX12_ledger_42 rfl ?_
        refine z_lv (lv2 := [(0, .ref 313), (1, .int x1), (3, .int x3)]) [0, 1, 3] rfl ?_
        exact t_Md_ledger_43 hd0 ih x1 x3 (0 : Int32) x2 _ h
      · replace h := oFn hc3 h
        refine z_iconst (M := mX12_ledger) (v := 1) dX12_ledger_38 rfl ?_
        refine z_goto 43 dX12_ledger_39 rfl ?_
        refine z_lv (lv2 := [(0, .ref 313), (1, .int x1), (3, .int x3)]) [0, 1, 3] rfl ?_
        exact t_Md_ledger_43 hd0 ih x1 x3 (1 : Int32) x2 _ h
def Md_ledger (ν : Nm) (x1 : Int32) : Option Int32 :=
  (Md_isIn x1 (0 : Int32) (3 : Int32)).bind fun v1 =>
  (if ¬ (b2i v1) = 0 then
    Md_ledger_16 ν FU x1 (0 : Int32) (0 : Int32)
  else
    some (-2 : Int32))
set_option maxRecDepth 100000 in
set_option maxHeartbeats 4000000 in
theorem t_Md_ledger {g : GG} {d : Nat} {ν : Nm} (hd0 : 2 ≤ d) : ∀ (x1 : Int32) (r : Int32), Md_ledger ν x1 = some r → Z g d (0, 0) mX12_ledger 333 0 0 0 [(0, .ref 313), (1, .int x1)] [] (zem ν) (zF g (some (.int r), zem ν)) := by
  intro x1 r h
  unfold Md_ledger at h
  refine z_iload_n dX12_ledger_0 1 rfl ?_
  refine z_iconst (M := mX12_ledger) (v := 0) dX12_ledger_1 rfl ?_
  refine z_iconst (M := mX12_ledger) (v := 3) dX12_ledger_2 rfl ?_
  obtain ⟨v1, he1, h⟩ := obind h
  refine y_Si (M := mX12_ledger) (Y := mX12_isIn) (d2 := d - 1) (As := [.int x1, .int (0 : Int32), .int (3 : Int32)]) (st := []) dX12_ledger_3 mlRX12_88 cv_X12_isIn (ct_Md_isIn (dle (Nat.le_of_ble_eq_true rfl) hd0) he1) (dps (Nat.le_of_ble_eq_true rfl) hd0) rfl rfl (Nat.le_of_ble_eq_true rfl) ?_
  refine z_if_ne 12 dX12_ledger_6 rfl (fun hc2 => ?_) (fun hc2 => ?_)
  · replace h := oT hc2 h
    refine z_iconst (M := mX12_ledger) (v := 0) dX12_ledger_12 rfl ?_
    refine z_istore_n (M := mX12_ledger) (lv2 := [(2, .int (0 : Int32)), (0, .ref 313), (1, .int x1)]) dX12_ledger_13 (Nat.le_of_ble_eq_true rfl) rfl ?_
    refine z_iconst (M := mX12_ledger) (v := 0) dX12_ledger_14 rfl ?_
    refine z_istore_n (M := mX12_ledger) (lv2 := [(3, .int (0 : Int32)), (2, .int (0 : Int32)), (0, .ref 313), (1, .int x1)]) dX12_ledger_15 (Nat.le_of_ble_eq_true rfl) rfl ?_
    refine z_lv (lv2 := [(0, .ref 313), (1, .int x1), (2, .int (0 : Int32)), (3, .int (0 : Int32))]) [2, 3, 1, 0] rfl ?_
    exact t_Md_ledger_16 hd0 FU x1 (0 : Int32) (0 : Int32) _ h
  · replace h := oFn hc2 h
    refine z_bipush (M := mX12_ledger) (v := -2) dX12_ledger_9 rfl ?_
    cases h
    exact z_iret dX12_ledger_11 rfl
theorem ct_Md_ledger {g : GG} {d : Nat} {x1 : Int32} {ν : Nm} {r : Int32} (hd0 : 2 ≤ d)  (h : Md_ledger ν x1 = some r) : Ct g d mX12_ledger [.ref 313, .int x1] (zem ν) (some (.int r), zem ν) := y_entry in_X12_ledger (Nat.le_of_ble_eq_true rfl) rfl (t_Md_ledger hd0 x1 r h)
-- FuseMinutesModel.longest()I
theorem dX12_longest_0 : decode cX12_longest 0 = .ok (.iconst (-1), 1) := by decide +kernel
theorem dX12_longest_1 : decode cX12_longest 1 = .ok (.istore_n 1, 1) := by decide +kernel
theorem dX12_longest_2 : decode cX12_longest 2 = .ok (.iconst 0, 1) := by decide +kernel
theorem dX12_longest_3 : decode cX12_longest 3 = .ok (.istore_n 2, 1) := by decide +kernel
theorem dX12_longest_4 : decode cX12_longest 4 = .ok (.iload_n 2, 1) := by decide +kernel
theorem dX12_longest_5 : decode cX12_longest 5 = .ok (.aload_n 0, 1) := by decide +kernel
theorem dX12_longest_6 : decode cX12_longest 6 = .ok (.getfield 7, 3) := by decide +kernel
theorem dX12_longest_9 : decode cX12_longest 9 = .ok (.iconst 0, 1) := by decide +kernel
theorem dX12_longest_10 : decode cX12_longest 10 = .ok (.iaload, 1) := by decide +kernel
theorem dX12_longest_11 : decode cX12_longest 11 = .ok (.if_icmp .ge 35, 3) := by decide +kernel
theorem dX12_longest_14 : decode cX12_longest 14 = .ok (.aload_n 0, 1) := by decide +kernel
theorem dX12_longest_15 : decode cX12_longest 15 = .ok (.iload_n 2, 1) := by decide +kernel
theorem dX12_longest_16 : decode cX12_longest 16 = .ok (.iconst 0, 1) := by decide +kernel
theorem dX12_longest_17 : decode cX12_longest 17 = .ok (.invokevirtual 96, 3) := by decide +kernel
theorem dX12_longest_20 : decode cX12_longest 20 = .ok (.iload_n 1, 1) := by decide +kernel
theorem dX12_longest_21 : decode cX12_longest 21 = .ok (.iconst (-1), 1) := by decide +kernel
theorem dX12_longest_22 : decode cX12_longest 22 = .ok (.if_icmp .ne 7, 3) := by decide +kernel
theorem dX12_longest_25 : decode cX12_longest 25 = .ok (.iconst 0, 1) := by decide +kernel
theorem dX12_longest_26 : decode cX12_longest 26 = .ok (.goto 9, 3) := by decide +kernel
theorem dX12_longest_29 : decode cX12_longest 29 = .ok (.aload_n 0, 1) := by decide +kernel
theorem dX12_longest_30 : decode cX12_longest 30 = .ok (.iload_n 1, 1) := by decide +kernel
theorem dX12_longest_31 : decode cX12_longest 31 = .ok (.iconst 0, 1) := by decide +kernel
theorem dX12_longest_32 : decode cX12_longest 32 = .ok (.invokevirtual 96, 3) := by decide +kernel
theorem dX12_longest_35 : decode cX12_longest 35 = .ok (.if_icmp .le 5, 3) := by decide +kernel
theorem dX12_longest_38 : decode cX12_longest 38 = .ok (.iload_n 2, 1) := by decide +kernel
theorem dX12_longest_39 : decode cX12_longest 39 = .ok (.istore_n 1, 1) := by decide +kernel
theorem dX12_longest_40 : decode cX12_longest 40 = .ok (.iinc 2 1, 3) := by decide +kernel
theorem dX12_longest_43 : decode cX12_longest 43 = .ok (.goto (-39), 3) := by decide +kernel
theorem dX12_longest_46 : decode cX12_longest 46 = .ok (.iload_n 1, 1) := by decide +kernel
theorem dX12_longest_47 : decode cX12_longest 47 = .ok (.ireturn, 1) := by decide +kernel
def Md_longest_40 (ν : Nm) (k4 : Int32 → Int32 → Option Int32) (x1 : Int32) (x2 : Int32) : Option Int32 :=
  k4 x1 (x2 + (1 : Int32))
set_option maxRecDepth 100000 in
set_option maxHeartbeats 4000000 in
theorem t_Md_longest_40 {g : GG} {d : Nat} {ν : Nm} (hd0 : 2 ≤ d) {k4 : Int32 → Int32 → Option Int32} (hk4 : ∀ (x1 : Int32) (x2 : Int32) (r : Int32), k4 x1 x2 = some r → Z g d (0, 0) mX12_longest 333 0 0 4 [(0, .ref 313), (1, .int x1), (2, .int x2)] [] (zem ν) (zF g (some (.int r), zem ν))) : ∀ (x1 : Int32) (x2 : Int32) (r : Int32), Md_longest_40 ν k4 x1 x2 = some r → Z g d (0, 0) mX12_longest 333 0 0 40 [(0, .ref 313), (1, .int x1), (2, .int x2)] [] (zem ν) (zF g (some (.int r), zem ν)) := by
  intro x1 x2 r h
  unfold Md_longest_40 at h
  refine z_iinc (M := mX12_longest) (v := (x2 + (1 : Int32))) (lv2 := [(2, .int (x2 + (1 : Int32))), (0, .ref 313), (1, .int x1)]) dX12_longest_40 2 rfl rfl (Nat.le_of_ble_eq_true rfl) rfl ?_
  refine z_goto 4 dX12_longest_43 rfl ?_
  refine z_lv (lv2 := [(0, .ref 313), (1, .int x1), (2, .int (x2 + (1 : Int32)))]) [1, 2, 0] rfl ?_
  exact hk4 x1 (x2 + (1 : Int32)) _ h
def Md_longest_35 (ν : Nm) (k4 : Int32 → Int32 → Option Int32) (x1 : Int32) (x2 : Int32) (s0 : Int32) (s1 : Int32) : Option Int32 :=
  (if s1 ≤ s0 then
    Md_longest_40 ν k4 x1 x2
  else
    Md_longest_40 ν k4 x2 x2)
set_option maxRecDepth 100000 in
set_option maxHeartbeats 4000000 in
theorem t_Md_longest_35 {g : GG} {d : Nat} {ν : Nm} (hd0 : 2 ≤ d) {k4 : Int32 → Int32 → Option Int32} (hk4 : ∀ (x1 : Int32) (x2 : Int32) (r : Int32), k4 x1 x2 = some r → Z g d (0, 0) mX12_longest 333 0 0 4 [(0, .ref 313), (1, .int x1), (2, .int x2)] [] (zem ν) (zF g (some (.int r), zem ν))) : ∀ (x1 : Int32) (x2 : Int32) (s0 : Int32) (s1 : Int32) (r : Int32), Md_longest_35 ν k4 x1 x2 s0 s1 = some r → Z g d (0, 0) mX12_longest 333 0 0 35 [(0, .ref 313), (1, .int x1), (2, .int x2)] [.int s0, .int s1] (zem ν) (zF g (some (.int r), zem ν)) := by
  intro x1 x2 s0 s1 r h
  unfold Md_longest_35 at h
  refine z_icmp_le 40 dX12_longest_35 rfl (fun hc1 => ?_) (fun hc1 => ?_)
  · replace h := oT hc1 h
    exact t_Md_longest_40 hd0 hk4 x1 x2 _ h
  · replace h := oF hc1 h
    refine z_iload_n dX12_longest_38 2 rfl ?_
    refine z_istore_n (M := mX12_longest) (lv2 := [(1, .int x2), (0, .ref 313), (2, .int x2)]) dX12_longest_39 (Nat.le_of_ble_eq_true rfl) rfl ?_
    refine z_lv (lv2 := [(0, .ref 313), (1, .int x2), (2, .int x2)]) [1, 0, 2] rfl ?_
    exact t_Md_longest_40 hd0 hk4 x2 x2 _ h
def Md_longest_4 (ν : Nm) : Nat → Int32 → Int32 → Option Int32
  | 0, _, _ => none
  | f + 1, x1, x2 =>
    (if (gi ν 314 0) ≤ x2 then
      some x1
    else
      (Md_get ν x2 (0 : Int32)).bind fun v2 =>
      (if ¬ x1 = (-1 : Int32) then
        (Md_get ν x1 (0 : Int32)).bind fun v4 =>
        Md_longest_35 ν (Md_longest_4 ν f) x1 x2 v4 v2
      else
        Md_longest_35 ν (Md_longest_4 ν f) x1 x2 (0 : Int32) v2))
set_option maxRecDepth 100000 in
set_option maxHeartbeats 4000000 in
theorem t_Md_longest_4 {g : GG} {d : Nat} {ν : Nm} (hd0 : 2 ≤ d) : ∀ (f : Nat), ∀ (x1 : Int32) (x2 : Int32) (r : Int32), Md_longest_4 ν f x1 x2 = some r → Z g d (0, 0) mX12_longest 333 0 0 4 [(0, .ref 313), (1, .int x1), (2, .int x2)] [] (zem ν) (zF g (some (.int r), zem ν)) := by
  intro f
  induction f with
  | zero =>
    intro x1 x2 r h
    cases h
  | succ f ih =>
    intro x1 x2 r h
    rw [Md_longest_4] at h
    refine z_iload_n dX12_longest_4 2 rfl ?_
    refine z_aload_n dX12_longest_5 0 rfl ?_
    refine y_getR (M := mX12_longest) (r := 314) dX12_longest_6 zk_313 flRX12_7 fr_10_0.1 (fr_10_0.2 _) ?_
    refine z_iconst (M := mX12_longest) (v := 0) dX12_longest_9 rfl ?_
    refine y_iald (M := mX12_longest) (jj := 0) dX12_longest_10 zk_314 rfl rfl ?_
    refine z_icmp_ge 46 dX12_longest_11 rfl (fun hc1 => ?_) (fun hc1 => ?_)
    · replace h := oT hc1 h
      refine z_iload_n dX12_longest_46 1 rfl ?_
      cases h
      exact z_iret dX12_longest_47 rfl
    · replace h := oF hc1 h
      refine z_aload_n dX12_longest_14 0 rfl ?_
      refine z_iload_n dX12_longest_15 2 rfl ?_
      refine z_iconst (M := mX12_longest) (v := 0) dX12_longest_16 rfl ?_
      obtain ⟨v2, he2, h⟩ := obind h
      refine y_Vi (M := mX12_longest) (Y := mX12_get) (d2 := d - 1) (As := [.int x2, .int (0 : Int32)]) (st := []) dX12_longest_17 mlRX12_96 cv_X12_get zk_313 (ct_Md_get (dle (Nat.le_of_ble_eq_true rfl) hd0) he2) (dps (Nat.le_of_ble_eq_true rfl) hd0) rfl rfl (Nat.le_of_ble_eq_true rfl) ?_
      refine z_iload_n dX12_longest_20 1 rfl ?_
      refine z_iconst (M := mX12_longest) (v := -1) dX12_longest_21 rfl ?_
      refine z_icmp_ne 29 dX12_longest_22 rfl (fun hc3 => ?_) (fun hc3 => ?_)
      · replace h := oT hc3 h
        refine z_aload_n dX12_longest_29 0 rfl ?_
        refine z_iload_n dX12_longest_30 1 rfl ?_
        refine z_iconst (M := mX12_longest) (v := 0) dX12_longest_31 rfl ?_
        obtain ⟨v4, he4, h⟩ := obind h
        refine y_Vi (M := mX12_longest) (Y := mX12_get) (d2 := d - 1) (As := [.int x1, .int (0 : Int32)]) (st := [.int v2]) dX12_longest_32 mlRX12_96 cv_X12_get zk_313 (ct_Md_get (dle (Nat.le_of_ble_eq_true rfl) hd0) he4) (dps (Nat.le_of_ble_eq_true rfl) hd0) rfl rfl (Nat.le_of_ble_eq_true rfl) ?_
        exact t_Md_longest_35 hd0 ih x1 x2 v4 v2 _ h
      · replace h := oFn hc3 h
        refine z_iconst (M := mX12_longest) (v := 0) dX12_longest_25 rfl ?_
        refine z_goto 35 dX12_longest_26 rfl ?_
        exact t_Md_longest_35 hd0 ih x1 x2 (0 : Int32) v2 _ h
def Md_longest (ν : Nm) : Option Int32 :=
  Md_longest_4 ν FU (-1 : Int32) (0 : Int32)
set_option maxRecDepth 100000 in
set_option maxHeartbeats 4000000 in
theorem t_Md_longest {g : GG} {d : Nat} {ν : Nm} (hd0 : 2 ≤ d) : ∀ (r : Int32), Md_longest ν = some r → Z g d (0, 0) mX12_longest 333 0 0 0 [(0, .ref 313)] [] (zem ν) (zF g (some (.int r), zem ν)) := by
  intro r h
  unfold Md_longest at h
  refine z_iconst (M := mX12_longest) (v := -1) dX12_longest_0 rfl ?_
  refine z_istore_n (M := mX12_longest) (lv2 := [(1, .int (-1 : Int32)), (0, .ref 313)]) dX12_longest_1 (Nat.le_of_ble_eq_true rfl) rfl ?_
  refine z_iconst (M := mX12_longest) (v := 0) dX12_longest_2 rfl ?_
  refine z_istore_n (M := mX12_longest) (lv2 := [(2, .int (0 : Int32)), (1, .int (-1 : Int32)), (0, .ref 313)]) dX12_longest_3 (Nat.le_of_ble_eq_true rfl) rfl ?_
  refine z_lv (lv2 := [(0, .ref 313), (1, .int (-1 : Int32)), (2, .int (0 : Int32))]) [2, 1, 0] rfl ?_
  exact t_Md_longest_4 hd0 FU (-1 : Int32) (0 : Int32) _ h
theorem ct_Md_longest {g : GG} {d : Nat} {ν : Nm} {r : Int32} (hd0 : 2 ≤ d)  (h : Md_longest ν = some r) : Ct g d mX12_longest [.ref 313] (zem ν) (some (.int r), zem ν) := y_entry in_X12_longest (Nat.le_of_ble_eq_true rfl) rfl (t_Md_longest hd0 r h)
-- FuseMinutesModel.burning()I
theorem dX12_burning_0 : decode cX12_burning 0 = .ok (.iconst 0, 1) := by decide +kernel
theorem dX12_burning_1 : decode cX12_burning 1 = .ok (.istore_n 1, 1) := by decide +kernel
theorem dX12_burning_2 : decode cX12_burning 2 = .ok (.iconst 0, 1) := by decide +kernel
theorem dX12_burning_3 : decode cX12_burning 3 = .ok (.istore_n 2, 1) := by decide +kernel
theorem dX12_burning_4 : decode cX12_burning 4 = .ok (.iload_n 2, 1) := by decide +kernel
theorem dX12_burning_5 : decode cX12_burning 5 = .ok (.aload_n 0, 1) := by decide +kernel
theorem dX12_burning_6 : decode cX12_burning 6 = .ok (.getfield 7, 3) := by decide +kernel
theorem dX12_burning_9 : decode cX12_burning 9 = .ok (.iconst 0, 1) := by decide +kernel
theorem dX12_burning_10 : decode cX12_burning 10 = .ok (.iaload, 1) := by decide +kernel
theorem dX12_burning_11 : decode cX12_burning 11 = .ok (.if_icmp .ge 28, 3) := by decide +kernel
theorem dX12_burning_14 : decode cX12_burning 14 = .ok (.iload_n 1, 1) := by decide +kernel
theorem dX12_burning_15 : decode cX12_burning 15 = .ok (.aload_n 0, 1) := by decide +kernel
theorem dX12_burning_16 : decode cX12_burning 16 = .ok (.iload_n 2, 1) := by decide +kernel
theorem dX12_burning_17 : decode cX12_burning 17 = .ok (.iconst 1, 1) := by decide +kernel
theorem dX12_burning_18 : decode cX12_burning 18 = .ok (.invokevirtual 96, 3) := by decide +kernel
theorem dX12_burning_21 : decode cX12_burning 21 = .ok (.ifCond .eq 9, 3) := by decide +kernel
theorem dX12_burning_24 : decode cX12_burning 24 = .ok (.iconst 1, 1) := by decide +kernel
theorem dX12_burning_25 : decode cX12_burning 25 = .ok (.iload_n 2, 1) := by decide +kernel
theorem dX12_burning_26 : decode cX12_burning 26 = .ok (.ishl, 1) := by decide +kernel
theorem dX12_burning_27 : decode cX12_burning 27 = .ok (.goto 4, 3) := by decide +kernel
theorem dX12_burning_30 : decode cX12_burning 30 = .ok (.iconst 0, 1) := by decide +kernel
theorem dX12_burning_31 : decode cX12_burning 31 = .ok (.ior, 1) := by decide +kernel
theorem dX12_burning_32 : decode cX12_burning 32 = .ok (.istore_n 1, 1) := by decide +kernel
theorem dX12_burning_33 : decode cX12_burning 33 = .ok (.iinc 2 1, 3) := by decide +kernel
theorem dX12_burning_36 : decode cX12_burning 36 = .ok (.goto (-32), 3) := by decide +kernel
theorem dX12_burning_39 : decode cX12_burning 39 = .ok (.iload_n 1, 1) := by decide +kernel
theorem dX12_burning_40 : decode cX12_burning 40 = .ok (.ireturn, 1) := by decide +kernel
def Md_burning_31 (ν : Nm) (k4 : Int32 → Int32 → Option Int32) (x2 : Int32) (s0 : Int32) (s1 : Int32) : Option Int32 :=
  k4 (s1 ||| s0) (x2 + (1 : Int32))
set_option maxRecDepth 100000 in
set_option maxHeartbeats 4000000 in
theorem t_Md_burning_31 {g : GG} {d : Nat} {ν : Nm} (hd0 : 2 ≤ d) {k4 : Int32 → Int32 → Option Int32} (hk4 : ∀ (x1 : Int32) (x2 : Int32) (r : Int32), k4 x1 x2 = some r → Z g d (0, 0) mX12_burning 333 0 0 4 [(0, .ref 313), (1, .int x1), (2, .int x2)] [] (zem ν) (zF g (some (.int r), zem ν))) : ∀ (x2 : Int32) (s0 : Int32) (s1 : Int32) (r : Int32), Md_burning_31 ν k4 x2 s0 s1 = some r → Z g d (0, 0) mX12_burning 333 0 0 31 [(0, .ref 313), (2, .int x2)] [.int s0, .int s1] (zem ν) (zF g (some (.int r), zem ν)) := by
  intro x2 s0 s1 r h
  unfold Md_burning_31 at h
  refine z_ior dX12_burning_31 ?_
  refine z_istore_n (M := mX12_burning) (lv2 := [(1, .int (s1 ||| s0)), (0, .ref 313), (2, .int x2)]) dX12_burning_32 (Nat.le_of_ble_eq_true rfl) rfl ?_
  refine z_iinc (M := mX12_burning) (v := (x2 + (1 : Int32))) (lv2 := [(2, .int (x2 + (1 : Int32))), (1, .int (s1 ||| s0)), (0, .ref 313)]) dX12_burning_33 2 rfl rfl (Nat.le_of_ble_eq_true rfl) rfl ?_
  refine z_goto 4 dX12_burning_36 rfl ?_
  refine z_lv (lv2 := [(0, .ref 313), (1, .int (s1 ||| s0)), (2, .int (x2 + (1 : Int32)))]) [2, 1, 0] rfl ?_
  exact hk4 (s1 ||| s0) (x2 + (1 : Int32)) _ h
def Md_burning_4 (ν : Nm) : Nat → Int32 → Int32 → Option Int32
  | 0, _, _ => none
  | f + 1, x1, x2 =>
    (if (gi ν 314 0) ≤ x2 then
      some x1
    else
      (Md_get ν x2 (1 : Int32)).bind fun v2 =>
      (if v2 = 0 then
        Md_burning_31 ν (Md_burning_4 ν f) x2 (0 : Int32) x1
      else
        Md_burning_31 ν (Md_burning_4 ν f) x2 ((1 : Int32) <<< (x2 &&& 31)) x1))
set_option maxRecDepth 100000 in
set_option maxHeartbeats 4000000 in
theorem t_Md_burning_4 {g : GG} {d : Nat} {ν : Nm} (hd0 : 2 ≤ d) : ∀ (f : Nat), ∀ (x1 : Int32) (x2 : Int32) (r : Int32), Md_burning_4 ν f x1 x2 = some r → Z g d (0, 0) mX12_burning 333 0 0 4 [(0, .ref 313), (1, .int x1), (2, .int x2)] [] (zem ν) (zF g (some (.int r), zem ν)) := by
  intro f
  induction f with
  | zero =>
    intro x1 x2 r h
    cases h
  | succ f ih =>
    intro x1 x2 r h
    rw [Md_burning_4] at h
    refine z_iload_n dX12_burning_4 2 rfl ?_
    refine z_aload_n dX12_burning_5 0 rfl ?_
    refine y_getR (M := mX12_burning) (r := 314) dX12_burning_6 zk_313 flRX12_7 fr_10_0.1 (fr_10_0.2 _) ?_
    refine z_iconst (M := mX12_burning) (v := 0) dX12_burning_9 rfl ?_
    refine y_iald (M := mX12_burning) (jj := 0) dX12_burning_10 zk_314 rfl rfl ?_
    refine z_icmp_ge 39 dX12_burning_11 rfl (fun hc1 => ?_) (fun hc1 => ?_)
    · replace h := oT hc1 h
      refine z_iload_n dX12_burning_39 1 rfl ?_
      cases h
      exact z_iret dX12_burning_40 rfl
    · replace h := oF hc1 h
      refine z_iload_n dX12_burning_14 1 rfl ?_
      refine z_aload_n dX12_burning_15 0 rfl ?_
      refine z_iload_n dX12_burning_16 2 rfl ?_
      refine z_iconst (M := mX12_burning) (v := 1) dX12_burning_17 rfl ?_
      obtain ⟨v2, he2, h⟩ := obind h
      refine y_Vi (M := mX12_burning) (Y := mX12_get) (d2 := d - 1) (As := [.int x2, .int (1 : Int32)]) (st := [.int x1]) dX12_burning_18 mlRX12_96 cv_X12_get zk_313 (ct_Md_get (dle (Nat.le_of_ble_eq_true rfl) hd0) he2) (dps (Nat.le_of_ble_eq_true rfl) hd0) rfl rfl (Nat.le_of_ble_eq_true rfl) ?_
      refine z_if_eq 30 dX12_burning_21 rfl (fun hc3 => ?_) (fun hc3 => ?_)
      · replace h := oT hc3 h
        refine z_iconst (M := mX12_burning) (v := 0) dX12_burning_30 rfl ?_
        refine z_lv (lv2 := [(0, .ref 313), (2, .int x2)]) [0, 2] rfl ?_
        exact t_Md_burning_31 hd0 ih x2 (0 : Int32) x1 _ h
      · replace h := oF hc3 h
        refine z_iconst (M := mX12_burning) (v := 1) dX12_burning_24 rfl ?_
        refine z_iload_n dX12_burning_25 2 rfl ?_
        refine z_ishl dX12_burning_26 ?_
        refine z_goto 31 dX12_burning_27 rfl ?_
        refine z_lv (lv2 := [(0, .ref 313), (2, .int x2)]) [0, 2] rfl ?_
        exact t_Md_burning_31 hd0 ih x2 ((1 : Int32) <<< (x2 &&& 31)) x1 _ h
def Md_burning (ν : Nm) : Option Int32 :=
  Md_burning_4 ν FU (0 : Int32) (0 : Int32)
set_option maxRecDepth 100000 in
set_option maxHeartbeats 4000000 in
theorem t_Md_burning {g : GG} {d : Nat} {ν : Nm} (hd0 : 2 ≤ d) : ∀ (r : Int32), Md_burning ν = some r → Z g d (0, 0) mX12_burning 333 0 0 0 [(0, .ref 313)] [] (zem ν) (zF g (some (.int r), zem ν)) := by
  intro r h
  unfold Md_burning at h
  refine z_iconst (M := mX12_burning) (v := 0) dX12_burning_0 rfl ?_
  refine z_istore_n (M := mX12_burning) (lv2 := [(1, .int (0 : Int32)), (0, .ref 313)]) dX12_burning_1 (Nat.le_of_ble_eq_true rfl) rfl ?_
  refine z_iconst (M := mX12_burning) (v := 0) dX12_burning_2 rfl ?_
  refine z_istore_n (M := mX12_burning) (lv2 := [(2, .int (0 : Int32)), (1, .int (0 : Int32)), (0, .ref 313)]) dX12_burning_3 (Nat.le_of_ble_eq_true rfl) rfl ?_
  refine z_lv (lv2 := [(0, .ref 313), (1, .int (0 : Int32)), (2, .int (0 : Int32))]) [2, 1, 0] rfl ?_
  exact t_Md_burning_4 hd0 FU (0 : Int32) (0 : Int32) _ h
theorem ct_Md_burning {g : GG} {d : Nat} {ν : Nm} {r : Int32} (hd0 : 2 ≤ d)  (h : Md_burning ν = some r) : Ct g d mX12_burning [.ref 313] (zem ν) (some (.int r), zem ν) := y_entry in_X12_burning (Nat.le_of_ble_eq_true rfl) rfl (t_Md_burning hd0 r h)
-- FuseMinutesModel.dead()I
theorem dX12_dead_0 : decode cX12_dead 0 = .ok (.iconst 0, 1) := by decide +kernel
theorem dX12_dead_1 : decode cX12_dead 1 = .ok (.istore_n 1, 1) := by decide +kernel
theorem dX12_dead_2 : decode cX12_dead 2 = .ok (.iconst 0, 1) := by decide +kernel
theorem dX12_dead_3 : decode cX12_dead 3 = .ok (.istore_n 2, 1) := by decide +kernel
theorem dX12_dead_4 : decode cX12_dead 4 = .ok (.iload_n 2, 1) := by decide +kernel
theorem dX12_dead_5 : decode cX12_dead 5 = .ok (.aload_n 0, 1) := by decide +kernel
theorem dX12_dead_6 : decode cX12_dead 6 = .ok (.getfield 7, 3) := by decide +kernel
theorem dX12_dead_9 : decode cX12_dead 9 = .ok (.iconst 0, 1) := by decide +kernel
theorem dX12_dead_10 : decode cX12_dead 10 = .ok (.iaload, 1) := by decide +kernel
theorem dX12_dead_11 : decode cX12_dead 11 = .ok (.if_icmp .ge 27, 3) := by decide +kernel
theorem dX12_dead_14 : decode cX12_dead 14 = .ok (.iload_n 1, 1) := by decide +kernel
theorem dX12_dead_15 : decode cX12_dead 15 = .ok (.aload_n 0, 1) := by decide +kernel
theorem dX12_dead_16 : decode cX12_dead 16 = .ok (.iload_n 2, 1) := by decide +kernel
theorem dX12_dead_17 : decode cX12_dead 17 = .ok (.invokevirtual 282, 3) := by decide +kernel
theorem dX12_dead_20 : decode cX12_dead 20 = .ok (.ifCond .eq 9, 3) := by decide +kernel
theorem dX12_dead_23 : decode cX12_dead 23 = .ok (.iconst 1, 1) := by decide +kernel
theorem dX12_dead_24 : decode cX12_dead 24 = .ok (.iload_n 2, 1) := by decide +kernel
theorem dX12_dead_25 : decode cX12_dead 25 = .ok (.ishl, 1) := by decide +kernel
theorem dX12_dead_26 : decode cX12_dead 26 = .ok (.goto 4, 3) := by decide +kernel
theorem dX12_dead_29 : decode cX12_dead 29 = .ok (.iconst 0, 1) := by decide +kernel
theorem dX12_dead_30 : decode cX12_dead 30 = .ok (.ior, 1) := by decide +kernel
theorem dX12_dead_31 : decode cX12_dead 31 = .ok (.istore_n 1, 1) := by decide +kernel
theorem dX12_dead_32 : decode cX12_dead 32 = .ok (.iinc 2 1, 3) := by decide +kernel
theorem dX12_dead_35 : decode cX12_dead 35 = .ok (.goto (-31), 3) := by decide +kernel
theorem dX12_dead_38 : decode cX12_dead 38 = .ok (.iload_n 1, 1) := by decide +kernel
theorem dX12_dead_39 : decode cX12_dead 39 = .ok (.ireturn, 1) := by decide +kernel
def Md_dead_30 (ν : Nm) (k4 : Int32 → Int32 → Option Int32) (x2 : Int32) (s0 : Int32) (s1 : Int32) : Option Int32 :=
  k4 (s1 ||| s0) (x2 + (1 : Int32))
set_option maxRecDepth 100000 in
set_option maxHeartbeats 4000000 in
theorem t_Md_dead_30 {g : GG} {d : Nat} {ν : Nm} (hd0 : 3 ≤ d) {k4 : Int32 → Int32 → Option Int32} (hk4 : ∀ (x1 : Int32) (x2 : Int32) (r : Int32), k4 x1 x2 = some r → Z g d (0, 0) mX12_dead 333 0 0 4 [(0, .ref 313), (1, .int x1), (2, .int x2)] [] (zem ν) (zF g (some (.int r), zem ν))) : ∀ (x2 : Int32) (s0 : Int32) (s1 : Int32) (r : Int32), Md_dead_30 ν k4 x2 s0 s1 = some r → Z g d (0, 0) mX12_dead 333 0 0 30 [(0, .ref 313), (2, .int x2)] [.int s0, .int s1] (zem ν) (zF g (some (.int r), zem ν)) := by
  intro x2 s0 s1 r h
  unfold Md_dead_30 at h
  refine z_ior dX12_dead_30 ?_
  refine z_istore_n (M := mX12_dead) (lv2 := [(1, .int (s1 ||| s0)), (0, .ref 313), (2, .int x2)]) dX12_dead_31 (Nat.le_of_ble_eq_true rfl) rfl ?_
  refine z_iinc (M := mX12_dead) (v := (x2 + (1 : Int32))) (lv2 := [(2, .int (x2 + (1 : Int32))), (1, .int (s1 ||| s0)), (0, .ref 313)]) dX12_dead_32 2 rfl rfl (Nat.le_of_ble_eq_true rfl) rfl ?_
  refine z_goto 4 dX12_dead_35 rfl ?_
  refine z_lv (lv2 := [(0, .ref 313), (1, .int (s1 ||| s0)), (2, .int (x2 + (1 : Int32)))]) [2, 1, 0] rfl ?_
  exact hk4 (s1 ||| s0) (x2 + (1 : Int32)) _ h
def Md_dead_4 (ν : Nm) : Nat → Int32 → Int32 → Option Int32
  | 0, _, _ => none
  | f + 1, x1, x2 =>
    (if (gi ν 314 0) ≤ x2 then
      some x1
    else
      (Md_isOut ν x2).bind fun v2 =>
      (if (b2i v2) = 0 then
        Md_dead_30 ν (Md_dead_4 ν f) x2 (0 : Int32) x1
      else
        Md_dead_30 ν (Md_dead_4 ν f) x2 ((1 : Int32) <<< (x2 &&& 31)) x1))
set_option maxRecDepth 100000 in
set_option maxHeartbeats 4000000 in
theorem t_Md_dead_4 {g : GG} {d : Nat} {ν : Nm} (hd0 : 3 ≤ d) : ∀ (f : Nat), ∀ (x1 : Int32) (x2 : Int32) (r : Int32), Md_dead_4 ν f x1 x2 = some r → Z g d (0, 0) mX12_dead 333 0 0 4 [(0, .ref 313), (1, .int x1), (2, .int x2)] [] (zem ν) (zF g (some (.int r), zem ν)) := by
  intro f
  induction f with
  | zero =>
    intro x1 x2 r h
    cases h
  | succ f ih =>
    intro x1 x2 r h
    rw [Md_dead_4] at h
    refine z_iload_n dX12_dead_4 2 rfl ?_
    refine z_aload_n dX12_dead_5 0 rfl ?_
    refine y_getR (M := mX12_dead) (r := 314) dX12_dead_6 zk_313 flRX12_7 fr_10_0.1 (fr_10_0.2 _) ?_
    refine z_iconst (M := mX12_dead) (v := 0) dX12_dead_9 rfl ?_
    refine y_iald (M := mX12_dead) (jj := 0) dX12_dead_10 zk_314 rfl rfl ?_
    refine z_icmp_ge 38 dX12_dead_11 rfl (fun hc1 => ?_) (fun hc1 => ?_)
    · replace h := oT hc1 h
      refine z_iload_n dX12_dead_38 1 rfl ?_
      cases h
      exact z_iret dX12_dead_39 rfl
    · replace h := oF hc1 h
      refine z_iload_n dX12_dead_14 1 rfl ?_
      refine z_aload_n dX12_dead_15 0 rfl ?_
      refine z_iload_n dX12_dead_16 2 rfl ?_
      obtain ⟨v2, he2, h⟩ := obind h
      refine y_Vi (M := mX12_dead) (Y := mX12_isOut) (d2 := d - 1) (As := [.int x2]) (st := [.int x1]) dX12_dead_17 mlRX12_282 cv_X12_isOut zk_313 (ct_Md_isOut (dle (Nat.le_of_ble_eq_true rfl) hd0) he2) (dps (Nat.le_of_ble_eq_true rfl) hd0) rfl rfl (Nat.le_of_ble_eq_true rfl) ?_
      refine z_if_eq 29 dX12_dead_20 rfl (fun hc3 => ?_) (fun hc3 => ?_)
      · replace h := oT hc3 h
        refine z_iconst (M := mX12_dead) (v := 0) dX12_dead_29 rfl ?_
        refine z_lv (lv2 := [(0, .ref 313), (2, .int x2)]) [0, 2] rfl ?_
        exact t_Md_dead_30 hd0 ih x2 (0 : Int32) x1 _ h
      · replace h := oF hc3 h
        refine z_iconst (M := mX12_dead) (v := 1) dX12_dead_23 rfl ?_
        refine z_iload_n dX12_dead_24 2 rfl ?_
        refine z_ishl dX12_dead_25 ?_
        refine z_goto 30 dX12_dead_26 rfl ?_
        refine z_lv (lv2 := [(0, .ref 313), (2, .int x2)]) [0, 2] rfl ?_
        exact t_Md_dead_30 hd0 ih x2 ((1 : Int32) <<< (x2 &&& 31)) x1 _ h
def Md_dead (ν : Nm) : Option Int32 :=
  Md_dead_4 ν FU (0 : Int32) (0 : Int32)
set_option maxRecDepth 100000 in
set_option maxHeartbeats 4000000 in
theorem t_Md_dead {g : GG} {d : Nat} {ν : Nm} (hd0 : 3 ≤ d) : ∀ (r : Int32), Md_dead ν = some r → Z g d (0, 0) mX12_dead 333 0 0 0 [(0, .ref 313)] [] (zem ν) (zF g (some (.int r), zem ν)) := by
  intro r h
  unfold Md_dead at h
  refine z_iconst (M := mX12_dead) (v := 0) dX12_dead_0 rfl ?_
  refine z_istore_n (M := mX12_dead) (lv2 := [(1, .int (0 : Int32)), (0, .ref 313)]) dX12_dead_1 (Nat.le_of_ble_eq_true rfl) rfl ?_
  refine z_iconst (M := mX12_dead) (v := 0) dX12_dead_2 rfl ?_
  refine z_istore_n (M := mX12_dead) (lv2 := [(2, .int (0 : Int32)), (1, .int (0 : Int32)), (0, .ref 313)]) dX12_dead_3 (Nat.le_of_ble_eq_true rfl) rfl ?_
  refine z_lv (lv2 := [(0, .ref 313), (1, .int (0 : Int32)), (2, .int (0 : Int32))]) [2, 1, 0] rfl ?_
  exact t_Md_dead_4 hd0 FU (0 : Int32) (0 : Int32) _ h
theorem ct_Md_dead {g : GG} {d : Nat} {ν : Nm} {r : Int32} (hd0 : 3 ≤ d)  (h : Md_dead ν = some r) : Ct g d mX12_dead [.ref 313] (zem ν) (some (.int r), zem ν) := y_entry in_X12_dead (Nat.le_of_ble_eq_true rfl) rfl (t_Md_dead hd0 r h)
-- FuseMinutesModel.out(I)I
theorem dX12_out_0 : decode cX12_out 0 = .ok (.aload_n 0, 1) := by decide +kernel
theorem dX12_out_1 : decode cX12_out 1 = .ok (.iload_n 1, 1) := by decide +kernel
theorem dX12_out_2 : decode cX12_out 2 = .ok (.invokevirtual 115, 3) := by decide +kernel
theorem dX12_out_5 : decode cX12_out 5 = .ok (.ifCond .ne 7, 3) := by decide +kernel
theorem dX12_out_8 : decode cX12_out 8 = .ok (.iconst (-1), 1) := by decide +kernel
theorem dX12_out_9 : decode cX12_out 9 = .ok (.goto 35, 3) := by decide +kernel
theorem dX12_out_12 : decode cX12_out 12 = .ok (.aload_n 0, 1) := by decide +kernel
theorem dX12_out_13 : decode cX12_out 13 = .ok (.iload_n 1, 1) := by decide +kernel
theorem dX12_out_14 : decode cX12_out 14 = .ok (.invokevirtual 282, 3) := by decide +kernel
theorem dX12_out_17 : decode cX12_out 17 = .ok (.ifCond .eq 7, 3) := by decide +kernel
theorem dX12_out_20 : decode cX12_out 20 = .ok (.iconst 0, 1) := by decide +kernel
theorem dX12_out_21 : decode cX12_out 21 = .ok (.goto 23, 3) := by decide +kernel
theorem dX12_out_24 : decode cX12_out 24 = .ok (.aload_n 0, 1) := by decide +kernel
theorem dX12_out_25 : decode cX12_out 25 = .ok (.iload_n 1, 1) := by decide +kernel
theorem dX12_out_26 : decode cX12_out 26 = .ok (.invokevirtual 333, 3) := by decide +kernel
theorem dX12_out_29 : decode cX12_out 29 = .ok (.ldc_w 332, 3) := by decide +kernel
theorem dX12_out_32 : decode cX12_out 32 = .ok (.if_icmp .ne 7, 3) := by decide +kernel
theorem dX12_out_35 : decode cX12_out 35 = .ok (.iconst (-1), 1) := by decide +kernel
theorem dX12_out_36 : decode cX12_out 36 = .ok (.goto 8, 3) := by decide +kernel
theorem dX12_out_39 : decode cX12_out 39 = .ok (.aload_n 0, 1) := by decide +kernel
theorem dX12_out_40 : decode cX12_out 40 = .ok (.iload_n 1, 1) := by decide +kernel
theorem dX12_out_41 : decode cX12_out 41 = .ok (.invokevirtual 333, 3) := by decide +kernel
theorem dX12_out_44 : decode cX12_out 44 = .ok (.ireturn, 1) := by decide +kernel
def Md_out (ν : Nm) (x1 : Int32) : Option Int32 :=
  (Md_isCord ν x1).bind fun v1 =>
  (if ¬ (b2i v1) = 0 then
    (Md_isOut ν x1).bind fun v3 =>
    (if (b2i v3) = 0 then
      (Md_outIn ν x1).bind fun v5 =>
      (if ¬ v5 = (1000000 : Int32) then
        (Md_outIn ν x1).bind fun v7 =>
        some v7
      else
        some (-1 : Int32))
    else
      some (0 : Int32))
  else
    some (-1 : Int32))
set_option maxRecDepth 100000 in
set_option maxHeartbeats 4000000 in
theorem t_Md_out {g : GG} {d : Nat} {ν : Nm} (hd0 : 3 ≤ d) : ∀ (x1 : Int32) (r : Int32), Md_out ν x1 = some r → Z g d (0, 0) mX12_out 333 0 0 0 [(0, .ref 313), (1, .int x1)] [] (zem ν) (zF g (some (.int r), zem ν)) := by
  intro x1 r h
  unfold Md_out at h
  refine z_aload_n dX12_out_0 0 rfl ?_
  refine z_iload_n dX12_out_1 1 rfl ?_
  obtain ⟨v1, he1, h⟩ := obind h
  refine y_Vi (M := mX12_out) (Y := mX12_isCord) (d2 := d - 1) (As := [.int x1]) (st := []) dX12_out_2 mlRX12_115 cv_X12_isCord zk_313 (ct_Md_isCord (dle (Nat.le_of_ble_eq_true rfl) hd0) he1) (dps (Nat.le_of_ble_eq_true rfl) hd0) rfl rfl (Nat.le_of_ble_eq_true rfl) ?_
  refine z_if_ne 12 dX12_out_5 rfl (fun hc2 => ?_) (fun hc2 => ?_)
  · replace h := oT hc2 h
    refine z_aload_n dX12_out_12 0 rfl ?_
    refine z_iload_n dX12_out_13 1 rfl ?_
    obtain ⟨v3, he3, h⟩ := obind h
    refine y_Vi (M := mX12_out) (Y := mX12_isOut) (d2 := d - 1) (As := [.int x1]) (st := []) dX12_out_14 mlRX12_282 cv_X12_isOut zk_313 (ct_Md_isOut (dle (Nat.le_of_ble_eq_true rfl) hd0) he3) (dps (Nat.le_of_ble_eq_true rfl) hd0) rfl rfl (Nat.le_of_ble_eq_true rfl) ?_
    refine z_if_eq 24 dX12_out_17 rfl (fun hc4 => ?_) (fun hc4 => ?_)
    · replace h := oT hc4 h
      refine z_aload_n dX12_out_24 0 rfl ?_
      refine z_iload_n dX12_out_25 1 rfl ?_
      obtain ⟨v5, he5, h⟩ := obind h
      refine y_Vi (M := mX12_out) (Y := mX12_outIn) (d2 := d - 1) (As := [.int x1]) (st := []) dX12_out_26 mlRX12_333 cv_X12_outIn zk_313 (ct_Md_outIn (dle (Nat.le_of_ble_eq_true rfl) hd0) he5) (dps (Nat.le_of_ble_eq_true rfl) hd0) rfl rfl (Nat.le_of_ble_eq_true rfl) ?_
      refine z_ldcw dX12_out_29 csRX12_332 ?_
      refine z_icmp_ne 39 dX12_out_32 rfl (fun hc6 => ?_) (fun hc6 => ?_)
      · replace h := oT hc6 h
        refine z_aload_n dX12_out_39 0 rfl ?_
        refine z_iload_n dX12_out_40 1 rfl ?_
        obtain ⟨v7, he7, h⟩ := obind h
        refine y_Vi (M := mX12_out) (Y := mX12_outIn) (d2 := d - 1) (As := [.int x1]) (st := []) dX12_out_41 mlRX12_333 cv_X12_outIn zk_313 (ct_Md_outIn (dle (Nat.le_of_ble_eq_true rfl) hd0) he7) (dps (Nat.le_of_ble_eq_true rfl) hd0) rfl rfl (Nat.le_of_ble_eq_true rfl) ?_
        cases h
        exact z_iret dX12_out_44 rfl
      · replace h := oFn hc6 h
        refine z_iconst (M := mX12_out) (v := -1) dX12_out_35 rfl ?_
        refine z_goto 44 dX12_out_36 rfl ?_
        cases h
        exact z_iret dX12_out_44 rfl
    · replace h := oF hc4 h
      refine z_iconst (M := mX12_out) (v := 0) dX12_out_20 rfl ?_
      refine z_goto 44 dX12_out_21 rfl ?_
      cases h
      exact z_iret dX12_out_44 rfl
  · replace h := oFn hc2 h
    refine z_iconst (M := mX12_out) (v := -1) dX12_out_8 rfl ?_
    refine z_goto 44 dX12_out_9 rfl ?_
    cases h
    exact z_iret dX12_out_44 rfl
theorem ct_Md_out {g : GG} {d : Nat} {x1 : Int32} {ν : Nm} {r : Int32} (hd0 : 3 ≤ d)  (h : Md_out ν x1 = some r) : Ct g d mX12_out [.ref 313, .int x1] (zem ν) (some (.int r), zem ν) := y_entry in_X12_out (Nat.le_of_ble_eq_true rfl) rfl (t_Md_out hd0 x1 r h)
-- FuseMinutesModel.layFirst(I)V
theorem dX12_layFirst_0 : decode cX12_layFirst 0 = .ok (.aload_n 0, 1) := by decide +kernel
theorem dX12_layFirst_1 : decode cX12_layFirst 1 = .ok (.getfield 50, 3) := by decide +kernel
theorem dX12_layFirst_4 : decode cX12_layFirst 4 = .ok (.iconst 0, 1) := by decide +kernel
theorem dX12_layFirst_5 : decode cX12_layFirst 5 = .ok (.iconst 0, 1) := by decide +kernel
theorem dX12_layFirst_6 : decode cX12_layFirst 6 = .ok (.iastore, 1) := by decide +kernel
theorem dX12_layFirst_7 : decode cX12_layFirst 7 = .ok (.aload_n 0, 1) := by decide +kernel
theorem dX12_layFirst_8 : decode cX12_layFirst 8 = .ok (.getfield 53, 3) := by decide +kernel
theorem dX12_layFirst_11 : decode cX12_layFirst 11 = .ok (.iconst 0, 1) := by decide +kernel
theorem dX12_layFirst_12 : decode cX12_layFirst 12 = .ok (.iconst 0, 1) := by decide +kernel
theorem dX12_layFirst_13 : decode cX12_layFirst 13 = .ok (.iastore, 1) := by decide +kernel
theorem dX12_layFirst_14 : decode cX12_layFirst 14 = .ok (.iconst 0, 1) := by decide +kernel
theorem dX12_layFirst_15 : decode cX12_layFirst 15 = .ok (.istore_n 2, 1) := by decide +kernel
theorem dX12_layFirst_16 : decode cX12_layFirst 16 = .ok (.iload_n 2, 1) := by decide +kernel
theorem dX12_layFirst_17 : decode cX12_layFirst 17 = .ok (.iconst 4, 1) := by decide +kernel
theorem dX12_layFirst_18 : decode cX12_layFirst 18 = .ok (.if_icmp .ge 49, 3) := by decide +kernel
theorem dX12_layFirst_21 : decode cX12_layFirst 21 = .ok (.aload_n 0, 1) := by decide +kernel
theorem dX12_layFirst_22 : decode cX12_layFirst 22 = .ok (.getfield 56, 3) := by decide +kernel
theorem dX12_layFirst_25 : decode cX12_layFirst 25 = .ok (.iload_n 2, 1) := by decide +kernel
theorem dX12_layFirst_26 : decode cX12_layFirst 26 = .ok (.iload_n 2, 1) := by decide +kernel
theorem dX12_layFirst_27 : decode cX12_layFirst 27 = .ok (.aload_n 0, 1) := by decide +kernel
theorem dX12_layFirst_28 : decode cX12_layFirst 28 = .ok (.getfield 7, 3) := by decide +kernel
theorem dX12_layFirst_31 : decode cX12_layFirst 31 = .ok (.iconst 0, 1) := by decide +kernel
theorem dX12_layFirst_32 : decode cX12_layFirst 32 = .ok (.iaload, 1) := by decide +kernel
theorem dX12_layFirst_33 : decode cX12_layFirst 33 = .ok (.if_icmp .ge 19, 3) := by decide +kernel
theorem dX12_layFirst_36 : decode cX12_layFirst 36 = .ok (.iload_n 1, 1) := by decide +kernel
theorem dX12_layFirst_37 : decode cX12_layFirst 37 = .ok (.iload_n 2, 1) := by decide +kernel
theorem dX12_layFirst_38 : decode cX12_layFirst 38 = .ok (.invokestatic 92, 3) := by decide +kernel
theorem dX12_layFirst_41 : decode cX12_layFirst 41 = .ok (.ifCond .eq 11, 3) := by decide +kernel
theorem dX12_layFirst_44 : decode cX12_layFirst 44 = .ok (.aload_n 0, 1) := by decide +kernel
theorem dX12_layFirst_45 : decode cX12_layFirst 45 = .ok (.iload_n 2, 1) := by decide +kernel
theorem dX12_layFirst_46 : decode cX12_layFirst 46 = .ok (.invokevirtual 108, 3) := by decide +kernel
theorem dX12_layFirst_49 : decode cX12_layFirst 49 = .ok (.goto 4, 3) := by decide +kernel
theorem dX12_layFirst_52 : decode cX12_layFirst 52 = .ok (.iconst 0, 1) := by decide +kernel
theorem dX12_layFirst_53 : decode cX12_layFirst 53 = .ok (.iastore, 1) := by decide +kernel
theorem dX12_layFirst_54 : decode cX12_layFirst 54 = .ok (.aload_n 0, 1) := by decide +kernel
theorem dX12_layFirst_55 : decode cX12_layFirst 55 = .ok (.getfield 59, 3) := by decide +kernel
theorem dX12_layFirst_58 : decode cX12_layFirst 58 = .ok (.iload_n 2, 1) := by decide +kernel
theorem dX12_layFirst_59 : decode cX12_layFirst 59 = .ok (.iconst 0, 1) := by decide +kernel
theorem dX12_layFirst_60 : decode cX12_layFirst 60 = .ok (.iastore, 1) := by decide +kernel
theorem dX12_layFirst_61 : decode cX12_layFirst 61 = .ok (.iinc 2 1, 3) := by decide +kernel
theorem dX12_layFirst_64 : decode cX12_layFirst 64 = .ok (.goto (-48), 3) := by decide +kernel
theorem dX12_layFirst_67 : decode cX12_layFirst 67 = .ok (.return_, 1) := by decide +kernel
def Md_layFirst_53 (k16 : Int32 → Int32 → Nm → Option Nm) (x1 : Int32) (x2 : Int32) (s0 : Int32) (s1 : Int32) (ν : Nm) : Option Nm :=
  if inb s1 24 then
  if inb x2 24 then
  k16 x1 (x2 + (1 : Int32)) (si (si ν 325 s1.toNatClampNeg s0) 326 x2.toNatClampNeg (0 : Int32))
  else none
  else none
set_option maxRecDepth 100000 in
set_option maxHeartbeats 4000000 in
theorem t_Md_layFirst_53 {g : GG} {d : Nat} (hd0 : 2 ≤ d) {k16 : Int32 → Int32 → Nm → Option Nm} (hk16 : ∀ (x1 : Int32) (x2 : Int32) (ν : Nm) (r : Nm), k16 x1 x2 ν = some r → Z g d (0, 0) mX12_layFirst 333 0 0 16 [(0, .ref 313), (1, .int x1), (2, .int x2)] [] (zem ν) (zF g (none, zem r))) : ∀ (x1 : Int32) (x2 : Int32) (s0 : Int32) (s1 : Int32) (ν : Nm) (r : Nm), Md_layFirst_53 k16 x1 x2 s0 s1 ν = some r → Z g d (0, 0) mX12_layFirst 333 0 0 53 [(0, .ref 313), (1, .int x1), (2, .int x2)] [.int s0, .int s1, .ref 325] (zem ν) (zF g (none, zem r)) := by
  intro x1 x2 s0 s1 ν r h
  unfold Md_layFirst_53 at h
  obtain ⟨hi1, h⟩ := oif h
  refine y_iast (M := mX12_layFirst) (jj := s1.toNatClampNeg) dX12_layFirst_53 zk_325 hi1 rfl ?_
  refine z_aload_n dX12_layFirst_54 0 rfl ?_
  refine y_getR (M := mX12_layFirst) (r := 326) dX12_layFirst_55 zk_313 flRX12_59 fr_10_29.1 (fr_10_29.2 _) ?_
  refine z_iload_n dX12_layFirst_58 2 rfl ?_
  refine z_iconst (M := mX12_layFirst) (v := 0) dX12_layFirst_59 rfl ?_
  obtain ⟨hi2, h⟩ := oif h
  refine y_iast (M := mX12_layFirst) (jj := x2.toNatClampNeg) dX12_layFirst_60 zk_326 hi2 rfl ?_
  refine z_iinc (M := mX12_layFirst) (v := (x2 + (1 : Int32))) (lv2 := [(2, .int (x2 + (1 : Int32))), (0, .ref 313), (1, .int x1)]) dX12_layFirst_61 2 rfl rfl (Nat.le_of_ble_eq_true rfl) rfl ?_
  refine z_goto 16 dX12_layFirst_64 rfl ?_
  refine z_lv (lv2 := [(0, .ref 313), (1, .int x1), (2, .int (x2 + (1 : Int32)))]) [1, 2, 0] rfl ?_
  exact hk16 x1 (x2 + (1 : Int32)) (si (si ν 325 s1.toNatClampNeg s0) 326 x2.toNatClampNeg (0 : Int32)) _ h
def Md_layFirst_52 (k16 : Int32 → Int32 → Nm → Option Nm) (x1 : Int32) (x2 : Int32) (s0 : Int32) (ν : Nm) : Option Nm :=
  Md_layFirst_53 k16 x1 x2 (0 : Int32) s0 ν
set_option maxRecDepth 100000 in
set_option maxHeartbeats 4000000 in
theorem t_Md_layFirst_52 {g : GG} {d : Nat} (hd0 : 2 ≤ d) {k16 : Int32 → Int32 → Nm → Option Nm} (hk16 : ∀ (x1 : Int32) (x2 : Int32) (ν : Nm) (r : Nm), k16 x1 x2 ν = some r → Z g d (0, 0) mX12_layFirst 333 0 0 16 [(0, .ref 313), (1, .int x1), (2, .int x2)] [] (zem ν) (zF g (none, zem r))) : ∀ (x1 : Int32) (x2 : Int32) (s0 : Int32) (ν : Nm) (r : Nm), Md_layFirst_52 k16 x1 x2 s0 ν = some r → Z g d (0, 0) mX12_layFirst 333 0 0 52 [(0, .ref 313), (1, .int x1), (2, .int x2)] [.int s0, .ref 325] (zem ν) (zF g (none, zem r)) := by
  intro x1 x2 s0 ν r h
  unfold Md_layFirst_52 at h
  refine z_iconst (M := mX12_layFirst) (v := 0) dX12_layFirst_52 rfl ?_
  exact t_Md_layFirst_53 hd0 hk16 x1 x2 (0 : Int32) s0 ν _ h
def Md_layFirst_16 : Nat → Int32 → Int32 → Nm → Option Nm
  | 0, _, _, _ => none
  | f + 1, x1, x2, ν =>
    (if (4 : Int32) ≤ x2 then
      some ν
    else
      (if (gi ν 314 0) ≤ x2 then
        Md_layFirst_52 (Md_layFirst_16 f) x1 x2 x2 ν
      else
        (Md_has x1 x2).bind fun v3 =>
        (if (b2i v3) = 0 then
          Md_layFirst_52 (Md_layFirst_16 f) x1 x2 x2 ν
        else
          (Md_full ν x2).bind fun v5 =>
          Md_layFirst_53 (Md_layFirst_16 f) x1 x2 v5 x2 ν)))
set_option maxRecDepth 100000 in
set_option maxHeartbeats 4000000 in
theorem t_Md_layFirst_16 {g : GG} {d : Nat} (hd0 : 2 ≤ d) : ∀ (f : Nat), ∀ (x1 : Int32) (x2 : Int32) (ν : Nm) (r : Nm), Md_layFirst_16 f x1 x2 ν = some r → Z g d (0, 0) mX12_layFirst 333 0 0 16 [(0, .ref 313), (1, .int x1), (2, .int x2)] [] (zem ν) (zF g (none, zem r)) := by
  intro f
  induction f with
  | zero =>
    intro x1 x2 ν r h
    cases h
  | succ f ih =>
    intro x1 x2 ν r h
    rw [Md_layFirst_16] at h
    refine z_iload_n dX12_layFirst_16 2 rfl ?_
    refine z_iconst (M := mX12_layFirst) (v := 4) dX12_layFirst_17 rfl ?_
    refine z_icmp_ge 67 dX12_layFirst_18 rfl (fun hc1 => ?_) (fun hc1 => ?_)
    · replace h := oT hc1 h
      cases h
      exact z_vret dX12_layFirst_67 rfl
    · replace h := oF hc1 h
      refine z_aload_n dX12_layFirst_21 0 rfl ?_
      refine y_getR (M := mX12_layFirst) (r := 325) dX12_layFirst_22 zk_313 flRX12_56 fr_10_28.1 (fr_10_28.2 _) ?_
      refine z_iload_n dX12_layFirst_25 2 rfl ?_
      refine z_iload_n dX12_layFirst_26 2 rfl ?_
      refine z_aload_n dX12_layFirst_27 0 rfl ?_
      refine y_getR (M := mX12_layFirst) (r := 314) dX12_layFirst_28 zk_313 flRX12_7 fr_10_0.1 (fr_10_0.2 _) ?_
      refine z_iconst (M := mX12_layFirst) (v := 0) dX12_layFirst_31 rfl ?_
      refine y_iald (M := mX12_layFirst) (jj := 0) dX12_layFirst_32 zk_314 rfl rfl ?_
      refine z_icmp_ge 52 dX12_layFirst_33 rfl (fun hc2 => ?_) (fun hc2 => ?_)
      · replace h := oT hc2 h
        exact t_Md_layFirst_52 hd0 ih x1 x2 x2 ν _ h
      · replace h := oF hc2 h
        refine z_iload_n dX12_layFirst_36 1 rfl ?_
        refine z_iload_n dX12_layFirst_37 2 rfl ?_
        obtain ⟨v3, he3, h⟩ := obind h
        refine y_Si (M := mX12_layFirst) (Y := mX12_has) (d2 := d - 1) (As := [.int x1, .int x2]) (st := [.int x2, .ref 325]) dX12_layFirst_38 mlRX12_92 cv_X12_has (ct_Md_has (dle (Nat.le_of_ble_eq_true rfl) hd0) he3) (dps (Nat.le_of_ble_eq_true rfl) hd0) rfl rfl (Nat.le_of_ble_eq_true rfl) ?_
        refine z_if_eq 52 dX12_layFirst_41 rfl (fun hc4 => ?_) (fun hc4 => ?_)
        · replace h := oT hc4 h
          exact t_Md_layFirst_52 hd0 ih x1 x2 x2 ν _ h
        · replace h := oF hc4 h
          refine z_aload_n dX12_layFirst_44 0 rfl ?_
          refine z_iload_n dX12_layFirst_45 2 rfl ?_
          obtain ⟨v5, he5, h⟩ := obind h
          refine y_Vi (M := mX12_layFirst) (Y := mX12_full) (d2 := d - 1) (As := [.int x2]) (st := [.int x2, .ref 325]) dX12_layFirst_46 mlRX12_108 cv_X12_full zk_313 (ct_Md_full (dle (Nat.le_of_ble_eq_true rfl) hd0) he5) (dps (Nat.le_of_ble_eq_true rfl) hd0) rfl rfl (Nat.le_of_ble_eq_true rfl) ?_
          refine z_goto 53 dX12_layFirst_49 rfl ?_
          exact t_Md_layFirst_53 hd0 ih x1 x2 v5 x2 ν _ h
def Md_layFirst (x1 : Int32) (ν : Nm) : Option Nm :=
  Md_layFirst_16 FU x1 (0 : Int32) (si (si ν 323 0 (0 : Int32)) 324 0 (0 : Int32))
set_option maxRecDepth 100000 in
set_option maxHeartbeats 4000000 in
theorem t_Md_layFirst {g : GG} {d : Nat} (hd0 : 2 ≤ d) : ∀ (x1 : Int32) (ν : Nm) (r : Nm), Md_layFirst x1 ν = some r → Z g d (0, 0) mX12_layFirst 333 0 0 0 [(0, .ref 313), (1, .int x1)] [] (zem ν) (zF g (none, zem r)) := by
  intro x1 ν r h
  unfold Md_layFirst at h
  refine z_aload_n dX12_layFirst_0 0 rfl ?_
  refine y_getR (M := mX12_layFirst) (r := 323) dX12_layFirst_1 zk_313 flRX12_50 fr_10_26.1 (fr_10_26.2 _) ?_
  refine z_iconst (M := mX12_layFirst) (v := 0) dX12_layFirst_4 rfl ?_
  refine z_iconst (M := mX12_layFirst) (v := 0) dX12_layFirst_5 rfl ?_
  refine y_iast (M := mX12_layFirst) (jj := 0) dX12_layFirst_6 zk_323 rfl rfl ?_
  refine z_aload_n dX12_layFirst_7 0 rfl ?_
  refine y_getR (M := mX12_layFirst) (r := 324) dX12_layFirst_8 zk_313 flRX12_53 fr_10_27.1 (fr_10_27.2 _) ?_
  refine z_iconst (M := mX12_layFirst) (v := 0) dX12_layFirst_11 rfl ?_
  refine z_iconst (M := mX12_layFirst) (v := 0) dX12_layFirst_12 rfl ?_
  refine y_iast (M := mX12_layFirst) (jj := 0) dX12_layFirst_13 zk_324 rfl rfl ?_
  refine z_iconst (M := mX12_layFirst) (v := 0) dX12_layFirst_14 rfl ?_
  refine z_istore_n (M := mX12_layFirst) (lv2 := [(2, .int (0 : Int32)), (0, .ref 313), (1, .int x1)]) dX12_layFirst_15 (Nat.le_of_ble_eq_true rfl) rfl ?_
  refine z_lv (lv2 := [(0, .ref 313), (1, .int x1), (2, .int (0 : Int32))]) [1, 2, 0] rfl ?_
  exact t_Md_layFirst_16 hd0 FU x1 (0 : Int32) (si (si ν 323 0 (0 : Int32)) 324 0 (0 : Int32)) _ h
theorem ct_Md_layFirst {g : GG} {d : Nat} {x1 : Int32} {ν : Nm} {r : Nm} (hd0 : 2 ≤ d)  (h : Md_layFirst x1 ν = some r) : Ct g d mX12_layFirst [.ref 313, .int x1] (zem ν) (none, zem r) := y_entry in_X12_layFirst (Nat.le_of_ble_eq_true rfl) rfl (t_Md_layFirst hd0 x1 ν r h)
-- FuseMinutesModel.digitOf(II)I
theorem dX12_digitOf_0 : decode cX12_digitOf 0 = .ok (.iload_n 1, 1) := by decide +kernel
theorem dX12_digitOf_1 : decode cX12_digitOf 1 = .ok (.ifCond .ne 9, 3) := by decide +kernel
theorem dX12_digitOf_4 : decode cX12_digitOf 4 = .ok (.iload_n 0, 1) := by decide +kernel
theorem dX12_digitOf_5 : decode cX12_digitOf 5 = .ok (.iconst 3, 1) := by decide +kernel
theorem dX12_digitOf_6 : decode cX12_digitOf 6 = .ok (.irem, 1) := by decide +kernel
theorem dX12_digitOf_7 : decode cX12_digitOf 7 = .ok (.goto 34, 3) := by decide +kernel
theorem dX12_digitOf_10 : decode cX12_digitOf 10 = .ok (.iload_n 1, 1) := by decide +kernel
theorem dX12_digitOf_11 : decode cX12_digitOf 11 = .ok (.iconst 1, 1) := by decide +kernel
theorem dX12_digitOf_12 : decode cX12_digitOf 12 = .ok (.if_icmp .ne 11, 3) := by decide +kernel
theorem dX12_digitOf_15 : decode cX12_digitOf 15 = .ok (.iload_n 0, 1) := by decide +kernel
theorem dX12_digitOf_16 : decode cX12_digitOf 16 = .ok (.iconst 3, 1) := by decide +kernel
theorem dX12_digitOf_17 : decode cX12_digitOf 17 = .ok (.idiv, 1) := by decide +kernel
theorem dX12_digitOf_18 : decode cX12_digitOf 18 = .ok (.iconst 3, 1) := by decide +kernel
theorem dX12_digitOf_19 : decode cX12_digitOf 19 = .ok (.irem, 1) := by decide +kernel
theorem dX12_digitOf_20 : decode cX12_digitOf 20 = .ok (.goto 21, 3) := by decide +kernel
theorem dX12_digitOf_23 : decode cX12_digitOf 23 = .ok (.iload_n 1, 1) := by decide +kernel
theorem dX12_digitOf_24 : decode cX12_digitOf 24 = .ok (.iconst 2, 1) := by decide +kernel
theorem dX12_digitOf_25 : decode cX12_digitOf 25 = .ok (.if_icmp .ne 12, 3) := by decide +kernel
theorem dX12_digitOf_28 : decode cX12_digitOf 28 = .ok (.iload_n 0, 1) := by decide +kernel
theorem dX12_digitOf_29 : decode cX12_digitOf 29 = .ok (.bipush 9, 2) := by decide +kernel
theorem dX12_digitOf_31 : decode cX12_digitOf 31 = .ok (.idiv, 1) := by decide +kernel
theorem dX12_digitOf_32 : decode cX12_digitOf 32 = .ok (.iconst 3, 1) := by decide +kernel
theorem dX12_digitOf_33 : decode cX12_digitOf 33 = .ok (.irem, 1) := by decide +kernel
theorem dX12_digitOf_34 : decode cX12_digitOf 34 = .ok (.goto 7, 3) := by decide +kernel
theorem dX12_digitOf_37 : decode cX12_digitOf 37 = .ok (.iload_n 0, 1) := by decide +kernel
theorem dX12_digitOf_38 : decode cX12_digitOf 38 = .ok (.bipush 27, 2) := by decide +kernel
theorem dX12_digitOf_40 : decode cX12_digitOf 40 = .ok (.idiv, 1) := by decide +kernel
theorem dX12_digitOf_41 : decode cX12_digitOf 41 = .ok (.ireturn, 1) := by decide +kernel
def Md_digitOf (x0 : Int32) (x1 : Int32) : Option Int32 :=
  (if ¬ x1 = 0 then
    (if ¬ x1 = (1 : Int32) then
      (if ¬ x1 = (2 : Int32) then
        some (x0 / (27 : Int32))
      else
        some ((x0 / (9 : Int32)) - (x0 / (9 : Int32)) / (3 : Int32) * (3 : Int32)))
    else
      some ((x0 / (3 : Int32)) - (x0 / (3 : Int32)) / (3 : Int32) * (3 : Int32)))
  else
    some (x0 - x0 / (3 : Int32) * (3 : Int32)))
set_option maxRecDepth 100000 in
set_option maxHeartbeats 4000000 in
theorem t_Md_digitOf {g : GG} {d : Nat} {μ : Mm} (hd0 : 1 ≤ d) : ∀ (x0 : Int32) (x1 : Int32) (r : Int32), Md_digitOf x0 x1 = some r → Z g d (0, 0) mX12_digitOf 333 0 0 0 [(0, .int x0), (1, .int x1)] [] μ (zF g (some (.int r), μ)) := by
  intro x0 x1 r h
  unfold Md_digitOf at h
  refine z_iload_n dX12_digitOf_0 1 rfl ?_
  refine z_if_ne 10 dX12_digitOf_1 rfl (fun hc1 => ?_) (fun hc1 => ?_)
  · replace h := oT hc1 h
    refine z_iload_n dX12_digitOf_10 1 rfl ?_
    refine z_iconst (M := mX12_digitOf) (v := 1) dX12_digitOf_11 rfl ?_
    refine z_icmp_ne 23 dX12_digitOf_12 rfl (fun hc2 => ?_) (fun hc2 => ?_)
    · replace h := oT hc2 h
      refine z_iload_n dX12_digitOf_23 1 rfl ?_
      refine z_iconst (M := mX12_digitOf) (v := 2) dX12_digitOf_24 rfl ?_
      refine z_icmp_ne 37 dX12_digitOf_25 rfl (fun hc3 => ?_) (fun hc3 => ?_)
      · replace h := oT hc3 h
        refine z_iload_n dX12_digitOf_37 0 rfl ?_
        refine z_bipush (M := mX12_digitOf) (v := 27) dX12_digitOf_38 rfl ?_
        refine z_idiv dX12_digitOf_40 (by decide) ?_
        cases h
        exact z_iret dX12_digitOf_41 rfl
      · replace h := oFn hc3 h
        refine z_iload_n dX12_digitOf_28 0 rfl ?_
        refine z_bipush (M := mX12_digitOf) (v := 9) dX12_digitOf_29 rfl ?_
        refine z_idiv dX12_digitOf_31 (by decide) ?_
        refine z_iconst (M := mX12_digitOf) (v := 3) dX12_digitOf_32 rfl ?_
        refine z_irem dX12_digitOf_33 (by decide) ?_
        refine z_goto 41 dX12_digitOf_34 rfl ?_
        cases h
        exact z_iret dX12_digitOf_41 rfl
    · replace h := oFn hc2 h
      refine z_iload_n dX12_digitOf_15 0 rfl ?_
      refine z_iconst (M := mX12_digitOf) (v := 3) dX12_digitOf_16 rfl ?_
      refine z_idiv dX12_digitOf_17 (by decide) ?_
      refine z_iconst (M := mX12_digitOf) (v := 3) dX12_digitOf_18 rfl ?_
      refine z_irem dX12_digitOf_19 (by decide) ?_
      refine z_goto 41 dX12_digitOf_20 rfl ?_
      cases h
      exact z_iret dX12_digitOf_41 rfl
  · replace h := oFn hc1 h
    refine z_iload_n dX12_digitOf_4 0 rfl ?_
    refine z_iconst (M := mX12_digitOf) (v := 3) dX12_digitOf_5 rfl ?_
    refine z_irem dX12_digitOf_6 (by decide) ?_
    refine z_goto 41 dX12_digitOf_7 rfl ?_
    cases h
    exact z_iret dX12_digitOf_41 rfl
theorem ct_Md_digitOf {g : GG} {d : Nat} {x0 : Int32} {x1 : Int32} {μ : Mm} {r : Int32} (hd0 : 1 ≤ d)  (h : Md_digitOf x0 x1 = some r) : Ct g d mX12_digitOf [.int x0, .int x1] μ (some (.int r), μ) := y_entry in_X12_digitOf (Nat.le_of_ble_eq_true rfl) rfl (t_Md_digitOf hd0 x0 x1 r h)
-- FuseMinutesModel.isLighting(II)Z
theorem dX12_isLighting_0 : decode cX12_isLighting 0 = .ok (.iconst 0, 1) := by decide +kernel
theorem dX12_isLighting_1 : decode cX12_isLighting 1 = .ok (.istore_n 3, 1) := by decide +kernel
theorem dX12_isLighting_2 : decode cX12_isLighting 2 = .ok (.iload_n 3, 1) := by decide +kernel
theorem dX12_isLighting_3 : decode cX12_isLighting 3 = .ok (.iconst 4, 1) := by decide +kernel
theorem dX12_isLighting_4 : decode cX12_isLighting 4 = .ok (.if_icmp .ge 48, 3) := by decide +kernel
theorem dX12_isLighting_7 : decode cX12_isLighting 7 = .ok (.iload_n 2, 1) := by decide +kernel
theorem dX12_isLighting_8 : decode cX12_isLighting 8 = .ok (.iload_n 3, 1) := by decide +kernel
theorem dX12_isLighting_9 : decode cX12_isLighting 9 = .ok (.invokestatic 422, 3) := by decide +kernel
theorem dX12_isLighting_12 : decode cX12_isLighting 12 = .ok (.aload_n 0, 1) := by decide +kernel
theorem dX12_isLighting_13 : decode cX12_isLighting 13 = .ok (.getfield 56, 3) := by decide +kernel
theorem dX12_isLighting_16 : decode cX12_isLighting 16 = .ok (.iconst 4, 1) := by decide +kernel
theorem dX12_isLighting_17 : decode cX12_isLighting 17 = .ok (.iload_n 1, 1) := by decide +kernel
theorem dX12_isLighting_18 : decode cX12_isLighting 18 = .ok (.imul, 1) := by decide +kernel
theorem dX12_isLighting_19 : decode cX12_isLighting 19 = .ok (.iload_n 3, 1) := by decide +kernel
theorem dX12_isLighting_20 : decode cX12_isLighting 20 = .ok (.iadd, 1) := by decide +kernel
theorem dX12_isLighting_21 : decode cX12_isLighting 21 = .ok (.iaload, 1) := by decide +kernel
theorem dX12_isLighting_22 : decode cX12_isLighting 22 = .ok (.ifCond .ne 7, 3) := by decide +kernel
theorem dX12_isLighting_25 : decode cX12_isLighting 25 = .ok (.iconst 0, 1) := by decide +kernel
theorem dX12_isLighting_26 : decode cX12_isLighting 26 = .ok (.goto 15, 3) := by decide +kernel
theorem dX12_isLighting_29 : decode cX12_isLighting 29 = .ok (.iconst 2, 1) := by decide +kernel
theorem dX12_isLighting_30 : decode cX12_isLighting 30 = .ok (.aload_n 0, 1) := by decide +kernel
theorem dX12_isLighting_31 : decode cX12_isLighting 31 = .ok (.getfield 59, 3) := by decide +kernel
theorem dX12_isLighting_34 : decode cX12_isLighting 34 = .ok (.iconst 4, 1) := by decide +kernel
theorem dX12_isLighting_35 : decode cX12_isLighting 35 = .ok (.iload_n 1, 1) := by decide +kernel
theorem dX12_isLighting_36 : decode cX12_isLighting 36 = .ok (.imul, 1) := by decide +kernel
theorem dX12_isLighting_37 : decode cX12_isLighting 37 = .ok (.iload_n 3, 1) := by decide +kernel
theorem dX12_isLighting_38 : decode cX12_isLighting 38 = .ok (.iadd, 1) := by decide +kernel
theorem dX12_isLighting_39 : decode cX12_isLighting 39 = .ok (.iaload, 1) := by decide +kernel
theorem dX12_isLighting_40 : decode cX12_isLighting 40 = .ok (.isub, 1) := by decide +kernel
theorem dX12_isLighting_41 : decode cX12_isLighting 41 = .ok (.if_icmp .le 5, 3) := by decide +kernel
theorem dX12_isLighting_44 : decode cX12_isLighting 44 = .ok (.iconst 0, 1) := by decide +kernel
theorem dX12_isLighting_45 : decode cX12_isLighting 45 = .ok (.ireturn, 1) := by decide +kernel
theorem dX12_isLighting_46 : decode cX12_isLighting 46 = .ok (.iinc 3 1, 3) := by decide +kernel
theorem dX12_isLighting_49 : decode cX12_isLighting 49 = .ok (.goto (-47), 3) := by decide +kernel
theorem dX12_isLighting_52 : decode cX12_isLighting 52 = .ok (.iload_n 1, 1) := by decide +kernel
theorem dX12_isLighting_53 : decode cX12_isLighting 53 = .ok (.ifCond .gt 7, 3) := by decide +kernel
theorem dX12_isLighting_56 : decode cX12_isLighting 56 = .ok (.iload_n 2, 1) := by decide +kernel
theorem dX12_isLighting_57 : decode cX12_isLighting 57 = .ok (.ifCond .le 7, 3) := by decide +kernel
theorem dX12_isLighting_60 : decode cX12_isLighting 60 = .ok (.iconst 1, 1) := by decide +kernel
theorem dX12_isLighting_61 : decode cX12_isLighting 61 = .ok (.goto 4, 3) := by decide +kernel
theorem dX12_isLighting_64 : decode cX12_isLighting 64 = .ok (.iconst 0, 1) := by decide +kernel
theorem dX12_isLighting_65 : decode cX12_isLighting 65 = .ok (.ireturn, 1) := by decide +kernel
def Md_isLighting_41 (ν : Nm) (k2 : Int32 → Int32 → Int32 → Option Bool) (x1 : Int32) (x2 : Int32) (x3 : Int32) (s0 : Int32) (s1 : Int32) : Option Bool :=
  (if s1 ≤ s0 then
    k2 x1 x2 (x3 + (1 : Int32))
  else
    some false)
set_option maxRecDepth 100000 in
set_option maxHeartbeats 4000000 in
theorem t_Md_isLighting_41 {g : GG} {d : Nat} {ν : Nm} (hd0 : 2 ≤ d) {k2 : Int32 → Int32 → Int32 → Option Bool} (hk2 : ∀ (x1 : Int32) (x2 : Int32) (x3 : Int32) (r : Bool), k2 x1 x2 x3 = some r → Z g d (0, 0) mX12_isLighting 333 0 0 2 [(0, .ref 313), (1, .int x1), (2, .int x2), (3, .int x3)] [] (zem ν) (zF g (some (.int (b2i r)), zem ν))) : ∀ (x1 : Int32) (x2 : Int32) (x3 : Int32) (s0 : Int32) (s1 : Int32) (r : Bool), Md_isLighting_41 ν k2 x1 x2 x3 s0 s1 = some r → Z g d (0, 0) mX12_isLighting 333 0 0 41 [(0, .ref 313), (1, .int x1), (2, .int x2), (3, .int x3)] [.int s0, .int s1] (zem ν) (zF g (some (.int (b2i r)), zem ν)) := by
  intro x1 x2 x3 s0 s1 r h
  unfold Md_isLighting_41 at h
  refine z_icmp_le 46 dX12_isLighting_41 rfl (fun hc1 => ?_) (fun hc1 => ?_)
  · replace h := oT hc1 h
    refine z_iinc (M := mX12_isLighting) (v := (x3 + (1 : Int32))) (lv2 := [(3, .int (x3 + (1 : Int32))), (0, .ref 313), (1, .int x1), (2, .int x2)]) dX12_isLighting_46 3 rfl rfl (Nat.le_of_ble_eq_true rfl) rfl ?_
    refine z_goto 2 dX12_isLighting_49 rfl ?_
    refine z_lv (lv2 := [(0, .ref 313), (1, .int x1), (2, .int x2), (3, .int (x3 + (1 : Int32)))]) [1, 2, 3, 0] rfl ?_
    exact hk2 x1 x2 (x3 + (1 : Int32)) _ h
  · replace h := oF hc1 h
    refine z_iconst (M := mX12_isLighting) (v := 0) dX12_isLighting_44 rfl ?_
    cases h
    exact z_zret dX12_isLighting_45 rfl rfl
def Md_isLighting_2 (ν : Nm) : Nat → Int32 → Int32 → Int32 → Option Bool
  | 0, _, _, _ => none
  | f + 1, x1, x2, x3 =>
    (if (4 : Int32) ≤ x3 then
      (if 0 < x1 then
        some true
      else
        (if x2 ≤ 0 then
          some false
        else
          some true))
    else
      (Md_digitOf x2 x3).bind fun v4 =>
      if inb (((4 : Int32) * x1) + x3) 24 then
      (if ¬ (gi ν 325 (((4 : Int32) * x1) + x3).toNatClampNeg) = 0 then
        if inb (((4 : Int32) * x1) + x3) 24 then
        Md_isLighting_41 ν (Md_isLighting_2 ν f) x1 x2 x3 ((2 : Int32) - (gi ν 326 (((4 : Int32) * x1) + x3).toNatClampNeg)) v4
        else none
      else
        Md_isLighting_41 ν (Md_isLighting_2 ν f) x1 x2 x3 (0 : Int32) v4)
      else none)
set_option maxRecDepth 100000 in
set_option maxHeartbeats 4000000 in
theorem t_Md_isLighting_2 {g : GG} {d : Nat} {ν : Nm} (hd0 : 2 ≤ d) : ∀ (f : Nat), ∀ (x1 : Int32) (x2 : Int32) (x3 : Int32) (r : Bool), Md_isLighting_2 ν f x1 x2 x3 = some r → Z g d (0, 0) mX12_isLighting 333 0 0 2 [(0, .ref 313), (1, .int x1), (2, .int x2), (3, .int x3)] [] (zem ν) (zF g (some (.int (b2i r)), zem ν)) := by
  intro f
  induction f with
  | zero =>
    intro x1 x2 x3 r h
    cases h
  | succ f ih =>
    intro x1 x2 x3 r h
    rw [Md_isLighting_2] at h
    refine z_iload_n dX12_isLighting_2 3 rfl ?_
    refine z_iconst (M := mX12_isLighting) (v := 4) dX12_isLighting_3 rfl ?_
    refine z_icmp_ge 52 dX12_isLighting_4 rfl (fun hc1 => ?_) (fun hc1 => ?_)
    · replace h := oT hc1 h
      refine z_iload_n dX12_isLighting_52 1 rfl ?_
      refine z_if_gt 60 dX12_isLighting_53 rfl (fun hc2 => ?_) (fun hc2 => ?_)
      · replace h := oT hc2 h
        refine z_iconst (M := mX12_isLighting) (v := 1) dX12_isLighting_60 rfl ?_
        refine z_goto 65 dX12_isLighting_61 rfl ?_
        cases h
        exact z_zret dX12_isLighting_65 rfl rfl
      · replace h := oF hc2 h
        refine z_iload_n dX12_isLighting_56 2 rfl ?_
        refine z_if_le 64 dX12_isLighting_57 rfl (fun hc3 => ?_) (fun hc3 => ?_)
        · replace h := oT hc3 h
          refine z_iconst (M := mX12_isLighting) (v := 0) dX12_isLighting_64 rfl ?_
          cases h
          exact z_zret dX12_isLighting_65 rfl rfl
        · replace h := oF hc3 h
          refine z_iconst (M := mX12_isLighting) (v := 1) dX12_isLighting_60 rfl ?_
          refine z_goto 65 dX12_isLighting_61 rfl ?_
          cases h
          exact z_zret dX12_isLighting_65 rfl rfl
    · replace h := oF hc1 h
      refine z_iload_n dX12_isLighting_7 2 rfl ?_
      refine z_iload_n dX12_isLighting_8 3 rfl ?_
      obtain ⟨v4, he4, h⟩ := obind h
      refine y_Si (M := mX12_isLighting) (Y := mX12_digitOf) (d2 := d - 1) (As := [.int x2, .int x3]) (st := []) dX12_isLighting_9 mlRX12_422 cv_X12_digitOf (ct_Md_digitOf (dle (Nat.le_of_ble_eq_true rfl) hd0) he4) (dps (Nat.le_of_ble_eq_true rfl) hd0) rfl rfl (Nat.le_of_ble_eq_true rfl) ?_
      refine z_aload_n dX12_isLighting_12 0 rfl ?_
      refine y_getR (M := mX12_isLighting) (r := 325) dX12_isLighting_13 zk_313 flRX12_56 fr_10_28.1 (fr_10_28.2 _) ?_
      refine z_iconst (M := mX12_isLighting) (v := 4) dX12_isLighting_16 rfl ?_
      refine z_iload_n dX12_isLighting_17 1 rfl ?_
      refine z_imul dX12_isLighting_18 ?_
      refine z_iload_n dX12_isLighting_19 3 rfl ?_
      refine z_iadd dX12_isLighting_20 ?_
      obtain ⟨hi5, h⟩ := oif h
      refine y_iald (M := mX12_isLighting) (jj := (((4 : Int32) * x1) + x3).toNatClampNeg) dX12_isLighting_21 zk_325 hi5 rfl ?_
      refine z_if_ne 29 dX12_isLighting_22 rfl (fun hc6 => ?_) (fun hc6 => ?_)
      · replace h := oT hc6 h
        refine z_iconst (M := mX12_isLighting) (v := 2) dX12_isLighting_29 rfl ?_
        refine z_aload_n dX12_isLighting_30 0 rfl ?_
        refine y_getR (M := mX12_isLighting) (r := 326) dX12_isLighting_31 zk_313 flRX12_59 fr_10_29.1 (fr_10_29.2 _) ?_
        refine z_iconst (M := mX12_isLighting) (v := 4) dX12_isLighting_34 rfl ?_
        refine z_iload_n dX12_isLighting_35 1 rfl ?_
        refine z_imul dX12_isLighting_36 ?_
        refine z_iload_n dX12_isLighting_37 3 rfl ?_
        refine z_iadd dX12_isLighting_38 ?_
        obtain ⟨hi7, h⟩ := oif h
        refine y_iald (M := mX12_isLighting) (jj := (((4 : Int32) * x1) + x3).toNatClampNeg) dX12_isLighting_39 zk_326 hi7 rfl ?_
        refine z_isub dX12_isLighting_40 ?_
        exact t_Md_isLighting_41 hd0 ih x1 x2 x3 ((2 : Int32) - (gi ν 326 (((4 : Int32) * x1) + x3).toNatClampNeg)) v4 _ h
      · replace h := oFn hc6 h
        refine z_iconst (M := mX12_isLighting) (v := 0) dX12_isLighting_25 rfl ?_
        refine z_goto 41 dX12_isLighting_26 rfl ?_
        exact t_Md_isLighting_41 hd0 ih x1 x2 x3 (0 : Int32) v4 _ h
def Md_isLighting (ν : Nm) (x1 : Int32) (x2 : Int32) : Option Bool :=
  Md_isLighting_2 ν FU x1 x2 (0 : Int32)
set_option maxRecDepth 100000 in
set_option maxHeartbeats 4000000 in
theorem t_Md_isLighting {g : GG} {d : Nat} {ν : Nm} (hd0 : 2 ≤ d) : ∀ (x1 : Int32) (x2 : Int32) (r : Bool), Md_isLighting ν x1 x2 = some r → Z g d (0, 0) mX12_isLighting 333 0 0 0 [(0, .ref 313), (1, .int x1), (2, .int x2)] [] (zem ν) (zF g (some (.int (b2i r)), zem ν)) := by
  intro x1 x2 r h
  unfold Md_isLighting at h
  refine z_iconst (M := mX12_isLighting) (v := 0) dX12_isLighting_0 rfl ?_
  refine z_istore_n (M := mX12_isLighting) (lv2 := [(3, .int (0 : Int32)), (0, .ref 313), (1, .int x1), (2, .int x2)]) dX12_isLighting_1 (Nat.le_of_ble_eq_true rfl) rfl ?_
  refine z_lv (lv2 := [(0, .ref 313), (1, .int x1), (2, .int x2), (3, .int (0 : Int32))]) [1, 2, 3, 0] rfl ?_
  exact t_Md_isLighting_2 hd0 FU x1 x2 (0 : Int32) _ h
theorem ct_Md_isLighting {g : GG} {d : Nat} {x1 : Int32} {x2 : Int32} {ν : Nm} {r : Bool} (hd0 : 2 ≤ d)  (h : Md_isLighting ν x1 x2 = some r) : Ct g d mX12_isLighting [.ref 313, .int x1, .int x2] (zem ν) (some (.int (b2i r)), zem ν) := y_entry in_X12_isLighting (Nat.le_of_ble_eq_true rfl) rfl (t_Md_isLighting hd0 x1 x2 r h)
-- FuseMinutesModel.isNext(I)Z
theorem dX12_isNext_0 : decode cX12_isNext 0 = .ok (.iconst 4, 1) := by decide +kernel
theorem dX12_isNext_1 : decode cX12_isNext 1 = .ok (.iload_n 1, 1) := by decide +kernel
theorem dX12_isNext_2 : decode cX12_isNext 2 = .ok (.imul, 1) := by decide +kernel
theorem dX12_isNext_3 : decode cX12_isNext 3 = .ok (.istore_n 2, 1) := by decide +kernel
theorem dX12_isNext_4 : decode cX12_isNext 4 = .ok (.ldc_w 332, 3) := by decide +kernel
theorem dX12_isNext_7 : decode cX12_isNext 7 = .ok (.istore_n 3, 1) := by decide +kernel
theorem dX12_isNext_8 : decode cX12_isNext 8 = .ok (.iconst 0, 1) := by decide +kernel
theorem dX12_isNext_9 : decode cX12_isNext 9 = .ok (.istore 4, 2) := by decide +kernel
theorem dX12_isNext_11 : decode cX12_isNext 11 = .ok (.iload 4, 2) := by decide +kernel
theorem dX12_isNext_13 : decode cX12_isNext 13 = .ok (.iconst 4, 1) := by decide +kernel
theorem dX12_isNext_14 : decode cX12_isNext 14 = .ok (.if_icmp .ge 76, 3) := by decide +kernel
theorem dX12_isNext_17 : decode cX12_isNext 17 = .ok (.aload_n 0, 1) := by decide +kernel
theorem dX12_isNext_18 : decode cX12_isNext 18 = .ok (.getfield 59, 3) := by decide +kernel
theorem dX12_isNext_21 : decode cX12_isNext 21 = .ok (.iload_n 2, 1) := by decide +kernel
theorem dX12_isNext_22 : decode cX12_isNext 22 = .ok (.iload 4, 2) := by decide +kernel
theorem dX12_isNext_24 : decode cX12_isNext 24 = .ok (.iadd, 1) := by decide +kernel
theorem dX12_isNext_25 : decode cX12_isNext 25 = .ok (.iaload, 1) := by decide +kernel
theorem dX12_isNext_26 : decode cX12_isNext 26 = .ok (.aload_n 0, 1) := by decide +kernel
theorem dX12_isNext_27 : decode cX12_isNext 27 = .ok (.getfield 53, 3) := by decide +kernel
theorem dX12_isNext_30 : decode cX12_isNext 30 = .ok (.iload_n 1, 1) := by decide +kernel
theorem dX12_isNext_31 : decode cX12_isNext 31 = .ok (.iaload, 1) := by decide +kernel
theorem dX12_isNext_32 : decode cX12_isNext 32 = .ok (.iload 4, 2) := by decide +kernel
theorem dX12_isNext_34 : decode cX12_isNext 34 = .ok (.invokestatic 422, 3) := by decide +kernel
theorem dX12_isNext_37 : decode cX12_isNext 37 = .ok (.iadd, 1) := by decide +kernel
theorem dX12_isNext_38 : decode cX12_isNext 38 = .ok (.istore 5, 2) := by decide +kernel
theorem dX12_isNext_40 : decode cX12_isNext 40 = .ok (.iload 5, 2) := by decide +kernel
theorem dX12_isNext_42 : decode cX12_isNext 42 = .ok (.ifCond .le 42, 3) := by decide +kernel
theorem dX12_isNext_45 : decode cX12_isNext 45 = .ok (.aload_n 0, 1) := by decide +kernel
theorem dX12_isNext_46 : decode cX12_isNext 46 = .ok (.getfield 56, 3) := by decide +kernel
theorem dX12_isNext_49 : decode cX12_isNext 49 = .ok (.iload_n 2, 1) := by decide +kernel
theorem dX12_isNext_50 : decode cX12_isNext 50 = .ok (.iload 4, 2) := by decide +kernel
theorem dX12_isNext_52 : decode cX12_isNext 52 = .ok (.iadd, 1) := by decide +kernel
theorem dX12_isNext_53 : decode cX12_isNext 53 = .ok (.iaload, 1) := by decide +kernel
theorem dX12_isNext_54 : decode cX12_isNext 54 = .ok (.iload 5, 2) := by decide +kernel
theorem dX12_isNext_56 : decode cX12_isNext 56 = .ok (.iadd, 1) := by decide +kernel
theorem dX12_isNext_57 : decode cX12_isNext 57 = .ok (.iconst 1, 1) := by decide +kernel
theorem dX12_isNext_58 : decode cX12_isNext 58 = .ok (.isub, 1) := by decide +kernel
theorem dX12_isNext_59 : decode cX12_isNext 59 = .ok (.iload 5, 2) := by decide +kernel
theorem dX12_isNext_61 : decode cX12_isNext 61 = .ok (.idiv, 1) := by decide +kernel
theorem dX12_isNext_62 : decode cX12_isNext 62 = .ok (.iload_n 3, 1) := by decide +kernel
theorem dX12_isNext_63 : decode cX12_isNext 63 = .ok (.if_icmp .ge 21, 3) := by decide +kernel
theorem dX12_isNext_66 : decode cX12_isNext 66 = .ok (.aload_n 0, 1) := by decide +kernel
theorem dX12_isNext_67 : decode cX12_isNext 67 = .ok (.getfield 56, 3) := by decide +kernel
theorem dX12_isNext_70 : decode cX12_isNext 70 = .ok (.iload_n 2, 1) := by decide +kernel
theorem dX12_isNext_71 : decode cX12_isNext 71 = .ok (.iload 4, 2) := by decide +kernel
theorem dX12_isNext_73 : decode cX12_isNext 73 = .ok (.iadd, 1) := by decide +kernel
theorem dX12_isNext_74 : decode cX12_isNext 74 = .ok (.iaload, 1) := by decide +kernel
theorem dX12_isNext_75 : decode cX12_isNext 75 = .ok (.iload 5, 2) := by decide +kernel
theorem dX12_isNext_77 : decode cX12_isNext 77 = .ok (.iadd, 1) := by decide +kernel
theorem dX12_isNext_78 : decode cX12_isNext 78 = .ok (.iconst 1, 1) := by decide +kernel
theorem dX12_isNext_79 : decode cX12_isNext 79 = .ok (.isub, 1) := by decide +kernel
theorem dX12_isNext_80 : decode cX12_isNext 80 = .ok (.iload 5, 2) := by decide +kernel
theorem dX12_isNext_82 : decode cX12_isNext 82 = .ok (.idiv, 1) := by decide +kernel
theorem dX12_isNext_83 : decode cX12_isNext 83 = .ok (.istore_n 3, 1) := by decide +kernel
theorem dX12_isNext_84 : decode cX12_isNext 84 = .ok (.iinc 4 1, 3) := by decide +kernel
theorem dX12_isNext_87 : decode cX12_isNext 87 = .ok (.goto (-76), 3) := by decide +kernel
theorem dX12_isNext_90 : decode cX12_isNext 90 = .ok (.iload_n 3, 1) := by decide +kernel
theorem dX12_isNext_91 : decode cX12_isNext 91 = .ok (.ldc_w 332, 3) := by decide +kernel
theorem dX12_isNext_94 : decode cX12_isNext 94 = .ok (.if_icmp .ne 5, 3) := by decide +kernel
theorem dX12_isNext_97 : decode cX12_isNext 97 = .ok (.iconst 0, 1) := by decide +kernel
theorem dX12_isNext_98 : decode cX12_isNext 98 = .ok (.ireturn, 1) := by decide +kernel
theorem dX12_isNext_99 : decode cX12_isNext 99 = .ok (.aload_n 0, 1) := by decide +kernel
theorem dX12_isNext_100 : decode cX12_isNext 100 = .ok (.getfield 50, 3) := by decide +kernel
theorem dX12_isNext_103 : decode cX12_isNext 103 = .ok (.iload_n 1, 1) := by decide +kernel
theorem dX12_isNext_104 : decode cX12_isNext 104 = .ok (.iconst 1, 1) := by decide +kernel
theorem dX12_isNext_105 : decode cX12_isNext 105 = .ok (.iadd, 1) := by decide +kernel
theorem dX12_isNext_106 : decode cX12_isNext 106 = .ok (.aload_n 0, 1) := by decide +kernel
theorem dX12_isNext_107 : decode cX12_isNext 107 = .ok (.getfield 50, 3) := by decide +kernel
theorem dX12_isNext_110 : decode cX12_isNext 110 = .ok (.iload_n 1, 1) := by decide +kernel
theorem dX12_isNext_111 : decode cX12_isNext 111 = .ok (.iaload, 1) := by decide +kernel
theorem dX12_isNext_112 : decode cX12_isNext 112 = .ok (.iload_n 3, 1) := by decide +kernel
theorem dX12_isNext_113 : decode cX12_isNext 113 = .ok (.iadd, 1) := by decide +kernel
theorem dX12_isNext_114 : decode cX12_isNext 114 = .ok (.iastore, 1) := by decide +kernel
theorem dX12_isNext_115 : decode cX12_isNext 115 = .ok (.iconst 0, 1) := by decide +kernel
theorem dX12_isNext_116 : decode cX12_isNext 116 = .ok (.istore 4, 2) := by decide +kernel
theorem dX12_isNext_118 : decode cX12_isNext 118 = .ok (.iload 4, 2) := by decide +kernel
theorem dX12_isNext_120 : decode cX12_isNext 120 = .ok (.iconst 4, 1) := by decide +kernel
theorem dX12_isNext_121 : decode cX12_isNext 121 = .ok (.if_icmp .ge 96, 3) := by decide +kernel
theorem dX12_isNext_124 : decode cX12_isNext 124 = .ok (.aload_n 0, 1) := by decide +kernel
theorem dX12_isNext_125 : decode cX12_isNext 125 = .ok (.getfield 59, 3) := by decide +kernel
theorem dX12_isNext_128 : decode cX12_isNext 128 = .ok (.iload_n 2, 1) := by decide +kernel
theorem dX12_isNext_129 : decode cX12_isNext 129 = .ok (.iload 4, 2) := by decide +kernel
theorem dX12_isNext_131 : decode cX12_isNext 131 = .ok (.iadd, 1) := by decide +kernel
theorem dX12_isNext_132 : decode cX12_isNext 132 = .ok (.iaload, 1) := by decide +kernel
theorem dX12_isNext_133 : decode cX12_isNext 133 = .ok (.aload_n 0, 1) := by decide +kernel
theorem dX12_isNext_134 : decode cX12_isNext 134 = .ok (.getfield 53, 3) := by decide +kernel
theorem dX12_isNext_137 : decode cX12_isNext 137 = .ok (.iload_n 1, 1) := by decide +kernel
theorem dX12_isNext_138 : decode cX12_isNext 138 = .ok (.iaload, 1) := by decide +kernel
theorem dX12_isNext_139 : decode cX12_isNext 139 = .ok (.iload 4, 2) := by decide +kernel
theorem dX12_isNext_141 : decode cX12_isNext 141 = .ok (.invokestatic 422, 3) := by decide +kernel
theorem dX12_isNext_144 : decode cX12_isNext 144 = .ok (.iadd, 1) := by decide +kernel
theorem dX12_isNext_145 : decode cX12_isNext 145 = .ok (.istore 5, 2) := by decide +kernel
theorem dX12_isNext_147 : decode cX12_isNext 147 = .ok (.aload_n 0, 1) := by decide +kernel
theorem dX12_isNext_148 : decode cX12_isNext 148 = .ok (.getfield 56, 3) := by decide +kernel
theorem dX12_isNext_151 : decode cX12_isNext 151 = .ok (.iload_n 2, 1) := by decide +kernel
theorem dX12_isNext_152 : decode cX12_isNext 152 = .ok (.iconst 4, 1) := by decide +kernel
theorem dX12_isNext_153 : decode cX12_isNext 153 = .ok (.iadd, 1) := by decide +kernel
theorem dX12_isNext_154 : decode cX12_isNext 154 = .ok (.iload 4, 2) := by decide +kernel
theorem dX12_isNext_156 : decode cX12_isNext 156 = .ok (.iadd, 1) := by decide +kernel
theorem dX12_isNext_157 : decode cX12_isNext 157 = .ok (.aload_n 0, 1) := by decide +kernel
theorem dX12_isNext_158 : decode cX12_isNext 158 = .ok (.getfield 56, 3) := by decide +kernel
theorem dX12_isNext_161 : decode cX12_isNext 161 = .ok (.iload_n 2, 1) := by decide +kernel
theorem dX12_isNext_162 : decode cX12_isNext 162 = .ok (.iload 4, 2) := by decide +kernel
theorem dX12_isNext_164 : decode cX12_isNext 164 = .ok (.iadd, 1) := by decide +kernel
theorem dX12_isNext_165 : decode cX12_isNext 165 = .ok (.iaload, 1) := by decide +kernel
theorem dX12_isNext_166 : decode cX12_isNext 166 = .ok (.iload 5, 2) := by decide +kernel
theorem dX12_isNext_168 : decode cX12_isNext 168 = .ok (.iload_n 3, 1) := by decide +kernel
theorem dX12_isNext_169 : decode cX12_isNext 169 = .ok (.imul, 1) := by decide +kernel
theorem dX12_isNext_170 : decode cX12_isNext 170 = .ok (.isub, 1) := by decide +kernel
theorem dX12_isNext_171 : decode cX12_isNext 171 = .ok (.i2l, 1) := by decide +kernel
theorem dX12_isNext_172 : decode cX12_isNext 172 = .ok (.iconst 0, 1) := by decide +kernel
theorem dX12_isNext_173 : decode cX12_isNext 173 = .ok (.ldc_w 336, 3) := by decide +kernel
theorem dX12_isNext_176 : decode cX12_isNext 176 = .ok (.invokestatic 312, 3) := by decide +kernel
theorem dX12_isNext_179 : decode cX12_isNext 179 = .ok (.iastore, 1) := by decide +kernel
theorem dX12_isNext_180 : decode cX12_isNext 180 = .ok (.aload_n 0, 1) := by decide +kernel
theorem dX12_isNext_181 : decode cX12_isNext 181 = .ok (.getfield 59, 3) := by decide +kernel
theorem dX12_isNext_184 : decode cX12_isNext 184 = .ok (.iload_n 2, 1) := by decide +kernel
theorem dX12_isNext_185 : decode cX12_isNext 185 = .ok (.iconst 4, 1) := by decide +kernel
theorem dX12_isNext_186 : decode cX12_isNext 186 = .ok (.iadd, 1) := by decide +kernel
theorem dX12_isNext_187 : decode cX12_isNext 187 = .ok (.iload 4, 2) := by decide +kernel
theorem dX12_isNext_189 : decode cX12_isNext 189 = .ok (.iadd, 1) := by decide +kernel
theorem dX12_isNext_190 : decode cX12_isNext 190 = .ok (.aload_n 0, 1) := by decide +kernel
theorem dX12_isNext_191 : decode cX12_isNext 191 = .ok (.getfield 56, 3) := by decide +kernel
theorem dX12_isNext_194 : decode cX12_isNext 194 = .ok (.iload_n 2, 1) := by decide +kernel
theorem dX12_isNext_195 : decode cX12_isNext 195 = .ok (.iconst 4, 1) := by decide +kernel
theorem dX12_isNext_196 : decode cX12_isNext 196 = .ok (.iadd, 1) := by decide +kernel
theorem dX12_isNext_197 : decode cX12_isNext 197 = .ok (.iload 4, 2) := by decide +kernel
theorem dX12_isNext_199 : decode cX12_isNext 199 = .ok (.iadd, 1) := by decide +kernel
theorem dX12_isNext_200 : decode cX12_isNext 200 = .ok (.iaload, 1) := by decide +kernel
theorem dX12_isNext_201 : decode cX12_isNext 201 = .ok (.ifCond .ne 7, 3) := by decide +kernel
theorem dX12_isNext_204 : decode cX12_isNext 204 = .ok (.iconst 0, 1) := by decide +kernel
theorem dX12_isNext_205 : decode cX12_isNext 205 = .ok (.goto 5, 3) := by decide +kernel
theorem dX12_isNext_208 : decode cX12_isNext 208 = .ok (.iload 5, 2) := by decide +kernel
theorem dX12_isNext_210 : decode cX12_isNext 210 = .ok (.iastore, 1) := by decide +kernel
theorem dX12_isNext_211 : decode cX12_isNext 211 = .ok (.iinc 4 1, 3) := by decide +kernel
theorem dX12_isNext_214 : decode cX12_isNext 214 = .ok (.goto (-96), 3) := by decide +kernel
theorem dX12_isNext_217 : decode cX12_isNext 217 = .ok (.iconst 1, 1) := by decide +kernel
theorem dX12_isNext_218 : decode cX12_isNext 218 = .ok (.ireturn, 1) := by decide +kernel
def Md_isNext_84 (k11 : Int32 → Int32 → Int32 → Int32 → Nm → Option (Bool × Nm)) (x1 : Int32) (x2 : Int32) (x3 : Int32) (x4 : Int32) (ν : Nm) : Option (Bool × Nm) :=
  k11 x1 x2 x3 (x4 + (1 : Int32)) ν
set_option maxRecDepth 100000 in
set_option maxHeartbeats 4000000 in
theorem t_Md_isNext_84 {g : GG} {d : Nat} (hd0 : 2 ≤ d) {k11 : Int32 → Int32 → Int32 → Int32 → Nm → Option (Bool × Nm)} (hk11 : ∀ (x1 : Int32) (x2 : Int32) (x3 : Int32) (x4 : Int32) (ν : Nm) (r : (Bool × Nm)), k11 x1 x2 x3 x4 ν = some r → Z g d (0, 0) mX12_isNext 333 0 0 11 [(0, .ref 313), (1, .int x1), (2, .int x2), (3, .int x3), (4, .int x4)] [] (zem ν) (zF g (some (.int (b2i r.1)), zem r.2))) : ∀ (x1 : Int32) (x2 : Int32) (x3 : Int32) (x4 : Int32) (ν : Nm) (r : (Bool × Nm)), Md_isNext_84 k11 x1 x2 x3 x4 ν = some r → Z g d (0, 0) mX12_isNext 333 0 0 84 [(0, .ref 313), (1, .int x1), (2, .int x2), (3, .int x3), (4, .int x4)] [] (zem ν) (zF g (some (.int (b2i r.1)), zem r.2)) := by
  intro x1 x2 x3 x4 ν r h
  unfold Md_isNext_84 at h
  refine z_iinc (M := mX12_isNext) (v := (x4 + (1 : Int32))) (lv2 := [(4, .int (x4 + (1 : Int32))), (0, .ref 313), (1, .int x1), (2, .int x2), (3, .int x3)]) dX12_isNext_84 4 rfl rfl (Nat.le_of_ble_eq_true rfl) rfl ?_
  refine z_goto 11 dX12_isNext_87 rfl ?_
  refine z_lv (lv2 := [(0, .ref 313), (1, .int x1), (2, .int x2), (3, .int x3), (4, .int (x4 + (1 : Int32)))]) [1, 2, 3, 4, 0] rfl ?_
  exact hk11 x1 x2 x3 (x4 + (1 : Int32)) ν _ h
def Md_isNext_210 (k118 : Int32 → Int32 → Int32 → Int32 → Nm → Option (Bool × Nm)) (x1 : Int32) (x2 : Int32) (x3 : Int32) (x4 : Int32) (s0 : Int32) (s1 : Int32) (ν : Nm) : Option (Bool × Nm) :=
  if inb s1 24 then
  k118 x1 x2 x3 (x4 + (1 : Int32)) (si ν 326 s1.toNatClampNeg s0)
  else none
set_option maxRecDepth 100000 in
set_option maxHeartbeats 4000000 in
theorem t_Md_isNext_210 {g : GG} {d : Nat} (hd0 : 2 ≤ d) {k118 : Int32 → Int32 → Int32 → Int32 → Nm → Option (Bool × Nm)} (hk118 : ∀ (x1 : Int32) (x2 : Int32) (x3 : Int32) (x4 : Int32) (ν : Nm) (r : (Bool × Nm)), k118 x1 x2 x3 x4 ν = some r → Z g d (0, 0) mX12_isNext 333 0 0 118 [(0, .ref 313), (1, .int x1), (2, .int x2), (3, .int x3), (4, .int x4)] [] (zem ν) (zF g (some (.int (b2i r.1)), zem r.2))) : ∀ (x1 : Int32) (x2 : Int32) (x3 : Int32) (x4 : Int32) (s0 : Int32) (s1 : Int32) (ν : Nm) (r : (Bool × Nm)), Md_isNext_210 k118 x1 x2 x3 x4 s0 s1 ν = some r → Z g d (0, 0) mX12_isNext 333 0 0 210 [(0, .ref 313), (1, .int x1), (2, .int x2), (3, .int x3), (4, .int x4)] [.int s0, .int s1, .ref 326] (zem ν) (zF g (some (.int (b2i r.1)), zem r.2)) := by
  intro x1 x2 x3 x4 s0 s1 ν r h
  unfold Md_isNext_210 at h
  obtain ⟨hi1, h⟩ := oif h
  refine y_iast (M := mX12_isNext) (jj := s1.toNatClampNeg) dX12_isNext_210 zk_326 hi1 rfl ?_
  refine z_iinc (M := mX12_isNext) (v := (x4 + (1 : Int32))) (lv2 := [(4, .int (x4 + (1 : Int32))), (0, .ref 313), (1, .int x1), (2, .int x2), (3, .int x3)]) dX12_isNext_211 4 rfl rfl (Nat.le_of_ble_eq_true rfl) rfl ?_
  refine z_goto 118 dX12_isNext_214 rfl ?_
  refine z_lv (lv2 := [(0, .ref 313), (1, .int x1), (2, .int x2), (3, .int x3), (4, .int (x4 + (1 : Int32)))]) [1, 2, 3, 4, 0] rfl ?_
  exact hk118 x1 x2 x3 (x4 + (1 : Int32)) (si ν 326 s1.toNatClampNeg s0) _ h
def Md_isNext_118 : Nat → Int32 → Int32 → Int32 → Int32 → Nm → Option (Bool × Nm)
  | 0, _, _, _, _, _ => none
  | f + 1, x1, x2, x3, x4, ν =>
    (if (4 : Int32) ≤ x4 then
      some (true, ν)
    else
      if inb (x2 + x4) 24 then
      if inb x1 6 then
      (Md_digitOf (gi ν 324 x1.toNatClampNeg) x4).bind fun v4 =>
      if inb (x2 + x4) 24 then
      (Md_cut ((gi ν 325 (x2 + x4).toNatClampNeg) - (((gi ν 326 (x2 + x4).toNatClampNeg) + v4) * x3)).toInt64 (0 : Int32) (639936 : Int32)).bind fun v6 =>
      if inb ((x2 + (4 : Int32)) + x4) 24 then
      if inb ((x2 + (4 : Int32)) + x4) 24 then
      (if ¬ (gi (si ν 325 ((x2 + (4 : Int32)) + x4).toNatClampNeg v6) 325 ((x2 + (4 : Int32)) + x4).toNatClampNeg) = 0 then
        Md_isNext_210 (Md_isNext_118 f) x1 x2 x3 x4 ((gi ν 326 (x2 + x4).toNatClampNeg) + v4) ((x2 + (4 : Int32)) + x4) (si ν 325 ((x2 + (4 : Int32)) + x4).toNatClampNeg v6)
      else
        Md_isNext_210 (Md_isNext_118 f) x1 x2 x3 x4 (0 : Int32) ((x2 + (4 : Int32)) + x4) (si ν 325 ((x2 + (4 : Int32)) + x4).toNatClampNeg v6))
      else none
      else none
      else none
      else none
      else none)
set_option maxRecDepth 100000 in
set_option maxHeartbeats 4000000 in
theorem t_Md_isNext_118 {g : GG} {d : Nat} (hd0 : 2 ≤ d) : ∀ (f : Nat), ∀ (x1 : Int32) (x2 : Int32) (x3 : Int32) (x4 : Int32) (ν : Nm) (r : (Bool × Nm)), Md_isNext_118 f x1 x2 x3 x4 ν = some r → Z g d (0, 0) mX12_isNext 333 0 0 118 [(0, .ref 313), (1, .int x1), (2, .int x2), (3, .int x3), (4, .int x4)] [] (zem ν) (zF g (some (.int (b2i r.1)), zem r.2)) := by
  intro f
  induction f with
  | zero =>
    intro x1 x2 x3 x4 ν r h
    cases h
  | succ f ih =>
    intro x1 x2 x3 x4 ν r h
    rw [Md_isNext_118] at h
    refine z_iload dX12_isNext_118 4 rfl ?_
    refine z_iconst (M := mX12_isNext) (v := 4) dX12_isNext_120 rfl ?_
    refine z_icmp_ge 217 dX12_isNext_121 rfl (fun hc1 => ?_) (fun hc1 => ?_)
    · replace h := oT hc1 h
      refine z_iconst (M := mX12_isNext) (v := 1) dX12_isNext_217 rfl ?_
      cases h
      exact z_zret dX12_isNext_218 rfl rfl
    · replace h := oF hc1 h
      refine z_aload_n dX12_isNext_124 0 rfl ?_
      refine y_getR (M := mX12_isNext) (r := 326) dX12_isNext_125 zk_313 flRX12_59 fr_10_29.1 (fr_10_29.2 _) ?_
      refine z_iload_n dX12_isNext_128 2 rfl ?_
      refine z_iload dX12_isNext_129 4 rfl ?_
      refine z_iadd dX12_isNext_131 ?_
      obtain ⟨hi2, h⟩ := oif h
      refine y_iald (M := mX12_isNext) (jj := (x2 + x4).toNatClampNeg) dX12_isNext_132 zk_326 hi2 rfl ?_
      refine z_aload_n dX12_isNext_133 0 rfl ?_
      refine y_getR (M := mX12_isNext) (r := 324) dX12_isNext_134 zk_313 flRX12_53 fr_10_27.1 (fr_10_27.2 _) ?_
      refine z_iload_n dX12_isNext_137 1 rfl ?_
      obtain ⟨hi3, h⟩ := oif h
      refine y_iald (M := mX12_isNext) (jj := x1.toNatClampNeg) dX12_isNext_138 zk_324 hi3 rfl ?_
      refine z_iload dX12_isNext_139 4 rfl ?_
      obtain ⟨v4, he4, h⟩ := obind h
      refine y_Si (M := mX12_isNext) (Y := mX12_digitOf) (d2 := d - 1) (As := [.int (gi ν 324 x1.toNatClampNeg), .int x4]) (st := [.int (gi ν 326 (x2 + x4).toNatClampNeg)]) dX12_isNext_141 mlRX12_422 cv_X12_digitOf (ct_Md_digitOf (dle (Nat.le_of_ble_eq_true rfl) hd0) he4) (dps (Nat.le_of_ble_eq_true rfl) hd0) rfl rfl (Nat.le_of_ble_eq_true rfl) ?_
      refine z_iadd dX12_isNext_144 ?_
      refine z_istore (M := mX12_isNext) (lv2 := [(5, .int ((gi ν 326 (x2 + x4).toNatClampNeg) + v4)), (0, .ref 313), (1, .int x1), (2, .int x2), (3, .int x3), (4, .int x4)]) dX12_isNext_145 (Nat.le_of_ble_eq_true rfl) rfl ?_
      refine z_aload_n dX12_isNext_147 1 rfl ?_
      refine y_getR (M := mX12_isNext) (r := 325) dX12_isNext_148 zk_313 flRX12_56 fr_10_28.1 (fr_10_28.2 _) ?_
      refine z_iload_n dX12_isNext_151 3 rfl ?_
      refine z_iconst (M := mX12_isNext) (v := 4) dX12_isNext_152 rfl ?_
      refine z_iadd dX12_isNext_153 ?_
      refine z_iload dX12_isNext_154 5 rfl ?_
      refine z_iadd dX12_isNext_156 ?_
      refine z_aload_n dX12_isNext_157 1 rfl ?_
      refine y_getR (M := mX12_isNext) (r := 325) dX12_isNext_158 zk_313 flRX12_56 fr_10_28.1 (fr_10_28.2 _) ?_
      refine z_iload_n dX12_isNext_161 3 rfl ?_
      refine z_iload dX12_isNext_162 5 rfl ?_
      refine z_iadd dX12_isNext_164 ?_
      obtain ⟨hi5, h⟩ := oif h
      refine y_iald (M := mX12_isNext) (jj := (x2 + x4).toNatClampNeg) dX12_isNext_165 zk_325 hi5 rfl ?_
      refine z_iload dX12_isNext_166 0 rfl ?_
      refine z_iload_n dX12_isNext_168 4 rfl ?_
      refine z_imul dX12_isNext_169 ?_
      refine z_isub dX12_isNext_170 ?_
      refine z_i2l dX12_isNext_171 ?_
      refine z_iconst (M := mX12_isNext) (v := 0) dX12_isNext_172 rfl ?_
      refine z_ldcw dX12_isNext_173 csRX12_336 ?_
      obtain ⟨v6, he6, h⟩ := obind h
      refine y_Si (M := mX12_isNext) (Y := mX12_cut) (d2 := d - 1) (As := [.long ((gi ν 325 (x2 + x4).toNatClampNeg) - (((gi ν 326 (x2 + x4).toNatClampNeg) + v4) * x3)).toInt64, .int (0 : Int32), .int (639936 : Int32)]) (st := [.int ((x2 + (4 : Int32)) + x4), .ref 325]) dX12_isNext_176 mlRX12_312 cv_X12_cut (ct_Md_cut (dle (Nat.le_of_ble_eq_true rfl) hd0) he6) (dps (Nat.le_of_ble_eq_true rfl) hd0) rfl rfl (Nat.le_of_ble_eq_true rfl) ?_
      obtain ⟨hi7, h⟩ := oif h
      refine y_iast (M := mX12_isNext) (jj := ((x2 + (4 : Int32)) + x4).toNatClampNeg) dX12_isNext_179 zk_325 hi7 rfl ?_
      refine z_aload_n dX12_isNext_180 1 rfl ?_
      refine y_getR (M := mX12_isNext) (r := 326) dX12_isNext_181 zk_313 flRX12_59 fr_10_29.1 (fr_10_29.2 _) ?_
      refine z_iload_n dX12_isNext_184 3 rfl ?_
      refine z_iconst (M := mX12_isNext) (v := 4) dX12_isNext_185 rfl ?_
      refine z_iadd dX12_isNext_186 ?_
      refine z_iload dX12_isNext_187 5 rfl ?_
      refine z_iadd dX12_isNext_189 ?_
      refine z_aload_n dX12_isNext_190 1 rfl ?_
      refine y_getR (M := mX12_isNext) (r := 325) dX12_isNext_191 zk_313 flRX12_56 fr_10_28.1 (fr_10_28.2 _) ?_
      refine z_iload_n dX12_isNext_194 3 rfl ?_
      refine z_iconst (M := mX12_isNext) (v := 4) dX12_isNext_195 rfl ?_
      refine z_iadd dX12_isNext_196 ?_
      refine z_iload dX12_isNext_197 5 rfl ?_
      refine z_iadd dX12_isNext_199 ?_
      obtain ⟨hi8, h⟩ := oif h
      refine y_iald (M := mX12_isNext) (jj := ((x2 + (4 : Int32)) + x4).toNatClampNeg) dX12_isNext_200 zk_325 hi8 rfl ?_
      refine z_if_ne 208 dX12_isNext_201 rfl (fun hc9 => ?_) (fun hc9 => ?_)
      · replace h := oT hc9 h
        refine z_iload dX12_isNext_208 0 rfl ?_
        refine z_lv (lv2 := [(0, .ref 313), (1, .int x1), (2, .int x2), (3, .int x3), (4, .int x4)]) [1, 2, 3, 4, 5] rfl ?_
        exact t_Md_isNext_210 hd0 ih x1 x2 x3 x4 ((gi ν 326 (x2 + x4).toNatClampNeg) + v4) ((x2 + (4 : Int32)) + x4) (si ν 325 ((x2 + (4 : Int32)) + x4).toNatClampNeg v6) _ h
      · replace h := oFn hc9 h
        refine z_iconst (M := mX12_isNext) (v := 0) dX12_isNext_204 rfl ?_
        refine z_goto 210 dX12_isNext_205 rfl ?_
        refine z_lv (lv2 := [(0, .ref 313), (1, .int x1), (2, .int x2), (3, .int x3), (4, .int x4)]) [1, 2, 3, 4, 5] rfl ?_
        exact t_Md_isNext_210 hd0 ih x1 x2 x3 x4 (0 : Int32) ((x2 + (4 : Int32)) + x4) (si ν 325 ((x2 + (4 : Int32)) + x4).toNatClampNeg v6) _ h
def Md_isNext_11 : Nat → Int32 → Int32 → Int32 → Int32 → Nm → Option (Bool × Nm)
  | 0, _, _, _, _, _ => none
  | f + 1, x1, x2, x3, x4, ν =>
    (if (4 : Int32) ≤ x4 then
      (if ¬ x3 = (1000000 : Int32) then
        if inb x1 6 then
        if inb (x1 + (1 : Int32)) 6 then
        Md_isNext_118 FU x1 x2 x3 (0 : Int32) (si ν 323 (x1 + (1 : Int32)).toNatClampNeg ((gi ν 323 x1.toNatClampNeg) + x3))
        else none
        else none
      else
        some (false, ν))
    else
      if inb (x2 + x4) 24 then
      if inb x1 6 then
      (Md_digitOf (gi ν 324 x1.toNatClampNeg) x4).bind fun v7 =>
      (if ((gi ν 326 (x2 + x4).toNatClampNeg) + v7) ≤ 0 then
        Md_isNext_84 (Md_isNext_11 f) x1 x2 x3 x4 ν
      else
        if inb (x2 + x4) 24 then
        if ((gi ν 326 (x2 + x4).toNatClampNeg) + v7) = 0 then none else
        (if x3 ≤ ((((gi ν 325 (x2 + x4).toNatClampNeg) + ((gi ν 326 (x2 + x4).toNatClampNeg) + v7)) - (1 : Int32)) / ((gi ν 326 (x2 + x4).toNatClampNeg) + v7)) then
          Md_isNext_84 (Md_isNext_11 f) x1 x2 x3 x4 ν
        else
          if inb (x2 + x4) 24 then
          if ((gi ν 326 (x2 + x4).toNatClampNeg) + v7) = 0 then none else
          Md_isNext_84 (Md_isNext_11 f) x1 x2 ((((gi ν 325 (x2 + x4).toNatClampNeg) + ((gi ν 326 (x2 + x4).toNatClampNeg) + v7)) - (1 : Int32)) / ((gi ν 326 (x2 + x4).toNatClampNeg) + v7)) x4 ν
          else none)
        else none)
      else none
      else none)
set_option maxRecDepth 100000 in
set_option maxHeartbeats 4000000 in
theorem t_Md_isNext_11 {g : GG} {d : Nat} (hd0 : 2 ≤ d) : ∀ (f : Nat), ∀ (x1 : Int32) (x2 : Int32) (x3 : Int32) (x4 : Int32) (ν : Nm) (r : (Bool × Nm)), Md_isNext_11 f x1 x2 x3 x4 ν = some r → Z g d (0, 0) mX12_isNext 333 0 0 11 [(0, .ref 313), (1, .int x1), (2, .int x2), (3, .int x3), (4, .int x4)] [] (zem ν) (zF g (some (.int (b2i r.1)), zem r.2)) := by
  intro f
  induction f with
  | zero =>
    intro x1 x2 x3 x4 ν r h
    cases h
  | succ f ih =>
    intro x1 x2 x3 x4 ν r h
    rw [Md_isNext_11] at h
    refine z_iload dX12_isNext_11 4 rfl ?_
    refine z_iconst (M := mX12_isNext) (v := 4) dX12_isNext_13 rfl ?_
    refine z_icmp_ge 90 dX12_isNext_14 rfl (fun hc1 => ?_) (fun hc1 => ?_)
    · replace h := oT hc1 h
      refine z_iload_n dX12_isNext_90 3 rfl ?_
      refine z_ldcw dX12_isNext_91 csRX12_332 ?_
      refine z_icmp_ne 99 dX12_isNext_94 rfl (fun hc2 => ?_) (fun hc2 => ?_)
      · replace h := oT hc2 h
        refine z_aload_n dX12_isNext_99 0 rfl ?_
        refine y_getR (M := mX12_isNext) (r := 323) dX12_isNext_100 zk_313 flRX12_50 fr_10_26.1 (fr_10_26.2 _) ?_
        refine z_iload_n dX12_isNext_103 1 rfl ?_
        refine z_iconst (M := mX12_isNext) (v := 1) dX12_isNext_104 rfl ?_
        refine z_iadd dX12_isNext_105 ?_
        refine z_aload_n dX12_isNext_106 0 rfl ?_
        refine y_getR (M := mX12_isNext) (r := 323) dX12_isNext_107 zk_313 flRX12_50 fr_10_26.1 (fr_10_26.2 _) ?_
        refine z_iload_n dX12_isNext_110 1 rfl ?_
        obtain ⟨hi3, h⟩ := oif h
        refine y_iald (M := mX12_isNext) (jj := x1.toNatClampNeg) dX12_isNext_111 zk_323 hi3 rfl ?_
        refine z_iload_n dX12_isNext_112 3 rfl ?_
        refine z_iadd dX12_isNext_113 ?_
        obtain ⟨hi4, h⟩ := oif h
        refine y_iast (M := mX12_isNext) (jj := (x1 + (1 : Int32)).toNatClampNeg) dX12_isNext_114 zk_323 hi4 rfl ?_
        refine z_iconst (M := mX12_isNext) (v := 0) dX12_isNext_115 rfl ?_
        refine z_istore (M := mX12_isNext) (lv2 := [(4, .int (0 : Int32)), (0, .ref 313), (1, .int x1), (2, .int x2), (3, .int x3)]) dX12_isNext_116 (Nat.le_of_ble_eq_true rfl) rfl ?_
        refine z_lv (lv2 := [(0, .ref 313), (1, .int x1), (2, .int x2), (3, .int x3), (4, .int (0 : Int32))]) [1, 2, 3, 4, 0] rfl ?_
        exact t_Md_isNext_118 hd0 FU x1 x2 x3 (0 : Int32) (si ν 323 (x1 + (1 : Int32)).toNatClampNeg ((gi ν 323 x1.toNatClampNeg) + x3)) _ h
      · replace h := oFn hc2 h
        refine z_iconst (M := mX12_isNext) (v := 0) dX12_isNext_97 rfl ?_
        cases h
        exact z_zret dX12_isNext_98 rfl rfl
    · replace h := oF hc1 h
      refine z_aload_n dX12_isNext_17 0 rfl ?_
      refine y_getR (M := mX12_isNext) (r := 326) dX12_isNext_18 zk_313 flRX12_59 fr_10_29.1 (fr_10_29.2 _) ?_
      refine z_iload_n dX12_isNext_21 2 rfl ?_
      refine z_iload dX12_isNext_22 4 rfl ?_
      refine z_iadd dX12_isNext_24 ?_
      obtain ⟨hi5, h⟩ := oif h
      refine y_iald (M := mX12_isNext) (jj := (x2 + x4).toNatClampNeg) dX12_isNext_25 zk_326 hi5 rfl ?_
      refine z_aload_n dX12_isNext_26 0 rfl ?_
      refine y_getR (M := mX12_isNext) (r := 324) dX12_isNext_27 zk_313 flRX12_53 fr_10_27.1 (fr_10_27.2 _) ?_
      refine z_iload_n dX12_isNext_30 1 rfl ?_
      obtain ⟨hi6, h⟩ := oif h
      refine y_iald (M := mX12_isNext) (jj := x1.toNatClampNeg) dX12_isNext_31 zk_324 hi6 rfl ?_
      refine z_iload dX12_isNext_32 4 rfl ?_
      obtain ⟨v7, he7, h⟩ := obind h
      refine y_Si (M := mX12_isNext) (Y := mX12_digitOf) (d2 := d - 1) (As := [.int (gi ν 324 x1.toNatClampNeg), .int x4]) (st := [.int (gi ν 326 (x2 + x4).toNatClampNeg)]) dX12_isNext_34 mlRX12_422 cv_X12_digitOf (ct_Md_digitOf (dle (Nat.le_of_ble_eq_true rfl) hd0) he7) (dps (Nat.le_of_ble_eq_true rfl) hd0) rfl rfl (Nat.le_of_ble_eq_true rfl) ?_
      refine z_iadd dX12_isNext_37 ?_
      refine z_istore (M := mX12_isNext) (lv2 := [(5, .int ((gi ν 326 (x2 + x4).toNatClampNeg) + v7)), (0, .ref 313), (1, .int x1), (2, .int x2), (3, .int x3), (4, .int x4)]) dX12_isNext_38 (Nat.le_of_ble_eq_true rfl) rfl ?_
      refine z_iload dX12_isNext_40 0 rfl ?_
      refine z_if_le 84 dX12_isNext_42 rfl (fun hc8 => ?_) (fun hc8 => ?_)
      · replace h := oT hc8 h
        refine z_lv (lv2 := [(0, .ref 313), (1, .int x1), (2, .int x2), (3, .int x3), (4, .int x4)]) [1, 2, 3, 4, 5] rfl ?_
        exact t_Md_isNext_84 hd0 ih x1 x2 x3 x4 ν _ h
      · replace h := oF hc8 h
        refine z_aload_n dX12_isNext_45 1 rfl ?_
        refine y_getR (M := mX12_isNext) (r := 325) dX12_isNext_46 zk_313 flRX12_56 fr_10_28.1 (fr_10_28.2 _) ?_
        refine z_iload_n dX12_isNext_49 3 rfl ?_
        refine z_iload dX12_isNext_50 5 rfl ?_
        refine z_iadd dX12_isNext_52 ?_
        obtain ⟨hi9, h⟩ := oif h
        refine y_iald (M := mX12_isNext) (jj := (x2 + x4).toNatClampNeg) dX12_isNext_53 zk_325 hi9 rfl ?_
        refine z_iload dX12_isNext_54 0 rfl ?_
        refine z_iadd dX12_isNext_56 ?_
        refine z_iconst (M := mX12_isNext) (v := 1) dX12_isNext_57 rfl ?_
        refine z_isub dX12_isNext_58 ?_
        refine z_iload dX12_isNext_59 0 rfl ?_
        obtain ⟨hz10, h⟩ := oifn h
        refine z_idiv dX12_isNext_61 hz10 ?_
        refine z_iload_n dX12_isNext_62 4 rfl ?_
        refine z_icmp_ge 84 dX12_isNext_63 rfl (fun hc11 => ?_) (fun hc11 => ?_)
        · replace h := oT hc11 h
          refine z_lv (lv2 := [(0, .ref 313), (1, .int x1), (2, .int x2), (3, .int x3), (4, .int x4)]) [1, 2, 3, 4, 5] rfl ?_
          exact t_Md_isNext_84 hd0 ih x1 x2 x3 x4 ν _ h
        · replace h := oF hc11 h
          refine z_aload_n dX12_isNext_66 1 rfl ?_
          refine y_getR (M := mX12_isNext) (r := 325) dX12_isNext_67 zk_313 flRX12_56 fr_10_28.1 (fr_10_28.2 _) ?_
          refine z_iload_n dX12_isNext_70 3 rfl ?_
          refine z_iload dX12_isNext_71 5 rfl ?_
          refine z_iadd dX12_isNext_73 ?_
          obtain ⟨hi12, h⟩ := oif h
          refine y_iald (M := mX12_isNext) (jj := (x2 + x4).toNatClampNeg) dX12_isNext_74 zk_325 hi12 rfl ?_
          refine z_iload dX12_isNext_75 0 rfl ?_
          refine z_iadd dX12_isNext_77 ?_
          refine z_iconst (M := mX12_isNext) (v := 1) dX12_isNext_78 rfl ?_
          refine z_isub dX12_isNext_79 ?_
          refine z_iload dX12_isNext_80 0 rfl ?_
          obtain ⟨hz13, h⟩ := oifn h
          refine z_idiv dX12_isNext_82 hz13 ?_
          refine z_istore_n (M := mX12_isNext) (lv2 := [(3, .int ((((gi ν 325 (x2 + x4).toNatClampNeg) + ((gi ν 326 (x2 + x4).toNatClampNeg) + v7)) - (1 : Int32)) / ((gi ν 326 (x2 + x4).toNatClampNeg) + v7))), (5, .int ((gi ν 326 (x2 + x4).toNatClampNeg) + v7)), (0, .ref 313), (1, .int x1), (2, .int x2), (4, .int x4)]) dX12_isNext_83 (Nat.le_of_ble_eq_true rfl) rfl ?_
          refine z_lv (lv2 := [(0, .ref 313), (1, .int x1), (2, .int x2), (3, .int ((((gi ν 325 (x2 + x4).toNatClampNeg) + ((gi ν 326 (x2 + x4).toNatClampNeg) + v7)) - (1 : Int32)) / ((gi ν 326 (x2 + x4).toNatClampNeg) + v7))), (4, .int x4)]) [2, 3, 4, 0, 5] rfl ?_
          exact t_Md_isNext_84 hd0 ih x1 x2 ((((gi ν 325 (x2 + x4).toNatClampNeg) + ((gi ν 326 (x2 + x4).toNatClampNeg) + v7)) - (1 : Int32)) / ((gi ν 326 (x2 + x4).toNatClampNeg) + v7)) x4 ν _ h
def Md_isNext (x1 : Int32) (ν : Nm) : Option (Bool × Nm) :=
  Md_isNext_11 FU x1 ((4 : Int32) * x1) (1000000 : Int32) (0 : Int32) ν
set_option maxRecDepth 100000 in
set_option maxHeartbeats 4000000 in
theorem t_Md_isNext {g : GG} {d : Nat} (hd0 : 2 ≤ d) : ∀ (x1 : Int32) (ν : Nm) (r : (Bool × Nm)), Md_isNext x1 ν = some r → Z g d (0, 0) mX12_isNext 333 0 0 0 [(0, .ref 313), (1, .int x1)] [] (zem ν) (zF g (some (.int (b2i r.1)), zem r.2)) := by
  intro x1 ν r h
  unfold Md_isNext at h
  refine z_iconst (M := mX12_isNext) (v := 4) dX12_isNext_0 rfl ?_
  refine z_iload_n dX12_isNext_1 1 rfl ?_
  refine z_imul dX12_isNext_2 ?_
  refine z_istore_n (M := mX12_isNext) (lv2 := [(2, .int ((4 : Int32) * x1)), (0, .ref 313), (1, .int x1)]) dX12_isNext_3 (Nat.le_of_ble_eq_true rfl) rfl ?_
  refine z_ldcw dX12_isNext_4 csRX12_332 ?_
  refine z_istore_n (M := mX12_isNext) (lv2 := [(3, .int (1000000 : Int32)), (2, .int ((4 : Int32) * x1)), (0, .ref 313), (1, .int x1)]) dX12_isNext_7 (Nat.le_of_ble_eq_true rfl) rfl ?_
  refine z_iconst (M := mX12_isNext) (v := 0) dX12_isNext_8 rfl ?_
  refine z_istore (M := mX12_isNext) (lv2 := [(4, .int (0 : Int32)), (3, .int (1000000 : Int32)), (2, .int ((4 : Int32) * x1)), (0, .ref 313), (1, .int x1)]) dX12_isNext_9 (Nat.le_of_ble_eq_true rfl) rfl ?_
  refine z_lv (lv2 := [(0, .ref 313), (1, .int x1), (2, .int ((4 : Int32) * x1)), (3, .int (1000000 : Int32)), (4, .int (0 : Int32))]) [3, 4, 2, 1, 0] rfl ?_
  exact t_Md_isNext_11 hd0 FU x1 ((4 : Int32) * x1) (1000000 : Int32) (0 : Int32) ν _ h
theorem ct_Md_isNext {g : GG} {d : Nat} {x1 : Int32} {ν : Nm} {r : (Bool × Nm)} (hd0 : 2 ≤ d)  (h : Md_isNext x1 ν = some r) : Ct g d mX12_isNext [.ref 313, .int x1] (zem ν) (some (.int (b2i r.1)), zem r.2) := y_entry in_X12_isNext (Nat.le_of_ble_eq_true rfl) rfl (t_Md_isNext hd0 x1 ν r h)
-- FuseMinutesModel.mark(II)V
theorem dX12_mark_0 : decode cX12_mark 0 = .ok (.iconst 0, 1) := by decide +kernel
theorem dX12_mark_1 : decode cX12_mark 1 = .ok (.istore_n 3, 1) := by decide +kernel
theorem dX12_mark_2 : decode cX12_mark 2 = .ok (.iload_n 3, 1) := by decide +kernel
theorem dX12_mark_3 : decode cX12_mark 3 = .ok (.iload_n 2, 1) := by decide +kernel
theorem dX12_mark_4 : decode cX12_mark 4 = .ok (.if_icmp .ge 62, 3) := by decide +kernel
theorem dX12_mark_7 : decode cX12_mark 7 = .ok (.sipush 15361, 3) := by decide +kernel
theorem dX12_mark_10 : decode cX12_mark 10 = .ok (.iload_n 1, 1) := by decide +kernel
theorem dX12_mark_11 : decode cX12_mark 11 = .ok (.imul, 1) := by decide +kernel
theorem dX12_mark_12 : decode cX12_mark 12 = .ok (.aload_n 0, 1) := by decide +kernel
theorem dX12_mark_13 : decode cX12_mark 13 = .ok (.getfield 50, 3) := by decide +kernel
theorem dX12_mark_16 : decode cX12_mark 16 = .ok (.iload_n 2, 1) := by decide +kernel
theorem dX12_mark_17 : decode cX12_mark 17 = .ok (.iaload, 1) := by decide +kernel
theorem dX12_mark_18 : decode cX12_mark 18 = .ok (.iadd, 1) := by decide +kernel
theorem dX12_mark_19 : decode cX12_mark 19 = .ok (.aload_n 0, 1) := by decide +kernel
theorem dX12_mark_20 : decode cX12_mark 20 = .ok (.getfield 50, 3) := by decide +kernel
theorem dX12_mark_23 : decode cX12_mark 23 = .ok (.iload_n 3, 1) := by decide +kernel
theorem dX12_mark_24 : decode cX12_mark 24 = .ok (.iaload, 1) := by decide +kernel
theorem dX12_mark_25 : decode cX12_mark 25 = .ok (.isub, 1) := by decide +kernel
theorem dX12_mark_26 : decode cX12_mark 26 = .ok (.istore 4, 2) := by decide +kernel
theorem dX12_mark_28 : decode cX12_mark 28 = .ok (.aload_n 0, 1) := by decide +kernel
theorem dX12_mark_29 : decode cX12_mark 29 = .ok (.getfield 66, 3) := by decide +kernel
theorem dX12_mark_32 : decode cX12_mark 32 = .ok (.iload_n 1, 1) := by decide +kernel
theorem dX12_mark_33 : decode cX12_mark 33 = .ok (.dup2, 1) := by decide +kernel
theorem dX12_mark_34 : decode cX12_mark 34 = .ok (.iaload, 1) := by decide +kernel
theorem dX12_mark_35 : decode cX12_mark 35 = .ok (.aload_n 0, 1) := by decide +kernel
theorem dX12_mark_36 : decode cX12_mark 36 = .ok (.getfield 63, 3) := by decide +kernel
theorem dX12_mark_39 : decode cX12_mark 39 = .ok (.iload 4, 2) := by decide +kernel
theorem dX12_mark_41 : decode cX12_mark 41 = .ok (.baload, 1) := by decide +kernel
theorem dX12_mark_42 : decode cX12_mark 42 = .ok (.ifCond .eq 7, 3) := by decide +kernel
theorem dX12_mark_45 : decode cX12_mark 45 = .ok (.iconst 0, 1) := by decide +kernel
theorem dX12_mark_46 : decode cX12_mark 46 = .ok (.goto 4, 3) := by decide +kernel
theorem dX12_mark_49 : decode cX12_mark 49 = .ok (.iconst 1, 1) := by decide +kernel
theorem dX12_mark_50 : decode cX12_mark 50 = .ok (.iadd, 1) := by decide +kernel
theorem dX12_mark_51 : decode cX12_mark 51 = .ok (.iastore, 1) := by decide +kernel
theorem dX12_mark_52 : decode cX12_mark 52 = .ok (.aload_n 0, 1) := by decide +kernel
theorem dX12_mark_53 : decode cX12_mark 53 = .ok (.getfield 63, 3) := by decide +kernel
theorem dX12_mark_56 : decode cX12_mark 56 = .ok (.iload 4, 2) := by decide +kernel
theorem dX12_mark_58 : decode cX12_mark 58 = .ok (.iconst 1, 1) := by decide +kernel
theorem dX12_mark_59 : decode cX12_mark 59 = .ok (.bastore, 1) := by decide +kernel
theorem dX12_mark_60 : decode cX12_mark 60 = .ok (.iinc 3 1, 3) := by decide +kernel
theorem dX12_mark_63 : decode cX12_mark 63 = .ok (.goto (-61), 3) := by decide +kernel
theorem dX12_mark_66 : decode cX12_mark 66 = .ok (.return_, 1) := by decide +kernel
def Md_mark_50 (k2 : Int32 → Int32 → Int32 → Nm → Option Nm) (x1 : Int32) (x2 : Int32) (x3 : Int32) (x4 : Int32) (s0 : Int32) (s1 : Int32) (s2 : Int32) (ν : Nm) : Option Nm :=
  if inb s2 16 then
  if inb x4 245776 then
  k2 x1 x2 (x3 + (1 : Int32)) (si (si ν 328 s2.toNatClampNeg (s1 + s0)) 327 x4.toNatClampNeg (1 : Int32))
  else none
  else none
set_option maxRecDepth 100000 in
set_option maxHeartbeats 4000000 in
theorem t_Md_mark_50 {g : GG} {d : Nat} (hd0 : 1 ≤ d) {k2 : Int32 → Int32 → Int32 → Nm → Option Nm} (hk2 : ∀ (x1 : Int32) (x2 : Int32) (x3 : Int32) (ν : Nm) (r : Nm), k2 x1 x2 x3 ν = some r → Z g d (0, 0) mX12_mark 333 0 0 2 [(0, .ref 313), (1, .int x1), (2, .int x2), (3, .int x3)] [] (zem ν) (zF g (none, zem r))) : ∀ (x1 : Int32) (x2 : Int32) (x3 : Int32) (x4 : Int32) (s0 : Int32) (s1 : Int32) (s2 : Int32) (ν : Nm) (r : Nm), Md_mark_50 k2 x1 x2 x3 x4 s0 s1 s2 ν = some r → Z g d (0, 0) mX12_mark 333 0 0 50 [(0, .ref 313), (1, .int x1), (2, .int x2), (3, .int x3), (4, .int x4)] [.int s0, .int s1, .int s2, .ref 328] (zem ν) (zF g (none, zem r)) := by
  intro x1 x2 x3 x4 s0 s1 s2 ν r h
  unfold Md_mark_50 at h
  refine z_iadd dX12_mark_50 ?_
  obtain ⟨hi1, h⟩ := oif h
  refine y_iast (M := mX12_mark) (jj := s2.toNatClampNeg) dX12_mark_51 zk_328 hi1 rfl ?_
  refine z_aload_n dX12_mark_52 0 rfl ?_
  refine y_getR (M := mX12_mark) (r := 327) dX12_mark_53 zk_313 flRX12_63 fr_10_30.1 (fr_10_30.2 _) ?_
  refine z_iload dX12_mark_56 4 rfl ?_
  refine z_iconst (M := mX12_mark) (v := 1) dX12_mark_58 rfl ?_
  obtain ⟨hi2, h⟩ := oif h
  refine y_zast (M := mX12_mark) (jj := x4.toNatClampNeg) dX12_mark_59 zk_327 hi2 rfl rfl ?_
  refine z_iinc (M := mX12_mark) (v := (x3 + (1 : Int32))) (lv2 := [(3, .int (x3 + (1 : Int32))), (0, .ref 313), (1, .int x1), (2, .int x2), (4, .int x4)]) dX12_mark_60 3 rfl rfl (Nat.le_of_ble_eq_true rfl) rfl ?_
  refine z_goto 2 dX12_mark_63 rfl ?_
  refine z_lv (lv2 := [(0, .ref 313), (1, .int x1), (2, .int x2), (3, .int (x3 + (1 : Int32)))]) [1, 2, 3, 0] rfl ?_
  exact hk2 x1 x2 (x3 + (1 : Int32)) (si (si ν 328 s2.toNatClampNeg (s1 + s0)) 327 x4.toNatClampNeg (1 : Int32)) _ h
def Md_mark_2 : Nat → Int32 → Int32 → Int32 → Nm → Option Nm
  | 0, _, _, _, _ => none
  | f + 1, x1, x2, x3, ν =>
    (if x2 ≤ x3 then
      some ν
    else
      if inb x2 6 then
      if inb x3 6 then
      if inb x1 16 then
      if inb ((((15361 : Int32) * x1) + (gi ν 323 x2.toNatClampNeg)) - (gi ν 323 x3.toNatClampNeg)) 245776 then
      (if (gi ν 327 ((((15361 : Int32) * x1) + (gi ν 323 x2.toNatClampNeg)) - (gi ν 323 x3.toNatClampNeg)).toNatClampNeg) = 0 then
        Md_mark_50 (Md_mark_2 f) x1 x2 x3 ((((15361 : Int32) * x1) + (gi ν 323 x2.toNatClampNeg)) - (gi ν 323 x3.toNatClampNeg)) (1 : Int32) (gi ν 328 x1.toNatClampNeg) x1 ν
      else
        Md_mark_50 (Md_mark_2 f) x1 x2 x3 ((((15361 : Int32) * x1) + (gi ν 323 x2.toNatClampNeg)) - (gi ν 323 x3.toNatClampNeg)) (0 : Int32) (gi ν 328 x1.toNatClampNeg) x1 ν)
      else none
      else none
      else none
      else none)
set_option maxRecDepth 100000 in
set_option maxHeartbeats 4000000 in
theorem t_Md_mark_2 {g : GG} {d : Nat} (hd0 : 1 ≤ d) : ∀ (f : Nat), ∀ (x1 : Int32) (x2 : Int32) (x3 : Int32) (ν : Nm) (r : Nm), Md_mark_2 f x1 x2 x3 ν = some r → Z g d (0, 0) mX12_mark 333 0 0 2 [(0, .ref 313), (1, .int x1), (2, .int x2), (3, .int x3)] [] (zem ν) (zF g (none, zem r)) := by
  intro f
  induction f with
  | zero =>
    intro x1 x2 x3 ν r h
    cases h
  | succ f ih =>
    intro x1 x2 x3 ν r h
    rw [Md_mark_2] at h
    refine z_iload_n dX12_mark_2 3 rfl ?_
    refine z_iload_n dX12_mark_3 2 rfl ?_
    refine z_icmp_ge 66 dX12_mark_4 rfl (fun hc1 => ?_) (fun hc1 => ?_)
    · replace h := oT hc1 h
      cases h
      exact z_vret dX12_mark_66 rfl
    · replace h := oF hc1 h
      refine z_sipush (M := mX12_mark) (v := 15361) dX12_mark_7 rfl ?_
      refine z_iload_n dX12_mark_10 1 rfl ?_
      refine z_imul dX12_mark_11 ?_
      refine z_aload_n dX12_mark_12 0 rfl ?_
      refine y_getR (M := mX12_mark) (r := 323) dX12_mark_13 zk_313 flRX12_50 fr_10_26.1 (fr_10_26.2 _) ?_
      refine z_iload_n dX12_mark_16 2 rfl ?_
      obtain ⟨hi2, h⟩ := oif h
      refine y_iald (M := mX12_mark) (jj := x2.toNatClampNeg) dX12_mark_17 zk_323 hi2 rfl ?_
      refine z_iadd dX12_mark_18 ?_
      refine z_aload_n dX12_mark_19 0 rfl ?_
      refine y_getR (M := mX12_mark) (r := 323) dX12_mark_20 zk_313 flRX12_50 fr_10_26.1 (fr_10_26.2 _) ?_
      refine z_iload_n dX12_mark_23 3 rfl ?_
      obtain ⟨hi3, h⟩ := oif h
      refine y_iald (M := mX12_mark) (jj := x3.toNatClampNeg) dX12_mark_24 zk_323 hi3 rfl ?_
      refine z_isub dX12_mark_25 ?_
      refine z_istore (M := mX12_mark) (lv2 := [(4, .int ((((15361 : Int32) * x1) + (gi ν 323 x2.toNatClampNeg)) - (gi ν 323 x3.toNatClampNeg))), (0, .ref 313), (1, .int x1), (2, .int x2), (3, .int x3)]) dX12_mark_26 (Nat.le_of_ble_eq_true rfl) rfl ?_
      refine z_aload_n dX12_mark_28 1 rfl ?_
      refine y_getR (M := mX12_mark) (r := 328) dX12_mark_29 zk_313 flRX12_66 fr_10_31.1 (fr_10_31.2 _) ?_
      refine z_iload_n dX12_mark_32 2 rfl ?_
      refine z_dup2 dX12_mark_33 rfl rfl ?_
      obtain ⟨hi4, h⟩ := oif h
      refine y_iald (M := mX12_mark) (jj := x1.toNatClampNeg) dX12_mark_34 zk_328 hi4 rfl ?_
      refine z_aload_n dX12_mark_35 1 rfl ?_
      refine y_getR (M := mX12_mark) (r := 327) dX12_mark_36 zk_313 flRX12_63 fr_10_30.1 (fr_10_30.2 _) ?_
      refine z_iload dX12_mark_39 0 rfl ?_
      obtain ⟨hi5, h⟩ := oif h
      refine y_zald (M := mX12_mark) (jj := ((((15361 : Int32) * x1) + (gi ν 323 x2.toNatClampNeg)) - (gi ν 323 x3.toNatClampNeg)).toNatClampNeg) dX12_mark_41 zk_327 hi5 rfl ?_
      refine z_if_eq 49 dX12_mark_42 rfl (fun hc6 => ?_) (fun hc6 => ?_)
      · replace h := oT hc6 h
        refine z_iconst (M := mX12_mark) (v := 1) dX12_mark_49 rfl ?_
        refine z_lv (lv2 := [(0, .ref 313), (1, .int x1), (2, .int x2), (3, .int x3), (4, .int ((((15361 : Int32) * x1) + (gi ν 323 x2.toNatClampNeg)) - (gi ν 323 x3.toNatClampNeg)))]) [1, 2, 3, 4, 0] rfl ?_
        exact t_Md_mark_50 hd0 ih x1 x2 x3 ((((15361 : Int32) * x1) + (gi ν 323 x2.toNatClampNeg)) - (gi ν 323 x3.toNatClampNeg)) (1 : Int32) (gi ν 328 x1.toNatClampNeg) x1 ν _ h
      · replace h := oF hc6 h
        refine z_iconst (M := mX12_mark) (v := 0) dX12_mark_45 rfl ?_
        refine z_goto 50 dX12_mark_46 rfl ?_
        refine z_lv (lv2 := [(0, .ref 313), (1, .int x1), (2, .int x2), (3, .int x3), (4, .int ((((15361 : Int32) * x1) + (gi ν 323 x2.toNatClampNeg)) - (gi ν 323 x3.toNatClampNeg)))]) [1, 2, 3, 4, 0] rfl ?_
        exact t_Md_mark_50 hd0 ih x1 x2 x3 ((((15361 : Int32) * x1) + (gi ν 323 x2.toNatClampNeg)) - (gi ν 323 x3.toNatClampNeg)) (0 : Int32) (gi ν 328 x1.toNatClampNeg) x1 ν _ h
def Md_mark (x1 : Int32) (x2 : Int32) (ν : Nm) : Option Nm :=
  Md_mark_2 FU x1 x2 (0 : Int32) ν
set_option maxRecDepth 100000 in
set_option maxHeartbeats 4000000 in
theorem t_Md_mark {g : GG} {d : Nat} (hd0 : 1 ≤ d) : ∀ (x1 : Int32) (x2 : Int32) (ν : Nm) (r : Nm), Md_mark x1 x2 ν = some r → Z g d (0, 0) mX12_mark 333 0 0 0 [(0, .ref 313), (1, .int x1), (2, .int x2)] [] (zem ν) (zF g (none, zem r)) := by
  intro x1 x2 ν r h
  unfold Md_mark at h
  refine z_iconst (M := mX12_mark) (v := 0) dX12_mark_0 rfl ?_
  refine z_istore_n (M := mX12_mark) (lv2 := [(3, .int (0 : Int32)), (0, .ref 313), (1, .int x1), (2, .int x2)]) dX12_mark_1 (Nat.le_of_ble_eq_true rfl) rfl ?_
  refine z_lv (lv2 := [(0, .ref 313), (1, .int x1), (2, .int x2), (3, .int (0 : Int32))]) [1, 2, 3, 0] rfl ?_
  exact t_Md_mark_2 hd0 FU x1 x2 (0 : Int32) ν _ h
theorem ct_Md_mark {g : GG} {d : Nat} {x1 : Int32} {x2 : Int32} {ν : Nm} {r : Nm} (hd0 : 1 ≤ d)  (h : Md_mark x1 x2 ν = some r) : Ct g d mX12_mark [.ref 313, .int x1, .int x2] (zem ν) (none, zem r) := y_entry in_X12_mark (Nat.le_of_ble_eq_true rfl) rfl (t_Md_mark hd0 x1 x2 ν r h)
-- FuseMinutesModel.layGives(I)V
theorem dX12_layGives_0 : decode cX12_layGives 0 = .ok (.aload_n 0, 1) := by decide +kernel
theorem dX12_layGives_1 : decode cX12_layGives 1 = .ok (.getfield 66, 3) := by decide +kernel
theorem dX12_layGives_4 : decode cX12_layGives 4 = .ok (.iload_n 1, 1) := by decide +kernel
theorem dX12_layGives_5 : decode cX12_layGives 5 = .ok (.iaload, 1) := by decide +kernel
theorem dX12_layGives_6 : decode cX12_layGives 6 = .ok (.iconst (-1), 1) := by decide +kernel
theorem dX12_layGives_7 : decode cX12_layGives 7 = .ok (.if_icmp .eq 4, 3) := by decide +kernel
theorem dX12_layGives_10 : decode cX12_layGives 10 = .ok (.return_, 1) := by decide +kernel
theorem dX12_layGives_11 : decode cX12_layGives 11 = .ok (.iconst 0, 1) := by decide +kernel
theorem dX12_layGives_12 : decode cX12_layGives 12 = .ok (.istore_n 2, 1) := by decide +kernel
theorem dX12_layGives_13 : decode cX12_layGives 13 = .ok (.iload_n 2, 1) := by decide +kernel
theorem dX12_layGives_14 : decode cX12_layGives 14 = .ok (.sipush 15360, 3) := by decide +kernel
theorem dX12_layGives_17 : decode cX12_layGives 17 = .ok (.if_icmp .gt 22, 3) := by decide +kernel
theorem dX12_layGives_20 : decode cX12_layGives 20 = .ok (.aload_n 0, 1) := by decide +kernel
theorem dX12_layGives_21 : decode cX12_layGives 21 = .ok (.getfield 63, 3) := by decide +kernel
theorem dX12_layGives_24 : decode cX12_layGives 24 = .ok (.sipush 15361, 3) := by decide +kernel
theorem dX12_layGives_27 : decode cX12_layGives 27 = .ok (.iload_n 1, 1) := by decide +kernel
theorem dX12_layGives_28 : decode cX12_layGives 28 = .ok (.imul, 1) := by decide +kernel
theorem dX12_layGives_29 : decode cX12_layGives 29 = .ok (.iload_n 2, 1) := by decide +kernel
theorem dX12_layGives_30 : decode cX12_layGives 30 = .ok (.iadd, 1) := by decide +kernel
theorem dX12_layGives_31 : decode cX12_layGives 31 = .ok (.iconst 0, 1) := by decide +kernel
theorem dX12_layGives_32 : decode cX12_layGives 32 = .ok (.bastore, 1) := by decide +kernel
theorem dX12_layGives_33 : decode cX12_layGives 33 = .ok (.iinc 2 1, 3) := by decide +kernel
theorem dX12_layGives_36 : decode cX12_layGives 36 = .ok (.goto (-23), 3) := by decide +kernel
theorem dX12_layGives_39 : decode cX12_layGives 39 = .ok (.aload_n 0, 1) := by decide +kernel
theorem dX12_layGives_40 : decode cX12_layGives 40 = .ok (.getfield 66, 3) := by decide +kernel
theorem dX12_layGives_43 : decode cX12_layGives 43 = .ok (.iload_n 1, 1) := by decide +kernel
theorem dX12_layGives_44 : decode cX12_layGives 44 = .ok (.iconst 0, 1) := by decide +kernel
theorem dX12_layGives_45 : decode cX12_layGives 45 = .ok (.iastore, 1) := by decide +kernel
theorem dX12_layGives_46 : decode cX12_layGives 46 = .ok (.aload_n 0, 1) := by decide +kernel
theorem dX12_layGives_47 : decode cX12_layGives 47 = .ok (.iload_n 1, 1) := by decide +kernel
theorem dX12_layGives_48 : decode cX12_layGives 48 = .ok (.invokevirtual 425, 3) := by decide +kernel
theorem dX12_layGives_51 : decode cX12_layGives 51 = .ok (.iconst 0, 1) := by decide +kernel
theorem dX12_layGives_52 : decode cX12_layGives 52 = .ok (.istore_n 2, 1) := by decide +kernel
theorem dX12_layGives_53 : decode cX12_layGives 53 = .ok (.iload_n 2, 1) := by decide +kernel
theorem dX12_layGives_54 : decode cX12_layGives 54 = .ok (.ifCond .lt 122, 3) := by decide +kernel
theorem dX12_layGives_57 : decode cX12_layGives 57 = .ok (.aload_n 0, 1) := by decide +kernel
theorem dX12_layGives_58 : decode cX12_layGives 58 = .ok (.getfield 53, 3) := by decide +kernel
theorem dX12_layGives_61 : decode cX12_layGives 61 = .ok (.iload_n 2, 1) := by decide +kernel
theorem dX12_layGives_62 : decode cX12_layGives 62 = .ok (.dup2, 1) := by decide +kernel
theorem dX12_layGives_63 : decode cX12_layGives 63 = .ok (.iaload, 1) := by decide +kernel
theorem dX12_layGives_64 : decode cX12_layGives 64 = .ok (.iconst 1, 1) := by decide +kernel
theorem dX12_layGives_65 : decode cX12_layGives 65 = .ok (.iadd, 1) := by decide +kernel
theorem dX12_layGives_66 : decode cX12_layGives 66 = .ok (.iastore, 1) := by decide +kernel
theorem dX12_layGives_67 : decode cX12_layGives 67 = .ok (.aload_n 0, 1) := by decide +kernel
theorem dX12_layGives_68 : decode cX12_layGives 68 = .ok (.getfield 53, 3) := by decide +kernel
theorem dX12_layGives_71 : decode cX12_layGives 71 = .ok (.iload_n 2, 1) := by decide +kernel
theorem dX12_layGives_72 : decode cX12_layGives 72 = .ok (.iaload, 1) := by decide +kernel
theorem dX12_layGives_73 : decode cX12_layGives 73 = .ok (.bipush 82, 2) := by decide +kernel
theorem dX12_layGives_75 : decode cX12_layGives 75 = .ok (.if_icmp .ge 32, 3) := by decide +kernel
theorem dX12_layGives_78 : decode cX12_layGives 78 = .ok (.aload_n 0, 1) := by decide +kernel
theorem dX12_layGives_79 : decode cX12_layGives 79 = .ok (.iload_n 2, 1) := by decide +kernel
theorem dX12_layGives_80 : decode cX12_layGives 80 = .ok (.aload_n 0, 1) := by decide +kernel
theorem dX12_layGives_81 : decode cX12_layGives 81 = .ok (.getfield 53, 3) := by decide +kernel
theorem dX12_layGives_84 : decode cX12_layGives 84 = .ok (.iload_n 2, 1) := by decide +kernel
theorem dX12_layGives_85 : decode cX12_layGives 85 = .ok (.iaload, 1) := by decide +kernel
theorem dX12_layGives_86 : decode cX12_layGives 86 = .ok (.iconst 1, 1) := by decide +kernel
theorem dX12_layGives_87 : decode cX12_layGives 87 = .ok (.isub, 1) := by decide +kernel
theorem dX12_layGives_88 : decode cX12_layGives 88 = .ok (.invokevirtual 428, 3) := by decide +kernel
theorem dX12_layGives_91 : decode cX12_layGives 91 = .ok (.ifCond .ne 16, 3) := by decide +kernel
theorem dX12_layGives_94 : decode cX12_layGives 94 = .ok (.aload_n 0, 1) := by decide +kernel
theorem dX12_layGives_95 : decode cX12_layGives 95 = .ok (.getfield 53, 3) := by decide +kernel
theorem dX12_layGives_98 : decode cX12_layGives 98 = .ok (.iload_n 2, 1) := by decide +kernel
theorem dX12_layGives_99 : decode cX12_layGives 99 = .ok (.dup2, 1) := by decide +kernel
theorem dX12_layGives_100 : decode cX12_layGives 100 = .ok (.iaload, 1) := by decide +kernel
theorem dX12_layGives_101 : decode cX12_layGives 101 = .ok (.iconst 1, 1) := by decide +kernel
theorem dX12_layGives_102 : decode cX12_layGives 102 = .ok (.iadd, 1) := by decide +kernel
theorem dX12_layGives_103 : decode cX12_layGives 103 = .ok (.iastore, 1) := by decide +kernel
theorem dX12_layGives_104 : decode cX12_layGives 104 = .ok (.goto (-37), 3) := by decide +kernel
theorem dX12_layGives_107 : decode cX12_layGives 107 = .ok (.aload_n 0, 1) := by decide +kernel
theorem dX12_layGives_108 : decode cX12_layGives 108 = .ok (.getfield 53, 3) := by decide +kernel
theorem dX12_layGives_111 : decode cX12_layGives 111 = .ok (.iload_n 2, 1) := by decide +kernel
theorem dX12_layGives_112 : decode cX12_layGives 112 = .ok (.iaload, 1) := by decide +kernel
theorem dX12_layGives_113 : decode cX12_layGives 113 = .ok (.bipush 82, 2) := by decide +kernel
theorem dX12_layGives_115 : decode cX12_layGives 115 = .ok (.if_icmp .ne 9, 3) := by decide +kernel
theorem dX12_layGives_118 : decode cX12_layGives 118 = .ok (.iinc 2 (-1), 3) := by decide +kernel
theorem dX12_layGives_121 : decode cX12_layGives 121 = .ok (.goto (-68), 3) := by decide +kernel
theorem dX12_layGives_124 : decode cX12_layGives 124 = .ok (.aload_n 0, 1) := by decide +kernel
theorem dX12_layGives_125 : decode cX12_layGives 125 = .ok (.getfield 53, 3) := by decide +kernel
theorem dX12_layGives_128 : decode cX12_layGives 128 = .ok (.iload_n 2, 1) := by decide +kernel
theorem dX12_layGives_129 : decode cX12_layGives 129 = .ok (.dup2, 1) := by decide +kernel
theorem dX12_layGives_130 : decode cX12_layGives 130 = .ok (.iaload, 1) := by decide +kernel
theorem dX12_layGives_131 : decode cX12_layGives 131 = .ok (.iconst 1, 1) := by decide +kernel
theorem dX12_layGives_132 : decode cX12_layGives 132 = .ok (.isub, 1) := by decide +kernel
theorem dX12_layGives_133 : decode cX12_layGives 133 = .ok (.iastore, 1) := by decide +kernel
theorem dX12_layGives_134 : decode cX12_layGives 134 = .ok (.aload_n 0, 1) := by decide +kernel
theorem dX12_layGives_135 : decode cX12_layGives 135 = .ok (.iload_n 2, 1) := by decide +kernel
theorem dX12_layGives_136 : decode cX12_layGives 136 = .ok (.invokevirtual 431, 3) := by decide +kernel
theorem dX12_layGives_139 : decode cX12_layGives 139 = .ok (.istore_n 3, 1) := by decide +kernel
theorem dX12_layGives_140 : decode cX12_layGives 140 = .ok (.aload_n 0, 1) := by decide +kernel
theorem dX12_layGives_141 : decode cX12_layGives 141 = .ok (.getfield 53, 3) := by decide +kernel
theorem dX12_layGives_144 : decode cX12_layGives 144 = .ok (.iload_n 2, 1) := by decide +kernel
theorem dX12_layGives_145 : decode cX12_layGives 145 = .ok (.dup2, 1) := by decide +kernel
theorem dX12_layGives_146 : decode cX12_layGives 146 = .ok (.iaload, 1) := by decide +kernel
theorem dX12_layGives_147 : decode cX12_layGives 147 = .ok (.iconst 1, 1) := by decide +kernel
theorem dX12_layGives_148 : decode cX12_layGives 148 = .ok (.iadd, 1) := by decide +kernel
theorem dX12_layGives_149 : decode cX12_layGives 149 = .ok (.iastore, 1) := by decide +kernel
theorem dX12_layGives_150 : decode cX12_layGives 150 = .ok (.iload_n 3, 1) := by decide +kernel
theorem dX12_layGives_151 : decode cX12_layGives 151 = .ok (.ifCond .ne 6, 3) := by decide +kernel
theorem dX12_layGives_154 : decode cX12_layGives 154 = .ok (.goto (-101), 3) := by decide +kernel
theorem dX12_layGives_157 : decode cX12_layGives 157 = .ok (.iinc 2 1, 3) := by decide +kernel
theorem dX12_layGives_160 : decode cX12_layGives 160 = .ok (.aload_n 0, 1) := by decide +kernel
theorem dX12_layGives_161 : decode cX12_layGives 161 = .ok (.getfield 53, 3) := by decide +kernel
theorem dX12_layGives_164 : decode cX12_layGives 164 = .ok (.iload_n 2, 1) := by decide +kernel
theorem dX12_layGives_165 : decode cX12_layGives 165 = .ok (.iconst 0, 1) := by decide +kernel
theorem dX12_layGives_166 : decode cX12_layGives 166 = .ok (.iastore, 1) := by decide +kernel
theorem dX12_layGives_167 : decode cX12_layGives 167 = .ok (.aload_n 0, 1) := by decide +kernel
theorem dX12_layGives_168 : decode cX12_layGives 168 = .ok (.iload_n 1, 1) := by decide +kernel
theorem dX12_layGives_169 : decode cX12_layGives 169 = .ok (.iload_n 2, 1) := by decide +kernel
theorem dX12_layGives_170 : decode cX12_layGives 170 = .ok (.invokevirtual 434, 3) := by decide +kernel
theorem dX12_layGives_173 : decode cX12_layGives 173 = .ok (.goto (-120), 3) := by decide +kernel
theorem dX12_layGives_176 : decode cX12_layGives 176 = .ok (.return_, 1) := by decide +kernel
def Md_layGives_107 (k53 : Int32 → Int32 → Nm → Option Nm) (x1 : Int32) (x2 : Int32) (ν : Nm) : Option Nm :=
  if inb x2 6 then
  (if ¬ (gi ν 324 x2.toNatClampNeg) = (82 : Int32) then
    if inb x2 6 then
    if inb x2 6 then
    (Md_isNext x2 (si ν 324 x2.toNatClampNeg ((gi ν 324 x2.toNatClampNeg) - (1 : Int32)))).bind fun v5 =>
    if inb x2 6 then
    if inb x2 6 then
    (if ¬ (b2i v5.1) = 0 then
      if inb (x2 + (1 : Int32)) 6 then
      (Md_mark x1 (x2 + (1 : Int32)) (si (si v5.2 324 x2.toNatClampNeg ((gi v5.2 324 x2.toNatClampNeg) + (1 : Int32))) 324 (x2 + (1 : Int32)).toNatClampNeg (0 : Int32))).bind fun v10 =>
      k53 x1 (x2 + (1 : Int32)) v10
      else none
    else
      k53 x1 x2 (si v5.2 324 x2.toNatClampNeg ((gi v5.2 324 x2.toNatClampNeg) + (1 : Int32))))
    else none
    else none
    else none
    else none
  else
    k53 x1 (x2 + (-1 : Int32)) ν)
  else none
set_option maxRecDepth 100000 in
set_option maxHeartbeats 4000000 in
theorem t_Md_layGives_107 {g : GG} {d : Nat} (hd0 : 3 ≤ d) {k53 : Int32 → Int32 → Nm → Option Nm} (hk53 : ∀ (x1 : Int32) (x2 : Int32) (ν : Nm) (r : Nm), k53 x1 x2 ν = some r → Z g d (0, 0) mX12_layGives 333 0 0 53 [(0, .ref 313), (1, .int x1), (2, .int x2)] [] (zem ν) (zF g (none, zem r))) : ∀ (x1 : Int32) (x2 : Int32) (ν : Nm) (r : Nm), Md_layGives_107 k53 x1 x2 ν = some r → Z g d (0, 0) mX12_layGives 333 0 0 107 [(0, .ref 313), (1, .int x1), (2, .int x2)] [] (zem ν) (zF g (none, zem r)) := by
  intro x1 x2 ν r h
  unfold Md_layGives_107 at h
  refine z_aload_n dX12_layGives_107 0 rfl ?_
  refine y_getR (M := mX12_layGives) (r := 324) dX12_layGives_108 zk_313 flRX12_53 fr_10_27.1 (fr_10_27.2 _) ?_
  refine z_iload_n dX12_layGives_111 2 rfl ?_
  obtain ⟨hi1, h⟩ := oif h
  refine y_iald (M := mX12_layGives) (jj := x2.toNatClampNeg) dX12_layGives_112 zk_324 hi1 rfl ?_
  refine z_bipush (M := mX12_layGives) (v := 82) dX12_layGives_113 rfl ?_
  refine z_icmp_ne 124 dX12_layGives_115 rfl (fun hc2 => ?_) (fun hc2 => ?_)
  · replace h := oT hc2 h
    refine z_aload_n dX12_layGives_124 0 rfl ?_
    refine y_getR (M := mX12_layGives) (r := 324) dX12_layGives_125 zk_313 flRX12_53 fr_10_27.1 (fr_10_27.2 _) ?_
    refine z_iload_n dX12_layGives_128 2 rfl ?_
    refine z_dup2 dX12_layGives_129 rfl rfl ?_
    obtain ⟨hi3, h⟩ := oif h
    refine y_iald (M := mX12_layGives) (jj := x2.toNatClampNeg) dX12_layGives_130 zk_324 hi3 rfl ?_
    refine z_iconst (M := mX12_layGives) (v := 1) dX12_layGives_131 rfl ?_
    refine z_isub dX12_layGives_132 ?_
    obtain ⟨hi4, h⟩ := oif h
    refine y_iast (M := mX12_layGives) (jj := x2.toNatClampNeg) dX12_layGives_133 zk_324 hi4 rfl ?_
    refine z_aload_n dX12_layGives_134 0 rfl ?_
    refine z_iload_n dX12_layGives_135 2 rfl ?_
    obtain ⟨v5, he5, h⟩ := obind h
    refine y_Vi (M := mX12_layGives) (Y := mX12_isNext) (d2 := d - 1) (As := [.int x2]) (st := []) dX12_layGives_136 mlRX12_431 cv_X12_isNext zk_313 (ct_Md_isNext (dle (Nat.le_of_ble_eq_true rfl) hd0) he5) (dps (Nat.le_of_ble_eq_true rfl) hd0) rfl rfl (Nat.le_of_ble_eq_true rfl) ?_
    refine z_istore_n (M := mX12_layGives) (lv2 := [(3, .int (b2i v5.1)), (0, .ref 313), (1, .int x1), (2, .int x2)]) dX12_layGives_139 (Nat.le_of_ble_eq_true rfl) rfl ?_
    refine z_aload_n dX12_layGives_140 1 rfl ?_
    refine y_getR (M := mX12_layGives) (r := 324) dX12_layGives_141 zk_313 flRX12_53 fr_10_27.1 (fr_10_27.2 _) ?_
    refine z_iload_n dX12_layGives_144 3 rfl ?_
    refine z_dup2 dX12_layGives_145 rfl rfl ?_
    obtain ⟨hi6, h⟩ := oif h
    refine y_iald (M := mX12_layGives) (jj := x2.toNatClampNeg) dX12_layGives_146 zk_324 hi6 rfl ?_
    refine z_iconst (M := mX12_layGives) (v := 1) dX12_layGives_147 rfl ?_
    refine z_iadd dX12_layGives_148 ?_
    obtain ⟨hi7, h⟩ := oif h
    refine y_iast (M := mX12_layGives) (jj := x2.toNatClampNeg) dX12_layGives_149 zk_324 hi7 rfl ?_
    refine z_iload_n dX12_layGives_150 0 rfl ?_
    refine z_if_ne 157 dX12_layGives_151 rfl (fun hc8 => ?_) (fun hc8 => ?_)
    · replace h := oT hc8 h
      refine z_iinc (M := mX12_layGives) (v := (x2 + (1 : Int32))) (lv2 := [(2, .int (x2 + (1 : Int32))), (3, .int (b2i v5.1)), (0, .ref 313), (1, .int x1)]) dX12_layGives_157 3 rfl rfl (Nat.le_of_ble_eq_true rfl) rfl ?_
      refine z_aload_n dX12_layGives_160 2 rfl ?_
      refine y_getR (M := mX12_layGives) (r := 324) dX12_layGives_161 zk_313 flRX12_53 fr_10_27.1 (fr_10_27.2 _) ?_
      refine z_iload_n dX12_layGives_164 0 rfl ?_
      refine z_iconst (M := mX12_layGives) (v := 0) dX12_layGives_165 rfl ?_
      obtain ⟨hi9, h⟩ := oif h
      refine y_iast (M := mX12_layGives) (jj := (x2 + (1 : Int32)).toNatClampNeg) dX12_layGives_166 zk_324 hi9 rfl ?_
      refine z_aload_n dX12_layGives_167 2 rfl ?_
      refine z_iload_n dX12_layGives_168 3 rfl ?_
      refine z_iload_n dX12_layGives_169 0 rfl ?_
      obtain ⟨v10, he10, h⟩ := obind h
      refine y_Vv (M := mX12_layGives) (Y := mX12_mark) (d2 := d - 1) (As := [.int x1, .int (x2 + (1 : Int32))]) (st := []) dX12_layGives_170 mlRX12_434 cv_X12_mark zk_313 (ct_Md_mark (dle (Nat.le_of_ble_eq_true rfl) hd0) he10) (dps (Nat.le_of_ble_eq_true rfl) hd0) rfl rfl (Nat.le_of_ble_eq_true rfl) ?_
      refine z_goto 53 dX12_layGives_173 rfl ?_
      refine z_lv (lv2 := [(0, .ref 313), (1, .int x1), (2, .int (x2 + (1 : Int32)))]) [2, 3, 0] rfl ?_
      exact hk53 x1 (x2 + (1 : Int32)) v10 _ h
    · replace h := oFn hc8 h
      refine z_goto 53 dX12_layGives_154 rfl ?_
      refine z_lv (lv2 := [(0, .ref 313), (1, .int x1), (2, .int x2)]) [1, 2, 3] rfl ?_
      exact hk53 x1 x2 (si v5.2 324 x2.toNatClampNeg ((gi v5.2 324 x2.toNatClampNeg) + (1 : Int32))) _ h
  · replace h := oFn hc2 h
    refine z_iinc (M := mX12_layGives) (v := (x2 + (-1 : Int32))) (lv2 := [(2, .int (x2 + (-1 : Int32))), (0, .ref 313), (1, .int x1)]) dX12_layGives_118 2 rfl rfl (Nat.le_of_ble_eq_true rfl) rfl ?_
    refine z_goto 53 dX12_layGives_121 rfl ?_
    refine z_lv (lv2 := [(0, .ref 313), (1, .int x1), (2, .int (x2 + (-1 : Int32)))]) [1, 2, 0] rfl ?_
    exact hk53 x1 (x2 + (-1 : Int32)) ν _ h
def Md_layGives_67 (k53 : Int32 → Int32 → Nm → Option Nm) : Nat → Int32 → Int32 → Nm → Option Nm
  | 0, _, _, _ => none
  | f + 1, x1, x2, ν =>
    if inb x2 6 then
    (if (82 : Int32) ≤ (gi ν 324 x2.toNatClampNeg) then
      Md_layGives_107 k53 x1 x2 ν
    else
      if inb x2 6 then
      (Md_isLighting ν x2 ((gi ν 324 x2.toNatClampNeg) - (1 : Int32))).bind fun v4 =>
      (if ¬ (b2i v4) = 0 then
        Md_layGives_107 k53 x1 x2 ν
      else
        if inb x2 6 then
        if inb x2 6 then
        (Md_layGives_67 k53 f) x1 x2 (si ν 324 x2.toNatClampNeg ((gi ν 324 x2.toNatClampNeg) + (1 : Int32)))
        else none
        else none)
      else none)
    else none
set_option maxRecDepth 100000 in
set_option maxHeartbeats 4000000 in
theorem t_Md_layGives_67 {g : GG} {d : Nat} (hd0 : 3 ≤ d) {k53 : Int32 → Int32 → Nm → Option Nm} (hk53 : ∀ (x1 : Int32) (x2 : Int32) (ν : Nm) (r : Nm), k53 x1 x2 ν = some r → Z g d (0, 0) mX12_layGives 333 0 0 53 [(0, .ref 313), (1, .int x1), (2, .int x2)] [] (zem ν) (zF g (none, zem r))) : ∀ (f : Nat), ∀ (x1 : Int32) (x2 : Int32) (ν : Nm) (r : Nm), Md_layGives_67 k53 f x1 x2 ν = some r → Z g d (0, 0) mX12_layGives 333 0 0 67 [(0, .ref 313), (1, .int x1), (2, .int x2)] [] (zem ν) (zF g (none, zem r)) := by
  intro f
  induction f with
  | zero =>
    intro x1 x2 ν r h
    cases h
  | succ f ih =>
    intro x1 x2 ν r h
    rw [Md_layGives_67] at h
    refine z_aload_n dX12_layGives_67 0 rfl ?_
    refine y_getR (M := mX12_layGives) (r := 324) dX12_layGives_68 zk_313 flRX12_53 fr_10_27.1 (fr_10_27.2 _) ?_
    refine z_iload_n dX12_layGives_71 2 rfl ?_
    obtain ⟨hi1, h⟩ := oif h
    refine y_iald (M := mX12_layGives) (jj := x2.toNatClampNeg) dX12_layGives_72 zk_324 hi1 rfl ?_
    refine z_bipush (M := mX12_layGives) (v := 82) dX12_layGives_73 rfl ?_
    refine z_icmp_ge 107 dX12_layGives_75 rfl (fun hc2 => ?_) (fun hc2 => ?_)
    · replace h := oT hc2 h
      exact t_Md_layGives_107 hd0 hk53 x1 x2 ν _ h
    · replace h := oF hc2 h
      refine z_aload_n dX12_layGives_78 0 rfl ?_
      refine z_iload_n dX12_layGives_79 2 rfl ?_
      refine z_aload_n dX12_layGives_80 0 rfl ?_
      refine y_getR (M := mX12_layGives) (r := 324) dX12_layGives_81 zk_313 flRX12_53 fr_10_27.1 (fr_10_27.2 _) ?_
      refine z_iload_n dX12_layGives_84 2 rfl ?_
      obtain ⟨hi3, h⟩ := oif h
      refine y_iald (M := mX12_layGives) (jj := x2.toNatClampNeg) dX12_layGives_85 zk_324 hi3 rfl ?_
      refine z_iconst (M := mX12_layGives) (v := 1) dX12_layGives_86 rfl ?_
      refine z_isub dX12_layGives_87 ?_
      obtain ⟨v4, he4, h⟩ := obind h
      refine y_Vi (M := mX12_layGives) (Y := mX12_isLighting) (d2 := d - 1) (As := [.int x2, .int ((gi ν 324 x2.toNatClampNeg) - (1 : Int32))]) (st := []) dX12_layGives_88 mlRX12_428 cv_X12_isLighting zk_313 (ct_Md_isLighting (dle (Nat.le_of_ble_eq_true rfl) hd0) he4) (dps (Nat.le_of_ble_eq_true rfl) hd0) rfl rfl (Nat.le_of_ble_eq_true rfl) ?_
      refine z_if_ne 107 dX12_layGives_91 rfl (fun hc5 => ?_) (fun hc5 => ?_)
      · replace h := oT hc5 h
        exact t_Md_layGives_107 hd0 hk53 x1 x2 ν _ h
      · replace h := oFn hc5 h
        refine z_aload_n dX12_layGives_94 0 rfl ?_
        refine y_getR (M := mX12_layGives) (r := 324) dX12_layGives_95 zk_313 flRX12_53 fr_10_27.1 (fr_10_27.2 _) ?_
        refine z_iload_n dX12_layGives_98 2 rfl ?_
        refine z_dup2 dX12_layGives_99 rfl rfl ?_
        obtain ⟨hi6, h⟩ := oif h
        refine y_iald (M := mX12_layGives) (jj := x2.toNatClampNeg) dX12_layGives_100 zk_324 hi6 rfl ?_
        refine z_iconst (M := mX12_layGives) (v := 1) dX12_layGives_101 rfl ?_
        refine z_iadd dX12_layGives_102 ?_
        obtain ⟨hi7, h⟩ := oif h
        refine y_iast (M := mX12_layGives) (jj := x2.toNatClampNeg) dX12_layGives_103 zk_324 hi7 rfl ?_
        refine z_goto 67 dX12_layGives_104 rfl ?_
        exact ih x1 x2 (si ν 324 x2.toNatClampNeg ((gi ν 324 x2.toNatClampNeg) + (1 : Int32))) _ h
def Md_layGives_53 : Nat → Int32 → Int32 → Nm → Option Nm
  | 0, _, _, _ => none
  | f + 1, x1, x2, ν =>
    (if x2 < 0 then
      some ν
    else
      if inb x2 6 then
      if inb x2 6 then
      Md_layGives_67 (Md_layGives_53 f) FU x1 x2 (si ν 324 x2.toNatClampNeg ((gi ν 324 x2.toNatClampNeg) + (1 : Int32)))
      else none
      else none)
set_option maxRecDepth 100000 in
set_option maxHeartbeats 4000000 in
theorem t_Md_layGives_53 {g : GG} {d : Nat} (hd0 : 3 ≤ d) : ∀ (f : Nat), ∀ (x1 : Int32) (x2 : Int32) (ν : Nm) (r : Nm), Md_layGives_53 f x1 x2 ν = some r → Z g d (0, 0) mX12_layGives 333 0 0 53 [(0, .ref 313), (1, .int x1), (2, .int x2)] [] (zem ν) (zF g (none, zem r)) := by
  intro f
  induction f with
  | zero =>
    intro x1 x2 ν r h
    cases h
  | succ f ih =>
    intro x1 x2 ν r h
    rw [Md_layGives_53] at h
    refine z_iload_n dX12_layGives_53 2 rfl ?_
    refine z_if_lt 176 dX12_layGives_54 rfl (fun hc1 => ?_) (fun hc1 => ?_)
    · replace h := oT hc1 h
      cases h
      exact z_vret dX12_layGives_176 rfl
    · replace h := oF hc1 h
      refine z_aload_n dX12_layGives_57 0 rfl ?_
      refine y_getR (M := mX12_layGives) (r := 324) dX12_layGives_58 zk_313 flRX12_53 fr_10_27.1 (fr_10_27.2 _) ?_
      refine z_iload_n dX12_layGives_61 2 rfl ?_
      refine z_dup2 dX12_layGives_62 rfl rfl ?_
      obtain ⟨hi2, h⟩ := oif h
      refine y_iald (M := mX12_layGives) (jj := x2.toNatClampNeg) dX12_layGives_63 zk_324 hi2 rfl ?_
      refine z_iconst (M := mX12_layGives) (v := 1) dX12_layGives_64 rfl ?_
      refine z_iadd dX12_layGives_65 ?_
      obtain ⟨hi3, h⟩ := oif h
      refine y_iast (M := mX12_layGives) (jj := x2.toNatClampNeg) dX12_layGives_66 zk_324 hi3 rfl ?_
      exact t_Md_layGives_67 hd0 ih FU x1 x2 (si ν 324 x2.toNatClampNeg ((gi ν 324 x2.toNatClampNeg) + (1 : Int32))) _ h
def Md_layGives_13 : Nat → Int32 → Int32 → Nm → Option Nm
  | 0, _, _, _ => none
  | f + 1, x1, x2, ν =>
    (if (15360 : Int32) < x2 then
      if inb x1 16 then
      (Md_layFirst x1 (si ν 328 x1.toNatClampNeg (0 : Int32))).bind fun v3 =>
      Md_layGives_53 FU x1 (0 : Int32) v3
      else none
    else
      if inb (((15361 : Int32) * x1) + x2) 245776 then
      (Md_layGives_13 f) x1 (x2 + (1 : Int32)) (si ν 327 (((15361 : Int32) * x1) + x2).toNatClampNeg (0 : Int32))
      else none)
set_option maxRecDepth 100000 in
set_option maxHeartbeats 4000000 in
theorem t_Md_layGives_13 {g : GG} {d : Nat} (hd0 : 3 ≤ d) : ∀ (f : Nat), ∀ (x1 : Int32) (x2 : Int32) (ν : Nm) (r : Nm), Md_layGives_13 f x1 x2 ν = some r → Z g d (0, 0) mX12_layGives 333 0 0 13 [(0, .ref 313), (1, .int x1), (2, .int x2)] [] (zem ν) (zF g (none, zem r)) := by
  intro f
  induction f with
  | zero =>
    intro x1 x2 ν r h
    cases h
  | succ f ih =>
    intro x1 x2 ν r h
    rw [Md_layGives_13] at h
    refine z_iload_n dX12_layGives_13 2 rfl ?_
    refine z_sipush (M := mX12_layGives) (v := 15360) dX12_layGives_14 rfl ?_
    refine z_icmp_gt 39 dX12_layGives_17 rfl (fun hc1 => ?_) (fun hc1 => ?_)
    · replace h := oT hc1 h
      refine z_aload_n dX12_layGives_39 0 rfl ?_
      refine y_getR (M := mX12_layGives) (r := 328) dX12_layGives_40 zk_313 flRX12_66 fr_10_31.1 (fr_10_31.2 _) ?_
      refine z_iload_n dX12_layGives_43 1 rfl ?_
      refine z_iconst (M := mX12_layGives) (v := 0) dX12_layGives_44 rfl ?_
      obtain ⟨hi2, h⟩ := oif h
      refine y_iast (M := mX12_layGives) (jj := x1.toNatClampNeg) dX12_layGives_45 zk_328 hi2 rfl ?_
      refine z_aload_n dX12_layGives_46 0 rfl ?_
      refine z_iload_n dX12_layGives_47 1 rfl ?_
      obtain ⟨v3, he3, h⟩ := obind h
      refine y_Vv (M := mX12_layGives) (Y := mX12_layFirst) (d2 := d - 1) (As := [.int x1]) (st := []) dX12_layGives_48 mlRX12_425 cv_X12_layFirst zk_313 (ct_Md_layFirst (dle (Nat.le_of_ble_eq_true rfl) hd0) he3) (dps (Nat.le_of_ble_eq_true rfl) hd0) rfl rfl (Nat.le_of_ble_eq_true rfl) ?_
      refine z_iconst (M := mX12_layGives) (v := 0) dX12_layGives_51 rfl ?_
      refine z_istore_n (M := mX12_layGives) (lv2 := [(2, .int (0 : Int32)), (0, .ref 313), (1, .int x1)]) dX12_layGives_52 (Nat.le_of_ble_eq_true rfl) rfl ?_
      refine z_lv (lv2 := [(0, .ref 313), (1, .int x1), (2, .int (0 : Int32))]) [1, 2, 0] rfl ?_
      exact t_Md_layGives_53 hd0 FU x1 (0 : Int32) v3 _ h
    · replace h := oF hc1 h
      refine z_aload_n dX12_layGives_20 0 rfl ?_
      refine y_getR (M := mX12_layGives) (r := 327) dX12_layGives_21 zk_313 flRX12_63 fr_10_30.1 (fr_10_30.2 _) ?_
      refine z_sipush (M := mX12_layGives) (v := 15361) dX12_layGives_24 rfl ?_
      refine z_iload_n dX12_layGives_27 1 rfl ?_
      refine z_imul dX12_layGives_28 ?_
      refine z_iload_n dX12_layGives_29 2 rfl ?_
      refine z_iadd dX12_layGives_30 ?_
      refine z_iconst (M := mX12_layGives) (v := 0) dX12_layGives_31 rfl ?_
      obtain ⟨hi4, h⟩ := oif h
      refine y_zast (M := mX12_layGives) (jj := (((15361 : Int32) * x1) + x2).toNatClampNeg) dX12_layGives_32 zk_327 hi4 rfl rfl ?_
      refine z_iinc (M := mX12_layGives) (v := (x2 + (1 : Int32))) (lv2 := [(2, .int (x2 + (1 : Int32))), (0, .ref 313), (1, .int x1)]) dX12_layGives_33 2 rfl rfl (Nat.le_of_ble_eq_true rfl) rfl ?_
      refine z_goto 13 dX12_layGives_36 rfl ?_
      refine z_lv (lv2 := [(0, .ref 313), (1, .int x1), (2, .int (x2 + (1 : Int32)))]) [1, 2, 0] rfl ?_
      exact ih x1 (x2 + (1 : Int32)) (si ν 327 (((15361 : Int32) * x1) + x2).toNatClampNeg (0 : Int32)) _ h
def Md_layGives (x1 : Int32) (ν : Nm) : Option Nm :=
  if inb x1 16 then
  (if (gi ν 328 x1.toNatClampNeg) = (-1 : Int32) then
    Md_layGives_13 FU x1 (0 : Int32) ν
  else
    some ν)
  else none
set_option maxRecDepth 100000 in
set_option maxHeartbeats 4000000 in
theorem t_Md_layGives {g : GG} {d : Nat} (hd0 : 3 ≤ d) : ∀ (x1 : Int32) (ν : Nm) (r : Nm), Md_layGives x1 ν = some r → Z g d (0, 0) mX12_layGives 333 0 0 0 [(0, .ref 313), (1, .int x1)] [] (zem ν) (zF g (none, zem r)) := by
  intro x1 ν r h
  unfold Md_layGives at h
  refine z_aload_n dX12_layGives_0 0 rfl ?_
  refine y_getR (M := mX12_layGives) (r := 328) dX12_layGives_1 zk_313 flRX12_66 fr_10_31.1 (fr_10_31.2 _) ?_
  refine z_iload_n dX12_layGives_4 1 rfl ?_
  obtain ⟨hi1, h⟩ := oif h
  refine y_iald (M := mX12_layGives) (jj := x1.toNatClampNeg) dX12_layGives_5 zk_328 hi1 rfl ?_
  refine z_iconst (M := mX12_layGives) (v := -1) dX12_layGives_6 rfl ?_
  refine z_icmp_eq 11 dX12_layGives_7 rfl (fun hc2 => ?_) (fun hc2 => ?_)
  · replace h := oT hc2 h
    refine z_iconst (M := mX12_layGives) (v := 0) dX12_layGives_11 rfl ?_
    refine z_istore_n (M := mX12_layGives) (lv2 := [(2, .int (0 : Int32)), (0, .ref 313), (1, .int x1)]) dX12_layGives_12 (Nat.le_of_ble_eq_true rfl) rfl ?_
    refine z_lv (lv2 := [(0, .ref 313), (1, .int x1), (2, .int (0 : Int32))]) [1, 2, 0] rfl ?_
    exact t_Md_layGives_13 hd0 FU x1 (0 : Int32) ν _ h
  · replace h := oF hc2 h
    cases h
    exact z_vret dX12_layGives_10 rfl
theorem ct_Md_layGives {g : GG} {d : Nat} {x1 : Int32} {ν : Nm} {r : Nm} (hd0 : 3 ≤ d)  (h : Md_layGives x1 ν = some r) : Ct g d mX12_layGives [.ref 313, .int x1] (zem ν) (none, zem r) := y_entry in_X12_layGives (Nat.le_of_ble_eq_true rfl) rfl (t_Md_layGives hd0 x1 ν r h)
-- FuseMinutesModel.isGiven(II)Z
theorem dX12_isGiven_0 : decode cX12_isGiven 0 = .ok (.aload_n 0, 1) := by decide +kernel
theorem dX12_isGiven_1 : decode cX12_isGiven 1 = .ok (.iload_n 1, 1) := by decide +kernel
theorem dX12_isGiven_2 : decode cX12_isGiven 2 = .ok (.invokevirtual 437, 3) := by decide +kernel
theorem dX12_isGiven_5 : decode cX12_isGiven 5 = .ok (.aload_n 0, 1) := by decide +kernel
theorem dX12_isGiven_6 : decode cX12_isGiven 6 = .ok (.getfield 63, 3) := by decide +kernel
theorem dX12_isGiven_9 : decode cX12_isGiven 9 = .ok (.sipush 15361, 3) := by decide +kernel
theorem dX12_isGiven_12 : decode cX12_isGiven 12 = .ok (.iload_n 1, 1) := by decide +kernel
theorem dX12_isGiven_13 : decode cX12_isGiven 13 = .ok (.imul, 1) := by decide +kernel
theorem dX12_isGiven_14 : decode cX12_isGiven 14 = .ok (.iload_n 2, 1) := by decide +kernel
theorem dX12_isGiven_15 : decode cX12_isGiven 15 = .ok (.iadd, 1) := by decide +kernel
theorem dX12_isGiven_16 : decode cX12_isGiven 16 = .ok (.baload, 1) := by decide +kernel
theorem dX12_isGiven_17 : decode cX12_isGiven 17 = .ok (.ireturn, 1) := by decide +kernel
def Md_isGiven (x1 : Int32) (x2 : Int32) (ν : Nm) : Option (Bool × Nm) :=
  (Md_layGives x1 ν).bind fun v1 =>
  if inb (((15361 : Int32) * x1) + x2) 245776 then
  if zbo (gi v1 327 (((15361 : Int32) * x1) + x2).toNatClampNeg) then
  some (((gi v1 327 (((15361 : Int32) * x1) + x2).toNatClampNeg) != 0), v1)
  else none
  else none
set_option maxRecDepth 100000 in
set_option maxHeartbeats 4000000 in
theorem t_Md_isGiven {g : GG} {d : Nat} (hd0 : 4 ≤ d) : ∀ (x1 : Int32) (x2 : Int32) (ν : Nm) (r : (Bool × Nm)), Md_isGiven x1 x2 ν = some r → Z g d (0, 0) mX12_isGiven 333 0 0 0 [(0, .ref 313), (1, .int x1), (2, .int x2)] [] (zem ν) (zF g (some (.int (b2i r.1)), zem r.2)) := by
  intro x1 x2 ν r h
  unfold Md_isGiven at h
  refine z_aload_n dX12_isGiven_0 0 rfl ?_
  refine z_iload_n dX12_isGiven_1 1 rfl ?_
  obtain ⟨v1, he1, h⟩ := obind h
  refine y_Vv (M := mX12_isGiven) (Y := mX12_layGives) (d2 := d - 1) (As := [.int x1]) (st := []) dX12_isGiven_2 mlRX12_437 cv_X12_layGives zk_313 (ct_Md_layGives (dle (Nat.le_of_ble_eq_true rfl) hd0) he1) (dps (Nat.le_of_ble_eq_true rfl) hd0) rfl rfl (Nat.le_of_ble_eq_true rfl) ?_
  refine z_aload_n dX12_isGiven_5 0 rfl ?_
  refine y_getR (M := mX12_isGiven) (r := 327) dX12_isGiven_6 zk_313 flRX12_63 fr_10_30.1 (fr_10_30.2 _) ?_
  refine z_sipush (M := mX12_isGiven) (v := 15361) dX12_isGiven_9 rfl ?_
  refine z_iload_n dX12_isGiven_12 1 rfl ?_
  refine z_imul dX12_isGiven_13 ?_
  refine z_iload_n dX12_isGiven_14 2 rfl ?_
  refine z_iadd dX12_isGiven_15 ?_
  obtain ⟨hi2, h⟩ := oif h
  refine y_zald (M := mX12_isGiven) (jj := (((15361 : Int32) * x1) + x2).toNatClampNeg) dX12_isGiven_16 zk_327 hi2 rfl ?_
  obtain ⟨hy3, h⟩ := oif h
  cases h
  exact zret_o hy3 dX12_isGiven_17 rfl
theorem ct_Md_isGiven {g : GG} {d : Nat} {x1 : Int32} {x2 : Int32} {ν : Nm} {r : (Bool × Nm)} (hd0 : 4 ≤ d)  (h : Md_isGiven x1 x2 ν = some r) : Ct g d mX12_isGiven [.ref 313, .int x1, .int x2] (zem ν) (some (.int (b2i r.1)), zem r.2) := y_entry in_X12_isGiven (Nat.le_of_ble_eq_true rfl) rfl (t_Md_isGiven hd0 x1 x2 ν r h)
-- FuseMinutesModel.spans(II)I
theorem dX12_spans_0 : decode cX12_spans 0 = .ok (.aload_n 0, 1) := by decide +kernel
theorem dX12_spans_1 : decode cX12_spans 1 = .ok (.iload_n 1, 1) := by decide +kernel
theorem dX12_spans_2 : decode cX12_spans 2 = .ok (.invokevirtual 440, 3) := by decide +kernel
theorem dX12_spans_5 : decode cX12_spans 5 = .ok (.ifCond .ne 6, 3) := by decide +kernel
theorem dX12_spans_8 : decode cX12_spans 8 = .ok (.bipush (-2), 2) := by decide +kernel
theorem dX12_spans_10 : decode cX12_spans 10 = .ok (.ireturn, 1) := by decide +kernel
theorem dX12_spans_11 : decode cX12_spans 11 = .ok (.aload_n 0, 1) := by decide +kernel
theorem dX12_spans_12 : decode cX12_spans 12 = .ok (.iload_n 1, 1) := by decide +kernel
theorem dX12_spans_13 : decode cX12_spans 13 = .ok (.invokevirtual 437, 3) := by decide +kernel
theorem dX12_spans_16 : decode cX12_spans 16 = .ok (.iload_n 2, 1) := by decide +kernel
theorem dX12_spans_17 : decode cX12_spans 17 = .ok (.iconst (-1), 1) := by decide +kernel
theorem dX12_spans_18 : decode cX12_spans 18 = .ok (.if_icmp .ne 10, 3) := by decide +kernel
theorem dX12_spans_21 : decode cX12_spans 21 = .ok (.aload_n 0, 1) := by decide +kernel
theorem dX12_spans_22 : decode cX12_spans 22 = .ok (.getfield 66, 3) := by decide +kernel
theorem dX12_spans_25 : decode cX12_spans 25 = .ok (.iload_n 1, 1) := by decide +kernel
theorem dX12_spans_26 : decode cX12_spans 26 = .ok (.iaload, 1) := by decide +kernel
theorem dX12_spans_27 : decode cX12_spans 27 = .ok (.ireturn, 1) := by decide +kernel
theorem dX12_spans_28 : decode cX12_spans 28 = .ok (.iload_n 2, 1) := by decide +kernel
theorem dX12_spans_29 : decode cX12_spans 29 = .ok (.iconst 0, 1) := by decide +kernel
theorem dX12_spans_30 : decode cX12_spans 30 = .ok (.aload_n 0, 1) := by decide +kernel
theorem dX12_spans_31 : decode cX12_spans 31 = .ok (.getfield 66, 3) := by decide +kernel
theorem dX12_spans_34 : decode cX12_spans 34 = .ok (.iload_n 1, 1) := by decide +kernel
theorem dX12_spans_35 : decode cX12_spans 35 = .ok (.iaload, 1) := by decide +kernel
theorem dX12_spans_36 : decode cX12_spans 36 = .ok (.iconst 1, 1) := by decide +kernel
theorem dX12_spans_37 : decode cX12_spans 37 = .ok (.isub, 1) := by decide +kernel
theorem dX12_spans_38 : decode cX12_spans 38 = .ok (.invokestatic 88, 3) := by decide +kernel
theorem dX12_spans_41 : decode cX12_spans 41 = .ok (.ifCond .ne 6, 3) := by decide +kernel
theorem dX12_spans_44 : decode cX12_spans 44 = .ok (.bipush (-2), 2) := by decide +kernel
theorem dX12_spans_46 : decode cX12_spans 46 = .ok (.ireturn, 1) := by decide +kernel
theorem dX12_spans_47 : decode cX12_spans 47 = .ok (.iload_n 2, 1) := by decide +kernel
theorem dX12_spans_48 : decode cX12_spans 48 = .ok (.istore_n 3, 1) := by decide +kernel
theorem dX12_spans_49 : decode cX12_spans 49 = .ok (.iconst 1, 1) := by decide +kernel
theorem dX12_spans_50 : decode cX12_spans 50 = .ok (.istore 4, 2) := by decide +kernel
theorem dX12_spans_52 : decode cX12_spans 52 = .ok (.aload_n 0, 1) := by decide +kernel
theorem dX12_spans_53 : decode cX12_spans 53 = .ok (.iload_n 1, 1) := by decide +kernel
theorem dX12_spans_54 : decode cX12_spans 54 = .ok (.iload 4, 2) := by decide +kernel
theorem dX12_spans_56 : decode cX12_spans 56 = .ok (.invokevirtual 443, 3) := by decide +kernel
theorem dX12_spans_59 : decode cX12_spans 59 = .ok (.ifCond .eq 7, 3) := by decide +kernel
theorem dX12_spans_62 : decode cX12_spans 62 = .ok (.iload_n 3, 1) := by decide +kernel
theorem dX12_spans_63 : decode cX12_spans 63 = .ok (.ifCond .le 27, 3) := by decide +kernel
theorem dX12_spans_66 : decode cX12_spans 66 = .ok (.iload_n 3, 1) := by decide +kernel
theorem dX12_spans_67 : decode cX12_spans 67 = .ok (.aload_n 0, 1) := by decide +kernel
theorem dX12_spans_68 : decode cX12_spans 68 = .ok (.iload_n 1, 1) := by decide +kernel
theorem dX12_spans_69 : decode cX12_spans 69 = .ok (.iload 4, 2) := by decide +kernel
theorem dX12_spans_71 : decode cX12_spans 71 = .ok (.invokevirtual 443, 3) := by decide +kernel
theorem dX12_spans_74 : decode cX12_spans 74 = .ok (.ifCond .eq 7, 3) := by decide +kernel
theorem dX12_spans_77 : decode cX12_spans 77 = .ok (.iconst 1, 1) := by decide +kernel
theorem dX12_spans_78 : decode cX12_spans 78 = .ok (.goto 4, 3) := by decide +kernel
theorem dX12_spans_81 : decode cX12_spans 81 = .ok (.iconst 0, 1) := by decide +kernel
theorem dX12_spans_82 : decode cX12_spans 82 = .ok (.isub, 1) := by decide +kernel
theorem dX12_spans_83 : decode cX12_spans 83 = .ok (.istore_n 3, 1) := by decide +kernel
theorem dX12_spans_84 : decode cX12_spans 84 = .ok (.iinc 4 1, 3) := by decide +kernel
theorem dX12_spans_87 : decode cX12_spans 87 = .ok (.goto (-35), 3) := by decide +kernel
theorem dX12_spans_90 : decode cX12_spans 90 = .ok (.iload 4, 2) := by decide +kernel
theorem dX12_spans_92 : decode cX12_spans 92 = .ok (.ireturn, 1) := by decide +kernel
def Md_spans_82 (k52 : Int32 → Int32 → Int32 → Nm → Option (Int32 × Nm)) (x1 : Int32) (x4 : Int32) (s0 : Int32) (s1 : Int32) (ν : Nm) : Option (Int32 × Nm) :=
  k52 x1 (s1 - s0) (x4 + (1 : Int32)) ν
set_option maxRecDepth 100000 in
set_option maxHeartbeats 4000000 in
theorem t_Md_spans_82 {g : GG} {d : Nat} (hd0 : 5 ≤ d) {k52 : Int32 → Int32 → Int32 → Nm → Option (Int32 × Nm)} (hk52 : ∀ (x1 : Int32) (x3 : Int32) (x4 : Int32) (ν : Nm) (r : (Int32 × Nm)), k52 x1 x3 x4 ν = some r → Z g d (0, 0) mX12_spans 333 0 0 52 [(0, .ref 313), (1, .int x1), (3, .int x3), (4, .int x4)] [] (zem ν) (zF g (some (.int r.1), zem r.2))) : ∀ (x1 : Int32) (x4 : Int32) (s0 : Int32) (s1 : Int32) (ν : Nm) (r : (Int32 × Nm)), Md_spans_82 k52 x1 x4 s0 s1 ν = some r → Z g d (0, 0) mX12_spans 333 0 0 82 [(0, .ref 313), (1, .int x1), (4, .int x4)] [.int s0, .int s1] (zem ν) (zF g (some (.int r.1), zem r.2)) := by
  intro x1 x4 s0 s1 ν r h
  unfold Md_spans_82 at h
  refine z_isub dX12_spans_82 ?_
  refine z_istore_n (M := mX12_spans) (lv2 := [(3, .int (s1 - s0)), (0, .ref 313), (1, .int x1), (4, .int x4)]) dX12_spans_83 (Nat.le_of_ble_eq_true rfl) rfl ?_
  refine z_iinc (M := mX12_spans) (v := (x4 + (1 : Int32))) (lv2 := [(4, .int (x4 + (1 : Int32))), (3, .int (s1 - s0)), (0, .ref 313), (1, .int x1)]) dX12_spans_84 3 rfl rfl (Nat.le_of_ble_eq_true rfl) rfl ?_
  refine z_goto 52 dX12_spans_87 rfl ?_
  refine z_lv (lv2 := [(0, .ref 313), (1, .int x1), (3, .int (s1 - s0)), (4, .int (x4 + (1 : Int32)))]) [2, 3, 1, 0] rfl ?_
  exact hk52 x1 (s1 - s0) (x4 + (1 : Int32)) ν _ h
def Md_spans_66 (k52 : Int32 → Int32 → Int32 → Nm → Option (Int32 × Nm)) (x1 : Int32) (x3 : Int32) (x4 : Int32) (ν : Nm) : Option (Int32 × Nm) :=
  (Md_isGiven x1 x4 ν).bind fun v1 =>
  (if (b2i v1.1) = 0 then
    Md_spans_82 k52 x1 x4 (0 : Int32) x3 v1.2
  else
    Md_spans_82 k52 x1 x4 (1 : Int32) x3 v1.2)
set_option maxRecDepth 100000 in
set_option maxHeartbeats 4000000 in
theorem t_Md_spans_66 {g : GG} {d : Nat} (hd0 : 5 ≤ d) {k52 : Int32 → Int32 → Int32 → Nm → Option (Int32 × Nm)} (hk52 : ∀ (x1 : Int32) (x3 : Int32) (x4 : Int32) (ν : Nm) (r : (Int32 × Nm)), k52 x1 x3 x4 ν = some r → Z g d (0, 0) mX12_spans 333 0 0 52 [(0, .ref 313), (1, .int x1), (3, .int x3), (4, .int x4)] [] (zem ν) (zF g (some (.int r.1), zem r.2))) : ∀ (x1 : Int32) (x3 : Int32) (x4 : Int32) (ν : Nm) (r : (Int32 × Nm)), Md_spans_66 k52 x1 x3 x4 ν = some r → Z g d (0, 0) mX12_spans 333 0 0 66 [(0, .ref 313), (1, .int x1), (3, .int x3), (4, .int x4)] [] (zem ν) (zF g (some (.int r.1), zem r.2)) := by
  intro x1 x3 x4 ν r h
  unfold Md_spans_66 at h
  refine z_iload_n dX12_spans_66 2 rfl ?_
  refine z_aload_n dX12_spans_67 0 rfl ?_
  refine z_iload_n dX12_spans_68 1 rfl ?_
  refine z_iload dX12_spans_69 3 rfl ?_
  obtain ⟨v1, he1, h⟩ := obind h
  refine y_Vi (M := mX12_spans) (Y := mX12_isGiven) (d2 := d - 1) (As := [.int x1, .int x4]) (st := [.int x3]) dX12_spans_71 mlRX12_443 cv_X12_isGiven zk_313 (ct_Md_isGiven (dle (Nat.le_of_ble_eq_true rfl) hd0) he1) (dps (Nat.le_of_ble_eq_true rfl) hd0) rfl rfl (Nat.le_of_ble_eq_true rfl) ?_
  refine z_if_eq 81 dX12_spans_74 rfl (fun hc2 => ?_) (fun hc2 => ?_)
  · replace h := oT hc2 h
    refine z_iconst (M := mX12_spans) (v := 0) dX12_spans_81 rfl ?_
    refine z_lv (lv2 := [(0, .ref 313), (1, .int x1), (4, .int x4)]) [0, 1, 3] rfl ?_
    exact t_Md_spans_82 hd0 hk52 x1 x4 (0 : Int32) x3 v1.2 _ h
  · replace h := oF hc2 h
    refine z_iconst (M := mX12_spans) (v := 1) dX12_spans_77 rfl ?_
    refine z_goto 82 dX12_spans_78 rfl ?_
    refine z_lv (lv2 := [(0, .ref 313), (1, .int x1), (4, .int x4)]) [0, 1, 3] rfl ?_
    exact t_Md_spans_82 hd0 hk52 x1 x4 (1 : Int32) x3 v1.2 _ h
def Md_spans_52 : Nat → Int32 → Int32 → Int32 → Nm → Option (Int32 × Nm)
  | 0, _, _, _, _ => none
  | f + 1, x1, x3, x4, ν =>
    (Md_isGiven x1 x4 ν).bind fun v1 =>
    (if (b2i v1.1) = 0 then
      Md_spans_66 (Md_spans_52 f) x1 x3 x4 v1.2
    else
      (if x3 ≤ 0 then
        some (x4, v1.2)
      else
        Md_spans_66 (Md_spans_52 f) x1 x3 x4 v1.2))
set_option maxRecDepth 100000 in
set_option maxHeartbeats 4000000 in
theorem t_Md_spans_52 {g : GG} {d : Nat} (hd0 : 5 ≤ d) : ∀ (f : Nat), ∀ (x1 : Int32) (x3 : Int32) (x4 : Int32) (ν : Nm) (r : (Int32 × Nm)), Md_spans_52 f x1 x3 x4 ν = some r → Z g d (0, 0) mX12_spans 333 0 0 52 [(0, .ref 313), (1, .int x1), (3, .int x3), (4, .int x4)] [] (zem ν) (zF g (some (.int r.1), zem r.2)) := by
  intro f
  induction f with
  | zero =>
    intro x1 x3 x4 ν r h
    cases h
  | succ f ih =>
    intro x1 x3 x4 ν r h
    rw [Md_spans_52] at h
    refine z_aload_n dX12_spans_52 0 rfl ?_
    refine z_iload_n dX12_spans_53 1 rfl ?_
    refine z_iload dX12_spans_54 3 rfl ?_
    obtain ⟨v1, he1, h⟩ := obind h
    refine y_Vi (M := mX12_spans) (Y := mX12_isGiven) (d2 := d - 1) (As := [.int x1, .int x4]) (st := []) dX12_spans_56 mlRX12_443 cv_X12_isGiven zk_313 (ct_Md_isGiven (dle (Nat.le_of_ble_eq_true rfl) hd0) he1) (dps (Nat.le_of_ble_eq_true rfl) hd0) rfl rfl (Nat.le_of_ble_eq_true rfl) ?_
    refine z_if_eq 66 dX12_spans_59 rfl (fun hc2 => ?_) (fun hc2 => ?_)
    · replace h := oT hc2 h
      exact t_Md_spans_66 hd0 ih x1 x3 x4 v1.2 _ h
    · replace h := oF hc2 h
      refine z_iload_n dX12_spans_62 2 rfl ?_
      refine z_if_le 90 dX12_spans_63 rfl (fun hc3 => ?_) (fun hc3 => ?_)
      · replace h := oT hc3 h
        refine z_iload dX12_spans_90 3 rfl ?_
        cases h
        exact z_iret dX12_spans_92 rfl
      · replace h := oF hc3 h
        exact t_Md_spans_66 hd0 ih x1 x3 x4 v1.2 _ h
def Md_spans (x1 : Int32) (x2 : Int32) (ν : Nm) : Option (Int32 × Nm) :=
  (Md_areCords ν x1).bind fun v1 =>
  (if ¬ (b2i v1) = 0 then
    (Md_layGives x1 ν).bind fun v3 =>
    (if ¬ x2 = (-1 : Int32) then
      if inb x1 16 then
      (Md_isIn x2 (0 : Int32) ((gi v3 328 x1.toNatClampNeg) - (1 : Int32))).bind fun v6 =>
      (if ¬ (b2i v6) = 0 then
        Md_spans_52 FU x1 x2 (1 : Int32) v3
      else
        some ((-2 : Int32), v3))
      else none
    else
      if inb x1 16 then
      some ((gi v3 328 x1.toNatClampNeg), v3)
      else none)
  else
    some ((-2 : Int32), ν))
set_option maxRecDepth 100000 in
set_option maxHeartbeats 4000000 in
theorem t_Md_spans {g : GG} {d : Nat} (hd0 : 5 ≤ d) : ∀ (x1 : Int32) (x2 : Int32) (ν : Nm) (r : (Int32 × Nm)), Md_spans x1 x2 ν = some r → Z g d (0, 0) mX12_spans 333 0 0 0 [(0, .ref 313), (1, .int x1), (2, .int x2)] [] (zem ν) (zF g (some (.int r.1), zem r.2)) := by
  intro x1 x2 ν r h
  unfold Md_spans at h
  refine z_aload_n dX12_spans_0 0 rfl ?_
  refine z_iload_n dX12_spans_1 1 rfl ?_
  obtain ⟨v1, he1, h⟩ := obind h
  refine y_Vi (M := mX12_spans) (Y := mX12_areCords) (d2 := d - 1) (As := [.int x1]) (st := []) dX12_spans_2 mlRX12_440 cv_X12_areCords zk_313 (ct_Md_areCords (dle (Nat.le_of_ble_eq_true rfl) hd0) he1) (dps (Nat.le_of_ble_eq_true rfl) hd0) rfl rfl (Nat.le_of_ble_eq_true rfl) ?_
  refine z_if_ne 11 dX12_spans_5 rfl (fun hc2 => ?_) (fun hc2 => ?_)
  · replace h := oT hc2 h
    refine z_aload_n dX12_spans_11 0 rfl ?_
    refine z_iload_n dX12_spans_12 1 rfl ?_
    obtain ⟨v3, he3, h⟩ := obind h
    refine y_Vv (M := mX12_spans) (Y := mX12_layGives) (d2 := d - 1) (As := [.int x1]) (st := []) dX12_spans_13 mlRX12_437 cv_X12_layGives zk_313 (ct_Md_layGives (dle (Nat.le_of_ble_eq_true rfl) hd0) he3) (dps (Nat.le_of_ble_eq_true rfl) hd0) rfl rfl (Nat.le_of_ble_eq_true rfl) ?_
    refine z_iload_n dX12_spans_16 2 rfl ?_
    refine z_iconst (M := mX12_spans) (v := -1) dX12_spans_17 rfl ?_
    refine z_icmp_ne 28 dX12_spans_18 rfl (fun hc4 => ?_) (fun hc4 => ?_)
    · replace h := oT hc4 h
      refine z_iload_n dX12_spans_28 2 rfl ?_
      refine z_iconst (M := mX12_spans) (v := 0) dX12_spans_29 rfl ?_
      refine z_aload_n dX12_spans_30 0 rfl ?_
      refine y_getR (M := mX12_spans) (r := 328) dX12_spans_31 zk_313 flRX12_66 fr_10_31.1 (fr_10_31.2 _) ?_
      refine z_iload_n dX12_spans_34 1 rfl ?_
      obtain ⟨hi5, h⟩ := oif h
      refine y_iald (M := mX12_spans) (jj := x1.toNatClampNeg) dX12_spans_35 zk_328 hi5 rfl ?_
      refine z_iconst (M := mX12_spans) (v := 1) dX12_spans_36 rfl ?_
      refine z_isub dX12_spans_37 ?_
      obtain ⟨v6, he6, h⟩ := obind h
      refine y_Si (M := mX12_spans) (Y := mX12_isIn) (d2 := d - 1) (As := [.int x2, .int (0 : Int32), .int ((gi v3 328 x1.toNatClampNeg) - (1 : Int32))]) (st := []) dX12_spans_38 mlRX12_88 cv_X12_isIn (ct_Md_isIn (dle (Nat.le_of_ble_eq_true rfl) hd0) he6) (dps (Nat.le_of_ble_eq_true rfl) hd0) rfl rfl (Nat.le_of_ble_eq_true rfl) ?_
      refine z_if_ne 47 dX12_spans_41 rfl (fun hc7 => ?_) (fun hc7 => ?_)
      · replace h := oT hc7 h
        refine z_iload_n dX12_spans_47 2 rfl ?_
        refine z_istore_n (M := mX12_spans) (lv2 := [(3, .int x2), (0, .ref 313), (1, .int x1), (2, .int x2)]) dX12_spans_48 (Nat.le_of_ble_eq_true rfl) rfl ?_
        refine z_iconst (M := mX12_spans) (v := 1) dX12_spans_49 rfl ?_
        refine z_istore (M := mX12_spans) (lv2 := [(4, .int (1 : Int32)), (3, .int x2), (0, .ref 313), (1, .int x1), (2, .int x2)]) dX12_spans_50 (Nat.le_of_ble_eq_true rfl) rfl ?_
        refine z_lv (lv2 := [(0, .ref 313), (1, .int x1), (3, .int x2), (4, .int (1 : Int32))]) [2, 3, 1, 0] rfl ?_
        exact t_Md_spans_52 hd0 FU x1 x2 (1 : Int32) v3 _ h
      · replace h := oFn hc7 h
        refine z_bipush (M := mX12_spans) (v := -2) dX12_spans_44 rfl ?_
        cases h
        exact z_iret dX12_spans_46 rfl
    · replace h := oFn hc4 h
      refine z_aload_n dX12_spans_21 0 rfl ?_
      refine y_getR (M := mX12_spans) (r := 328) dX12_spans_22 zk_313 flRX12_66 fr_10_31.1 (fr_10_31.2 _) ?_
      refine z_iload_n dX12_spans_25 1 rfl ?_
      obtain ⟨hi8, h⟩ := oif h
      refine y_iald (M := mX12_spans) (jj := x1.toNatClampNeg) dX12_spans_26 zk_328 hi8 rfl ?_
      cases h
      exact z_iret dX12_spans_27 rfl
  · replace h := oFn hc2 h
    refine z_bipush (M := mX12_spans) (v := -2) dX12_spans_8 rfl ?_
    cases h
    exact z_iret dX12_spans_10 rfl
theorem ct_Md_spans {g : GG} {d : Nat} {x1 : Int32} {x2 : Int32} {ν : Nm} {r : (Int32 × Nm)} (hd0 : 5 ≤ d)  (h : Md_spans x1 x2 ν = some r) : Ct g d mX12_spans [.ref 313, .int x1, .int x2] (zem ν) (some (.int r.1), zem r.2) := y_entry in_X12_spans (Nat.le_of_ble_eq_true rfl) rfl (t_Md_spans hd0 x1 x2 ν r h)
-- FuseMinutesModel.can(II)Z
theorem dX12_can_0 : decode cX12_can 0 = .ok (.aload_n 0, 1) := by decide +kernel
theorem dX12_can_1 : decode cX12_can 1 = .ok (.iload_n 1, 1) := by decide +kernel
theorem dX12_can_2 : decode cX12_can 2 = .ok (.invokevirtual 440, 3) := by decide +kernel
theorem dX12_can_5 : decode cX12_can 5 = .ok (.ifCond .eq 23, 3) := by decide +kernel
theorem dX12_can_8 : decode cX12_can 8 = .ok (.iload_n 2, 1) := by decide +kernel
theorem dX12_can_9 : decode cX12_can 9 = .ok (.invokestatic 446, 3) := by decide +kernel
theorem dX12_can_12 : decode cX12_can 12 = .ok (.ifCond .eq 16, 3) := by decide +kernel
theorem dX12_can_15 : decode cX12_can 15 = .ok (.aload_n 0, 1) := by decide +kernel
theorem dX12_can_16 : decode cX12_can 16 = .ok (.iload_n 1, 1) := by decide +kernel
theorem dX12_can_17 : decode cX12_can 17 = .ok (.iload_n 2, 1) := by decide +kernel
theorem dX12_can_18 : decode cX12_can 18 = .ok (.invokevirtual 443, 3) := by decide +kernel
theorem dX12_can_21 : decode cX12_can 21 = .ok (.ifCond .eq 7, 3) := by decide +kernel
theorem dX12_can_24 : decode cX12_can 24 = .ok (.iconst 1, 1) := by decide +kernel
theorem dX12_can_25 : decode cX12_can 25 = .ok (.goto 4, 3) := by decide +kernel
theorem dX12_can_28 : decode cX12_can 28 = .ok (.iconst 0, 1) := by decide +kernel
theorem dX12_can_29 : decode cX12_can 29 = .ok (.ireturn, 1) := by decide +kernel
def Md_can (x1 : Int32) (x2 : Int32) (ν : Nm) : Option (Bool × Nm) :=
  (Md_areCords ν x1).bind fun v1 =>
  (if (b2i v1) = 0 then
    some (false, ν)
  else
    (Md_isSpan x2).bind fun v3 =>
    (if (b2i v3) = 0 then
      some (false, ν)
    else
      (Md_isGiven x1 x2 ν).bind fun v5 =>
      (if (b2i v5.1) = 0 then
        some (false, v5.2)
      else
        some (true, v5.2))))
set_option maxRecDepth 100000 in
set_option maxHeartbeats 4000000 in
theorem t_Md_can {g : GG} {d : Nat} (hd0 : 5 ≤ d) : ∀ (x1 : Int32) (x2 : Int32) (ν : Nm) (r : (Bool × Nm)), Md_can x1 x2 ν = some r → Z g d (0, 0) mX12_can 333 0 0 0 [(0, .ref 313), (1, .int x1), (2, .int x2)] [] (zem ν) (zF g (some (.int (b2i r.1)), zem r.2)) := by
  intro x1 x2 ν r h
  unfold Md_can at h
  refine z_aload_n dX12_can_0 0 rfl ?_
  refine z_iload_n dX12_can_1 1 rfl ?_
  obtain ⟨v1, he1, h⟩ := obind h
  refine y_Vi (M := mX12_can) (Y := mX12_areCords) (d2 := d - 1) (As := [.int x1]) (st := []) dX12_can_2 mlRX12_440 cv_X12_areCords zk_313 (ct_Md_areCords (dle (Nat.le_of_ble_eq_true rfl) hd0) he1) (dps (Nat.le_of_ble_eq_true rfl) hd0) rfl rfl (Nat.le_of_ble_eq_true rfl) ?_
  refine z_if_eq 28 dX12_can_5 rfl (fun hc2 => ?_) (fun hc2 => ?_)
  · replace h := oT hc2 h
    refine z_iconst (M := mX12_can) (v := 0) dX12_can_28 rfl ?_
    cases h
    exact z_zret dX12_can_29 rfl rfl
  · replace h := oF hc2 h
    refine z_iload_n dX12_can_8 2 rfl ?_
    obtain ⟨v3, he3, h⟩ := obind h
    refine y_Si (M := mX12_can) (Y := mX12_isSpan) (d2 := d - 1) (As := [.int x2]) (st := []) dX12_can_9 mlRX12_446 cv_X12_isSpan (ct_Md_isSpan (dle (Nat.le_of_ble_eq_true rfl) hd0) he3) (dps (Nat.le_of_ble_eq_true rfl) hd0) rfl rfl (Nat.le_of_ble_eq_true rfl) ?_
    refine z_if_eq 28 dX12_can_12 rfl (fun hc4 => ?_) (fun hc4 => ?_)
    · replace h := oT hc4 h
      refine z_iconst (M := mX12_can) (v := 0) dX12_can_28 rfl ?_
      cases h
      exact z_zret dX12_can_29 rfl rfl
    · replace h := oF hc4 h
      refine z_aload_n dX12_can_15 0 rfl ?_
      refine z_iload_n dX12_can_16 1 rfl ?_
      refine z_iload_n dX12_can_17 2 rfl ?_
      obtain ⟨v5, he5, h⟩ := obind h
      refine y_Vi (M := mX12_can) (Y := mX12_isGiven) (d2 := d - 1) (As := [.int x1, .int x2]) (st := []) dX12_can_18 mlRX12_443 cv_X12_isGiven zk_313 (ct_Md_isGiven (dle (Nat.le_of_ble_eq_true rfl) hd0) he5) (dps (Nat.le_of_ble_eq_true rfl) hd0) rfl rfl (Nat.le_of_ble_eq_true rfl) ?_
      refine z_if_eq 28 dX12_can_21 rfl (fun hc6 => ?_) (fun hc6 => ?_)
      · replace h := oT hc6 h
        refine z_iconst (M := mX12_can) (v := 0) dX12_can_28 rfl ?_
        cases h
        exact z_zret dX12_can_29 rfl rfl
      · replace h := oF hc6 h
        refine z_iconst (M := mX12_can) (v := 1) dX12_can_24 rfl ?_
        refine z_goto 29 dX12_can_25 rfl ?_
        cases h
        exact z_zret dX12_can_29 rfl rfl
theorem ct_Md_can {g : GG} {d : Nat} {x1 : Int32} {x2 : Int32} {ν : Nm} {r : (Bool × Nm)} (hd0 : 5 ≤ d)  (h : Md_can x1 x2 ν = some r) : Ct g d mX12_can [.ref 313, .int x1, .int x2] (zem ν) (some (.int (b2i r.1)), zem r.2) := y_entry in_X12_can (Nat.le_of_ble_eq_true rfl) rfl (t_Md_can hd0 x1 x2 ν r h)
-- FuseMinutesModel.nearest(II)I
theorem dX12_nearest_0 : decode cX12_nearest 0 = .ok (.aload_n 0, 1) := by decide +kernel
theorem dX12_nearest_1 : decode cX12_nearest 1 = .ok (.iload_n 1, 1) := by decide +kernel
theorem dX12_nearest_2 : decode cX12_nearest 2 = .ok (.invokevirtual 440, 3) := by decide +kernel
theorem dX12_nearest_5 : decode cX12_nearest 5 = .ok (.ifCond .eq 10, 3) := by decide +kernel
theorem dX12_nearest_8 : decode cX12_nearest 8 = .ok (.iload_n 2, 1) := by decide +kernel
theorem dX12_nearest_9 : decode cX12_nearest 9 = .ok (.invokestatic 446, 3) := by decide +kernel
theorem dX12_nearest_12 : decode cX12_nearest 12 = .ok (.ifCond .ne 5, 3) := by decide +kernel
theorem dX12_nearest_15 : decode cX12_nearest 15 = .ok (.iconst (-1), 1) := by decide +kernel
theorem dX12_nearest_16 : decode cX12_nearest 16 = .ok (.ireturn, 1) := by decide +kernel
theorem dX12_nearest_17 : decode cX12_nearest 17 = .ok (.iconst 0, 1) := by decide +kernel
theorem dX12_nearest_18 : decode cX12_nearest 18 = .ok (.istore_n 3, 1) := by decide +kernel
theorem dX12_nearest_19 : decode cX12_nearest 19 = .ok (.iload_n 3, 1) := by decide +kernel
theorem dX12_nearest_20 : decode cX12_nearest 20 = .ok (.sipush 15360, 3) := by decide +kernel
theorem dX12_nearest_23 : decode cX12_nearest 23 = .ok (.if_icmp .gt 54, 3) := by decide +kernel
theorem dX12_nearest_26 : decode cX12_nearest 26 = .ok (.iload_n 2, 1) := by decide +kernel
theorem dX12_nearest_27 : decode cX12_nearest 27 = .ok (.iload_n 3, 1) := by decide +kernel
theorem dX12_nearest_28 : decode cX12_nearest 28 = .ok (.isub, 1) := by decide +kernel
theorem dX12_nearest_29 : decode cX12_nearest 29 = .ok (.ifCond .le 18, 3) := by decide +kernel
theorem dX12_nearest_32 : decode cX12_nearest 32 = .ok (.aload_n 0, 1) := by decide +kernel
theorem dX12_nearest_33 : decode cX12_nearest 33 = .ok (.iload_n 1, 1) := by decide +kernel
theorem dX12_nearest_34 : decode cX12_nearest 34 = .ok (.iload_n 2, 1) := by decide +kernel
theorem dX12_nearest_35 : decode cX12_nearest 35 = .ok (.iload_n 3, 1) := by decide +kernel
theorem dX12_nearest_36 : decode cX12_nearest 36 = .ok (.isub, 1) := by decide +kernel
theorem dX12_nearest_37 : decode cX12_nearest 37 = .ok (.invokevirtual 443, 3) := by decide +kernel
theorem dX12_nearest_40 : decode cX12_nearest 40 = .ok (.ifCond .eq 7, 3) := by decide +kernel
theorem dX12_nearest_43 : decode cX12_nearest 43 = .ok (.iload_n 2, 1) := by decide +kernel
theorem dX12_nearest_44 : decode cX12_nearest 44 = .ok (.iload_n 3, 1) := by decide +kernel
theorem dX12_nearest_45 : decode cX12_nearest 45 = .ok (.isub, 1) := by decide +kernel
theorem dX12_nearest_46 : decode cX12_nearest 46 = .ok (.ireturn, 1) := by decide +kernel
theorem dX12_nearest_47 : decode cX12_nearest 47 = .ok (.iload_n 2, 1) := by decide +kernel
theorem dX12_nearest_48 : decode cX12_nearest 48 = .ok (.iload_n 3, 1) := by decide +kernel
theorem dX12_nearest_49 : decode cX12_nearest 49 = .ok (.iadd, 1) := by decide +kernel
theorem dX12_nearest_50 : decode cX12_nearest 50 = .ok (.sipush 15360, 3) := by decide +kernel
theorem dX12_nearest_53 : decode cX12_nearest 53 = .ok (.if_icmp .gt 18, 3) := by decide +kernel
theorem dX12_nearest_56 : decode cX12_nearest 56 = .ok (.aload_n 0, 1) := by decide +kernel
theorem dX12_nearest_57 : decode cX12_nearest 57 = .ok (.iload_n 1, 1) := by decide +kernel
theorem dX12_nearest_58 : decode cX12_nearest 58 = .ok (.iload_n 2, 1) := by decide +kernel
theorem dX12_nearest_59 : decode cX12_nearest 59 = .ok (.iload_n 3, 1) := by decide +kernel
theorem dX12_nearest_60 : decode cX12_nearest 60 = .ok (.iadd, 1) := by decide +kernel
theorem dX12_nearest_61 : decode cX12_nearest 61 = .ok (.invokevirtual 443, 3) := by decide +kernel
theorem dX12_nearest_64 : decode cX12_nearest 64 = .ok (.ifCond .eq 7, 3) := by decide +kernel
theorem dX12_nearest_67 : decode cX12_nearest 67 = .ok (.iload_n 2, 1) := by decide +kernel
theorem dX12_nearest_68 : decode cX12_nearest 68 = .ok (.iload_n 3, 1) := by decide +kernel
theorem dX12_nearest_69 : decode cX12_nearest 69 = .ok (.iadd, 1) := by decide +kernel
theorem dX12_nearest_70 : decode cX12_nearest 70 = .ok (.ireturn, 1) := by decide +kernel
theorem dX12_nearest_71 : decode cX12_nearest 71 = .ok (.iinc 3 1, 3) := by decide +kernel
theorem dX12_nearest_74 : decode cX12_nearest 74 = .ok (.goto (-55), 3) := by decide +kernel
theorem dX12_nearest_77 : decode cX12_nearest 77 = .ok (.iconst (-1), 1) := by decide +kernel
theorem dX12_nearest_78 : decode cX12_nearest 78 = .ok (.ireturn, 1) := by decide +kernel
def Md_nearest_71 (k19 : Int32 → Int32 → Int32 → Nm → Option (Int32 × Nm)) (x1 : Int32) (x2 : Int32) (x3 : Int32) (ν : Nm) : Option (Int32 × Nm) :=
  k19 x1 x2 (x3 + (1 : Int32)) ν
set_option maxRecDepth 100000 in
set_option maxHeartbeats 4000000 in
theorem t_Md_nearest_71 {g : GG} {d : Nat} (hd0 : 5 ≤ d) {k19 : Int32 → Int32 → Int32 → Nm → Option (Int32 × Nm)} (hk19 : ∀ (x1 : Int32) (x2 : Int32) (x3 : Int32) (ν : Nm) (r : (Int32 × Nm)), k19 x1 x2 x3 ν = some r → Z g d (0, 0) mX12_nearest 333 0 0 19 [(0, .ref 313), (1, .int x1), (2, .int x2), (3, .int x3)] [] (zem ν) (zF g (some (.int r.1), zem r.2))) : ∀ (x1 : Int32) (x2 : Int32) (x3 : Int32) (ν : Nm) (r : (Int32 × Nm)), Md_nearest_71 k19 x1 x2 x3 ν = some r → Z g d (0, 0) mX12_nearest 333 0 0 71 [(0, .ref 313), (1, .int x1), (2, .int x2), (3, .int x3)] [] (zem ν) (zF g (some (.int r.1), zem r.2)) := by
  intro x1 x2 x3 ν r h
  unfold Md_nearest_71 at h
  refine z_iinc (M := mX12_nearest) (v := (x3 + (1 : Int32))) (lv2 := [(3, .int (x3 + (1 : Int32))), (0, .ref 313), (1, .int x1), (2, .int x2)]) dX12_nearest_71 3 rfl rfl (Nat.le_of_ble_eq_true rfl) rfl ?_
  refine z_goto 19 dX12_nearest_74 rfl ?_
  refine z_lv (lv2 := [(0, .ref 313), (1, .int x1), (2, .int x2), (3, .int (x3 + (1 : Int32)))]) [1, 2, 3, 0] rfl ?_
  exact hk19 x1 x2 (x3 + (1 : Int32)) ν _ h
def Md_nearest_47 (k19 : Int32 → Int32 → Int32 → Nm → Option (Int32 × Nm)) (x1 : Int32) (x2 : Int32) (x3 : Int32) (ν : Nm) : Option (Int32 × Nm) :=
  (if (15360 : Int32) < (x2 + x3) then
    Md_nearest_71 k19 x1 x2 x3 ν
  else
    (Md_isGiven x1 (x2 + x3) ν).bind fun v2 =>
    (if (b2i v2.1) = 0 then
      Md_nearest_71 k19 x1 x2 x3 v2.2
    else
      some ((x2 + x3), v2.2)))
set_option maxRecDepth 100000 in
set_option maxHeartbeats 4000000 in
theorem t_Md_nearest_47 {g : GG} {d : Nat} (hd0 : 5 ≤ d) {k19 : Int32 → Int32 → Int32 → Nm → Option (Int32 × Nm)} (hk19 : ∀ (x1 : Int32) (x2 : Int32) (x3 : Int32) (ν : Nm) (r : (Int32 × Nm)), k19 x1 x2 x3 ν = some r → Z g d (0, 0) mX12_nearest 333 0 0 19 [(0, .ref 313), (1, .int x1), (2, .int x2), (3, .int x3)] [] (zem ν) (zF g (some (.int r.1), zem r.2))) : ∀ (x1 : Int32) (x2 : Int32) (x3 : Int32) (ν : Nm) (r : (Int32 × Nm)), Md_nearest_47 k19 x1 x2 x3 ν = some r → Z g d (0, 0) mX12_nearest 333 0 0 47 [(0, .ref 313), (1, .int x1), (2, .int x2), (3, .int x3)] [] (zem ν) (zF g (some (.int r.1), zem r.2)) := by
  intro x1 x2 x3 ν r h
  unfold Md_nearest_47 at h
  refine z_iload_n dX12_nearest_47 2 rfl ?_
  refine z_iload_n dX12_nearest_48 3 rfl ?_
  refine z_iadd dX12_nearest_49 ?_
  refine z_sipush (M := mX12_nearest) (v := 15360) dX12_nearest_50 rfl ?_
  refine z_icmp_gt 71 dX12_nearest_53 rfl (fun hc1 => ?_) (fun hc1 => ?_)
  · replace h := oT hc1 h
    exact t_Md_nearest_71 hd0 hk19 x1 x2 x3 ν _ h
  · replace h := oF hc1 h
    refine z_aload_n dX12_nearest_56 0 rfl ?_
    refine z_iload_n dX12_nearest_57 1 rfl ?_
    refine z_iload_n dX12_nearest_58 2 rfl ?_
    refine z_iload_n dX12_nearest_59 3 rfl ?_
    refine z_iadd dX12_nearest_60 ?_
    obtain ⟨v2, he2, h⟩ := obind h
    refine y_Vi (M := mX12_nearest) (Y := mX12_isGiven) (d2 := d - 1) (As := [.int x1, .int (x2 + x3)]) (st := []) dX12_nearest_61 mlRX12_443 cv_X12_isGiven zk_313 (ct_Md_isGiven (dle (Nat.le_of_ble_eq_true rfl) hd0) he2) (dps (Nat.le_of_ble_eq_true rfl) hd0) rfl rfl (Nat.le_of_ble_eq_true rfl) ?_
    refine z_if_eq 71 dX12_nearest_64 rfl (fun hc3 => ?_) (fun hc3 => ?_)
    · replace h := oT hc3 h
      exact t_Md_nearest_71 hd0 hk19 x1 x2 x3 v2.2 _ h
    · replace h := oF hc3 h
      refine z_iload_n dX12_nearest_67 2 rfl ?_
      refine z_iload_n dX12_nearest_68 3 rfl ?_
      refine z_iadd dX12_nearest_69 ?_
      cases h
      exact z_iret dX12_nearest_70 rfl
def Md_nearest_19 : Nat → Int32 → Int32 → Int32 → Nm → Option (Int32 × Nm)
  | 0, _, _, _, _ => none
  | f + 1, x1, x2, x3, ν =>
    (if (15360 : Int32) < x3 then
      some ((-1 : Int32), ν)
    else
      (if (x2 - x3) ≤ 0 then
        Md_nearest_47 (Md_nearest_19 f) x1 x2 x3 ν
      else
        (Md_isGiven x1 (x2 - x3) ν).bind fun v3 =>
        (if (b2i v3.1) = 0 then
          Md_nearest_47 (Md_nearest_19 f) x1 x2 x3 v3.2
        else
          some ((x2 - x3), v3.2))))
set_option maxRecDepth 100000 in
set_option maxHeartbeats 4000000 in
theorem t_Md_nearest_19 {g : GG} {d : Nat} (hd0 : 5 ≤ d) : ∀ (f : Nat), ∀ (x1 : Int32) (x2 : Int32) (x3 : Int32) (ν : Nm) (r : (Int32 × Nm)), Md_nearest_19 f x1 x2 x3 ν = some r → Z g d (0, 0) mX12_nearest 333 0 0 19 [(0, .ref 313), (1, .int x1), (2, .int x2), (3, .int x3)] [] (zem ν) (zF g (some (.int r.1), zem r.2)) := by
  intro f
  induction f with
  | zero =>
    intro x1 x2 x3 ν r h
    cases h
  | succ f ih =>
    intro x1 x2 x3 ν r h
    rw [Md_nearest_19] at h
    refine z_iload_n dX12_nearest_19 3 rfl ?_
    refine z_sipush (M := mX12_nearest) (v := 15360) dX12_nearest_20 rfl ?_
    refine z_icmp_gt 77 dX12_nearest_23 rfl (fun hc1 => ?_) (fun hc1 => ?_)
    · replace h := oT hc1 h
      refine z_iconst (M := mX12_nearest) (v := -1) dX12_nearest_77 rfl ?_
      cases h
      exact z_iret dX12_nearest_78 rfl
    · replace h := oF hc1 h
      refine z_iload_n dX12_nearest_26 2 rfl ?_
      refine z_iload_n dX12_nearest_27 3 rfl ?_
      refine z_isub dX12_nearest_28 ?_
      refine z_if_le 47 dX12_nearest_29 rfl (fun hc2 => ?_) (fun hc2 => ?_)
      · replace h := oT hc2 h
        exact t_Md_nearest_47 hd0 ih x1 x2 x3 ν _ h
      · replace h := oF hc2 h
        refine z_aload_n dX12_nearest_32 0 rfl ?_
        refine z_iload_n dX12_nearest_33 1 rfl ?_
        refine z_iload_n dX12_nearest_34 2 rfl ?_
        refine z_iload_n dX12_nearest_35 3 rfl ?_
        refine z_isub dX12_nearest_36 ?_
        obtain ⟨v3, he3, h⟩ := obind h
        refine y_Vi (M := mX12_nearest) (Y := mX12_isGiven) (d2 := d - 1) (As := [.int x1, .int (x2 - x3)]) (st := []) dX12_nearest_37 mlRX12_443 cv_X12_isGiven zk_313 (ct_Md_isGiven (dle (Nat.le_of_ble_eq_true rfl) hd0) he3) (dps (Nat.le_of_ble_eq_true rfl) hd0) rfl rfl (Nat.le_of_ble_eq_true rfl) ?_
        refine z_if_eq 47 dX12_nearest_40 rfl (fun hc4 => ?_) (fun hc4 => ?_)
        · replace h := oT hc4 h
          exact t_Md_nearest_47 hd0 ih x1 x2 x3 v3.2 _ h
        · replace h := oF hc4 h
          refine z_iload_n dX12_nearest_43 2 rfl ?_
          refine z_iload_n dX12_nearest_44 3 rfl ?_
          refine z_isub dX12_nearest_45 ?_
          cases h
          exact z_iret dX12_nearest_46 rfl
def Md_nearest (x1 : Int32) (x2 : Int32) (ν : Nm) : Option (Int32 × Nm) :=
  (Md_areCords ν x1).bind fun v1 =>
  (if (b2i v1) = 0 then
    some ((-1 : Int32), ν)
  else
    (Md_isSpan x2).bind fun v3 =>
    (if ¬ (b2i v3) = 0 then
      Md_nearest_19 FU x1 x2 (0 : Int32) ν
    else
      some ((-1 : Int32), ν)))
set_option maxRecDepth 100000 in
set_option maxHeartbeats 4000000 in
theorem t_Md_nearest {g : GG} {d : Nat} (hd0 : 5 ≤ d) : ∀ (x1 : Int32) (x2 : Int32) (ν : Nm) (r : (Int32 × Nm)), Md_nearest x1 x2 ν = some r → Z g d (0, 0) mX12_nearest 333 0 0 0 [(0, .ref 313), (1, .int x1), (2, .int x2)] [] (zem ν) (zF g (some (.int r.1), zem r.2)) := by
  intro x1 x2 ν r h
  unfold Md_nearest at h
  refine z_aload_n dX12_nearest_0 0 rfl ?_
  refine z_iload_n dX12_nearest_1 1 rfl ?_
  obtain ⟨v1, he1, h⟩ := obind h
  refine y_Vi (M := mX12_nearest) (Y := mX12_areCords) (d2 := d - 1) (As := [.int x1]) (st := []) dX12_nearest_2 mlRX12_440 cv_X12_areCords zk_313 (ct_Md_areCords (dle (Nat.le_of_ble_eq_true rfl) hd0) he1) (dps (Nat.le_of_ble_eq_true rfl) hd0) rfl rfl (Nat.le_of_ble_eq_true rfl) ?_
  refine z_if_eq 15 dX12_nearest_5 rfl (fun hc2 => ?_) (fun hc2 => ?_)
  · replace h := oT hc2 h
    refine z_iconst (M := mX12_nearest) (v := -1) dX12_nearest_15 rfl ?_
    cases h
    exact z_iret dX12_nearest_16 rfl
  · replace h := oF hc2 h
    refine z_iload_n dX12_nearest_8 2 rfl ?_
    obtain ⟨v3, he3, h⟩ := obind h
    refine y_Si (M := mX12_nearest) (Y := mX12_isSpan) (d2 := d - 1) (As := [.int x2]) (st := []) dX12_nearest_9 mlRX12_446 cv_X12_isSpan (ct_Md_isSpan (dle (Nat.le_of_ble_eq_true rfl) hd0) he3) (dps (Nat.le_of_ble_eq_true rfl) hd0) rfl rfl (Nat.le_of_ble_eq_true rfl) ?_
    refine z_if_ne 17 dX12_nearest_12 rfl (fun hc4 => ?_) (fun hc4 => ?_)
    · replace h := oT hc4 h
      refine z_iconst (M := mX12_nearest) (v := 0) dX12_nearest_17 rfl ?_
      refine z_istore_n (M := mX12_nearest) (lv2 := [(3, .int (0 : Int32)), (0, .ref 313), (1, .int x1), (2, .int x2)]) dX12_nearest_18 (Nat.le_of_ble_eq_true rfl) rfl ?_
      refine z_lv (lv2 := [(0, .ref 313), (1, .int x1), (2, .int x2), (3, .int (0 : Int32))]) [1, 2, 3, 0] rfl ?_
      exact t_Md_nearest_19 hd0 FU x1 x2 (0 : Int32) ν _ h
    · replace h := oFn hc4 h
      refine z_iconst (M := mX12_nearest) (v := -1) dX12_nearest_15 rfl ?_
      cases h
      exact z_iret dX12_nearest_16 rfl
theorem ct_Md_nearest {g : GG} {d : Nat} {x1 : Int32} {x2 : Int32} {ν : Nm} {r : (Int32 × Nm)} (hd0 : 5 ≤ d)  (h : Md_nearest x1 x2 ν = some r) : Ct g d mX12_nearest [.ref 313, .int x1, .int x2] (zem ν) (some (.int r.1), zem r.2) := y_entry in_X12_nearest (Nat.le_of_ble_eq_true rfl) rfl (t_Md_nearest hd0 x1 x2 ν r h)
-- FuseMinutesModel.isSpanAt(II)Z
theorem dX12_isSpanAt_0 : decode cX12_isSpanAt 0 = .ok (.iconst 0, 1) := by decide +kernel
theorem dX12_isSpanAt_1 : decode cX12_isSpanAt 1 = .ok (.istore_n 3, 1) := by decide +kernel
theorem dX12_isSpanAt_2 : decode cX12_isSpanAt 2 = .ok (.iload_n 3, 1) := by decide +kernel
theorem dX12_isSpanAt_3 : decode cX12_isSpanAt 3 = .ok (.iload_n 1, 1) := by decide +kernel
theorem dX12_isSpanAt_4 : decode cX12_isSpanAt 4 = .ok (.if_icmp .ge 36, 3) := by decide +kernel
theorem dX12_isSpanAt_7 : decode cX12_isSpanAt 7 = .ok (.aload_n 0, 1) := by decide +kernel
theorem dX12_isSpanAt_8 : decode cX12_isSpanAt 8 = .ok (.getfield 50, 3) := by decide +kernel
theorem dX12_isSpanAt_11 : decode cX12_isSpanAt 11 = .ok (.iload_n 1, 1) := by decide +kernel
theorem dX12_isSpanAt_12 : decode cX12_isSpanAt 12 = .ok (.iaload, 1) := by decide +kernel
theorem dX12_isSpanAt_13 : decode cX12_isSpanAt 13 = .ok (.aload_n 0, 1) := by decide +kernel
theorem dX12_isSpanAt_14 : decode cX12_isSpanAt 14 = .ok (.getfield 50, 3) := by decide +kernel
theorem dX12_isSpanAt_17 : decode cX12_isSpanAt 17 = .ok (.iload_n 3, 1) := by decide +kernel
theorem dX12_isSpanAt_18 : decode cX12_isSpanAt 18 = .ok (.iaload, 1) := by decide +kernel
theorem dX12_isSpanAt_19 : decode cX12_isSpanAt 19 = .ok (.isub, 1) := by decide +kernel
theorem dX12_isSpanAt_20 : decode cX12_isSpanAt 20 = .ok (.iload_n 2, 1) := by decide +kernel
theorem dX12_isSpanAt_21 : decode cX12_isSpanAt 21 = .ok (.if_icmp .eq 6, 3) := by decide +kernel
theorem dX12_isSpanAt_24 : decode cX12_isSpanAt 24 = .ok (.goto 10, 3) := by decide +kernel
theorem dX12_isSpanAt_27 : decode cX12_isSpanAt 27 = .ok (.aload_n 0, 1) := by decide +kernel
theorem dX12_isSpanAt_28 : decode cX12_isSpanAt 28 = .ok (.iload_n 3, 1) := by decide +kernel
theorem dX12_isSpanAt_29 : decode cX12_isSpanAt 29 = .ok (.putfield 449, 3) := by decide +kernel
theorem dX12_isSpanAt_32 : decode cX12_isSpanAt 32 = .ok (.iconst 1, 1) := by decide +kernel
theorem dX12_isSpanAt_33 : decode cX12_isSpanAt 33 = .ok (.ireturn, 1) := by decide +kernel
theorem dX12_isSpanAt_34 : decode cX12_isSpanAt 34 = .ok (.iinc 3 1, 3) := by decide +kernel
theorem dX12_isSpanAt_37 : decode cX12_isSpanAt 37 = .ok (.goto (-35), 3) := by decide +kernel
theorem dX12_isSpanAt_40 : decode cX12_isSpanAt 40 = .ok (.iconst 0, 1) := by decide +kernel
theorem dX12_isSpanAt_41 : decode cX12_isSpanAt 41 = .ok (.ireturn, 1) := by decide +kernel
def Md_isSpanAt_2 : Nat → Int32 → Int32 → Int32 → Nm → Option (Bool × Nm)
  | 0, _, _, _, _ => none
  | f + 1, x1, x2, x3, ν =>
    (if x1 ≤ x3 then
      some (false, ν)
    else
      if inb x1 6 then
      if inb x3 6 then
      (if ((gi ν 323 x1.toNatClampNeg) - (gi ν 323 x3.toNatClampNeg)) = x2 then
        some (true, (si ν 313 32 x3))
      else
        (Md_isSpanAt_2 f) x1 x2 (x3 + (1 : Int32)) ν)
      else none
      else none)
set_option maxRecDepth 100000 in
set_option maxHeartbeats 4000000 in
theorem t_Md_isSpanAt_2 {g : GG} {d : Nat} (hd0 : 1 ≤ d) : ∀ (f : Nat), ∀ (x1 : Int32) (x2 : Int32) (x3 : Int32) (ν : Nm) (r : (Bool × Nm)), Md_isSpanAt_2 f x1 x2 x3 ν = some r → Z g d (0, 0) mX12_isSpanAt 333 0 0 2 [(0, .ref 313), (1, .int x1), (2, .int x2), (3, .int x3)] [] (zem ν) (zF g (some (.int (b2i r.1)), zem r.2)) := by
  intro f
  induction f with
  | zero =>
    intro x1 x2 x3 ν r h
    cases h
  | succ f ih =>
    intro x1 x2 x3 ν r h
    rw [Md_isSpanAt_2] at h
    refine z_iload_n dX12_isSpanAt_2 3 rfl ?_
    refine z_iload_n dX12_isSpanAt_3 1 rfl ?_
    refine z_icmp_ge 40 dX12_isSpanAt_4 rfl (fun hc1 => ?_) (fun hc1 => ?_)
    · replace h := oT hc1 h
      refine z_iconst (M := mX12_isSpanAt) (v := 0) dX12_isSpanAt_40 rfl ?_
      cases h
      exact z_zret dX12_isSpanAt_41 rfl rfl
    · replace h := oF hc1 h
      refine z_aload_n dX12_isSpanAt_7 0 rfl ?_
      refine y_getR (M := mX12_isSpanAt) (r := 323) dX12_isSpanAt_8 zk_313 flRX12_50 fr_10_26.1 (fr_10_26.2 _) ?_
      refine z_iload_n dX12_isSpanAt_11 1 rfl ?_
      obtain ⟨hi2, h⟩ := oif h
      refine y_iald (M := mX12_isSpanAt) (jj := x1.toNatClampNeg) dX12_isSpanAt_12 zk_323 hi2 rfl ?_
      refine z_aload_n dX12_isSpanAt_13 0 rfl ?_
      refine y_getR (M := mX12_isSpanAt) (r := 323) dX12_isSpanAt_14 zk_313 flRX12_50 fr_10_26.1 (fr_10_26.2 _) ?_
      refine z_iload_n dX12_isSpanAt_17 3 rfl ?_
      obtain ⟨hi3, h⟩ := oif h
      refine y_iald (M := mX12_isSpanAt) (jj := x3.toNatClampNeg) dX12_isSpanAt_18 zk_323 hi3 rfl ?_
      refine z_isub dX12_isSpanAt_19 ?_
      refine z_iload_n dX12_isSpanAt_20 2 rfl ?_
      refine z_icmp_eq 27 dX12_isSpanAt_21 rfl (fun hc4 => ?_) (fun hc4 => ?_)
      · replace h := oT hc4 h
        refine z_aload_n dX12_isSpanAt_27 0 rfl ?_
        refine z_iload_n dX12_isSpanAt_28 3 rfl ?_
        refine y_putI dX12_isSpanAt_29 zk_313 flRX12_449 ⟨rfl, rfl⟩ ?_
        refine z_iconst (M := mX12_isSpanAt) (v := 1) dX12_isSpanAt_32 rfl ?_
        cases h
        exact z_zret dX12_isSpanAt_33 rfl rfl
      · replace h := oF hc4 h
        refine z_goto 34 dX12_isSpanAt_24 rfl ?_
        refine z_iinc (M := mX12_isSpanAt) (v := (x3 + (1 : Int32))) (lv2 := [(3, .int (x3 + (1 : Int32))), (0, .ref 313), (1, .int x1), (2, .int x2)]) dX12_isSpanAt_34 3 rfl rfl (Nat.le_of_ble_eq_true rfl) rfl ?_
        refine z_goto 2 dX12_isSpanAt_37 rfl ?_
        refine z_lv (lv2 := [(0, .ref 313), (1, .int x1), (2, .int x2), (3, .int (x3 + (1 : Int32)))]) [1, 2, 3, 0] rfl ?_
        exact ih x1 x2 (x3 + (1 : Int32)) ν _ h
def Md_isSpanAt (x1 : Int32) (x2 : Int32) (ν : Nm) : Option (Bool × Nm) :=
  Md_isSpanAt_2 FU x1 x2 (0 : Int32) ν
set_option maxRecDepth 100000 in
set_option maxHeartbeats 4000000 in
theorem t_Md_isSpanAt {g : GG} {d : Nat} (hd0 : 1 ≤ d) : ∀ (x1 : Int32) (x2 : Int32) (ν : Nm) (r : (Bool × Nm)), Md_isSpanAt x1 x2 ν = some r → Z g d (0, 0) mX12_isSpanAt 333 0 0 0 [(0, .ref 313), (1, .int x1), (2, .int x2)] [] (zem ν) (zF g (some (.int (b2i r.1)), zem r.2)) := by
  intro x1 x2 ν r h
  unfold Md_isSpanAt at h
  refine z_iconst (M := mX12_isSpanAt) (v := 0) dX12_isSpanAt_0 rfl ?_
  refine z_istore_n (M := mX12_isSpanAt) (lv2 := [(3, .int (0 : Int32)), (0, .ref 313), (1, .int x1), (2, .int x2)]) dX12_isSpanAt_1 (Nat.le_of_ble_eq_true rfl) rfl ?_
  refine z_lv (lv2 := [(0, .ref 313), (1, .int x1), (2, .int x2), (3, .int (0 : Int32))]) [1, 2, 3, 0] rfl ?_
  exact t_Md_isSpanAt_2 hd0 FU x1 x2 (0 : Int32) ν _ h
theorem ct_Md_isSpanAt {g : GG} {d : Nat} {x1 : Int32} {x2 : Int32} {ν : Nm} {r : (Bool × Nm)} (hd0 : 1 ≤ d)  (h : Md_isSpanAt x1 x2 ν = some r) : Ct g d mX12_isSpanAt [.ref 313, .int x1, .int x2] (zem ν) (some (.int (b2i r.1)), zem r.2) := y_entry in_X12_isSpanAt (Nat.le_of_ble_eq_true rfl) rfl (t_Md_isSpanAt hd0 x1 x2 ν r h)
-- FuseMinutesModel.isRow(III)Z
theorem dX12_isRow_0 : decode cX12_isRow 0 = .ok (.aload_n 0, 1) := by decide +kernel
theorem dX12_isRow_1 : decode cX12_isRow 1 = .ok (.iload_n 1, 1) := by decide +kernel
theorem dX12_isRow_2 : decode cX12_isRow 2 = .ok (.invokevirtual 425, 3) := by decide +kernel
theorem dX12_isRow_5 : decode cX12_isRow 5 = .ok (.iconst 0, 1) := by decide +kernel
theorem dX12_isRow_6 : decode cX12_isRow 6 = .ok (.istore 4, 2) := by decide +kernel
theorem dX12_isRow_8 : decode cX12_isRow 8 = .ok (.iload 4, 2) := by decide +kernel
theorem dX12_isRow_10 : decode cX12_isRow 10 = .ok (.ifCond .lt 147, 3) := by decide +kernel
theorem dX12_isRow_13 : decode cX12_isRow 13 = .ok (.aload_n 0, 1) := by decide +kernel
theorem dX12_isRow_14 : decode cX12_isRow 14 = .ok (.getfield 53, 3) := by decide +kernel
theorem dX12_isRow_17 : decode cX12_isRow 17 = .ok (.iload 4, 2) := by decide +kernel
theorem dX12_isRow_19 : decode cX12_isRow 19 = .ok (.dup2, 1) := by decide +kernel
theorem dX12_isRow_20 : decode cX12_isRow 20 = .ok (.iaload, 1) := by decide +kernel
theorem dX12_isRow_21 : decode cX12_isRow 21 = .ok (.iconst 1, 1) := by decide +kernel
theorem dX12_isRow_22 : decode cX12_isRow 22 = .ok (.iadd, 1) := by decide +kernel
theorem dX12_isRow_23 : decode cX12_isRow 23 = .ok (.iastore, 1) := by decide +kernel
theorem dX12_isRow_24 : decode cX12_isRow 24 = .ok (.aload_n 0, 1) := by decide +kernel
theorem dX12_isRow_25 : decode cX12_isRow 25 = .ok (.getfield 53, 3) := by decide +kernel
theorem dX12_isRow_28 : decode cX12_isRow 28 = .ok (.iload 4, 2) := by decide +kernel
theorem dX12_isRow_30 : decode cX12_isRow 30 = .ok (.iaload, 1) := by decide +kernel
theorem dX12_isRow_31 : decode cX12_isRow 31 = .ok (.bipush 82, 2) := by decide +kernel
theorem dX12_isRow_33 : decode cX12_isRow 33 = .ok (.if_icmp .ge 35, 3) := by decide +kernel
theorem dX12_isRow_36 : decode cX12_isRow 36 = .ok (.aload_n 0, 1) := by decide +kernel
theorem dX12_isRow_37 : decode cX12_isRow 37 = .ok (.iload 4, 2) := by decide +kernel
theorem dX12_isRow_39 : decode cX12_isRow 39 = .ok (.aload_n 0, 1) := by decide +kernel
theorem dX12_isRow_40 : decode cX12_isRow 40 = .ok (.getfield 53, 3) := by decide +kernel
theorem dX12_isRow_43 : decode cX12_isRow 43 = .ok (.iload 4, 2) := by decide +kernel
theorem dX12_isRow_45 : decode cX12_isRow 45 = .ok (.iaload, 1) := by decide +kernel
theorem dX12_isRow_46 : decode cX12_isRow 46 = .ok (.iconst 1, 1) := by decide +kernel
theorem dX12_isRow_47 : decode cX12_isRow 47 = .ok (.isub, 1) := by decide +kernel
theorem dX12_isRow_48 : decode cX12_isRow 48 = .ok (.invokevirtual 428, 3) := by decide +kernel
theorem dX12_isRow_51 : decode cX12_isRow 51 = .ok (.ifCond .ne 17, 3) := by decide +kernel
theorem dX12_isRow_54 : decode cX12_isRow 54 = .ok (.aload_n 0, 1) := by decide +kernel
theorem dX12_isRow_55 : decode cX12_isRow 55 = .ok (.getfield 53, 3) := by decide +kernel
theorem dX12_isRow_58 : decode cX12_isRow 58 = .ok (.iload 4, 2) := by decide +kernel
theorem dX12_isRow_60 : decode cX12_isRow 60 = .ok (.dup2, 1) := by decide +kernel
theorem dX12_isRow_61 : decode cX12_isRow 61 = .ok (.iaload, 1) := by decide +kernel
theorem dX12_isRow_62 : decode cX12_isRow 62 = .ok (.iconst 1, 1) := by decide +kernel
theorem dX12_isRow_63 : decode cX12_isRow 63 = .ok (.iadd, 1) := by decide +kernel
theorem dX12_isRow_64 : decode cX12_isRow 64 = .ok (.iastore, 1) := by decide +kernel
theorem dX12_isRow_65 : decode cX12_isRow 65 = .ok (.goto (-41), 3) := by decide +kernel
theorem dX12_isRow_68 : decode cX12_isRow 68 = .ok (.aload_n 0, 1) := by decide +kernel
theorem dX12_isRow_69 : decode cX12_isRow 69 = .ok (.getfield 53, 3) := by decide +kernel
theorem dX12_isRow_72 : decode cX12_isRow 72 = .ok (.iload 4, 2) := by decide +kernel
theorem dX12_isRow_74 : decode cX12_isRow 74 = .ok (.iaload, 1) := by decide +kernel
theorem dX12_isRow_75 : decode cX12_isRow 75 = .ok (.bipush 82, 2) := by decide +kernel
theorem dX12_isRow_77 : decode cX12_isRow 77 = .ok (.if_icmp .ne 9, 3) := by decide +kernel
theorem dX12_isRow_80 : decode cX12_isRow 80 = .ok (.iinc 4 (-1), 3) := by decide +kernel
theorem dX12_isRow_83 : decode cX12_isRow 83 = .ok (.goto (-75), 3) := by decide +kernel
theorem dX12_isRow_86 : decode cX12_isRow 86 = .ok (.aload_n 0, 1) := by decide +kernel
theorem dX12_isRow_87 : decode cX12_isRow 87 = .ok (.getfield 53, 3) := by decide +kernel
theorem dX12_isRow_90 : decode cX12_isRow 90 = .ok (.iload 4, 2) := by decide +kernel
theorem dX12_isRow_92 : decode cX12_isRow 92 = .ok (.dup2, 1) := by decide +kernel
theorem dX12_isRow_93 : decode cX12_isRow 93 = .ok (.iaload, 1) := by decide +kernel
theorem dX12_isRow_94 : decode cX12_isRow 94 = .ok (.iconst 1, 1) := by decide +kernel
theorem dX12_isRow_95 : decode cX12_isRow 95 = .ok (.isub, 1) := by decide +kernel
theorem dX12_isRow_96 : decode cX12_isRow 96 = .ok (.iastore, 1) := by decide +kernel
theorem dX12_isRow_97 : decode cX12_isRow 97 = .ok (.aload_n 0, 1) := by decide +kernel
theorem dX12_isRow_98 : decode cX12_isRow 98 = .ok (.iload 4, 2) := by decide +kernel
theorem dX12_isRow_100 : decode cX12_isRow 100 = .ok (.invokevirtual 431, 3) := by decide +kernel
theorem dX12_isRow_103 : decode cX12_isRow 103 = .ok (.istore 5, 2) := by decide +kernel
theorem dX12_isRow_105 : decode cX12_isRow 105 = .ok (.aload_n 0, 1) := by decide +kernel
theorem dX12_isRow_106 : decode cX12_isRow 106 = .ok (.getfield 53, 3) := by decide +kernel
theorem dX12_isRow_109 : decode cX12_isRow 109 = .ok (.iload 4, 2) := by decide +kernel
theorem dX12_isRow_111 : decode cX12_isRow 111 = .ok (.dup2, 1) := by decide +kernel
theorem dX12_isRow_112 : decode cX12_isRow 112 = .ok (.iaload, 1) := by decide +kernel
theorem dX12_isRow_113 : decode cX12_isRow 113 = .ok (.iconst 1, 1) := by decide +kernel
theorem dX12_isRow_114 : decode cX12_isRow 114 = .ok (.iadd, 1) := by decide +kernel
theorem dX12_isRow_115 : decode cX12_isRow 115 = .ok (.iastore, 1) := by decide +kernel
theorem dX12_isRow_116 : decode cX12_isRow 116 = .ok (.iload 5, 2) := by decide +kernel
theorem dX12_isRow_118 : decode cX12_isRow 118 = .ok (.ifCond .ne 6, 3) := by decide +kernel
theorem dX12_isRow_121 : decode cX12_isRow 121 = .ok (.goto (-113), 3) := by decide +kernel
theorem dX12_isRow_124 : decode cX12_isRow 124 = .ok (.iload 4, 2) := by decide +kernel
theorem dX12_isRow_126 : decode cX12_isRow 126 = .ok (.iconst 1, 1) := by decide +kernel
theorem dX12_isRow_127 : decode cX12_isRow 127 = .ok (.iadd, 1) := by decide +kernel
theorem dX12_isRow_128 : decode cX12_isRow 128 = .ok (.iload_n 3, 1) := by decide +kernel
theorem dX12_isRow_129 : decode cX12_isRow 129 = .ok (.if_icmp .ne 14, 3) := by decide +kernel
theorem dX12_isRow_132 : decode cX12_isRow 132 = .ok (.aload_n 0, 1) := by decide +kernel
theorem dX12_isRow_133 : decode cX12_isRow 133 = .ok (.iload_n 3, 1) := by decide +kernel
theorem dX12_isRow_134 : decode cX12_isRow 134 = .ok (.iload_n 2, 1) := by decide +kernel
theorem dX12_isRow_135 : decode cX12_isRow 135 = .ok (.invokevirtual 452, 3) := by decide +kernel
theorem dX12_isRow_138 : decode cX12_isRow 138 = .ok (.ifCond .eq (-130), 3) := by decide +kernel
theorem dX12_isRow_141 : decode cX12_isRow 141 = .ok (.iconst 1, 1) := by decide +kernel
theorem dX12_isRow_142 : decode cX12_isRow 142 = .ok (.ireturn, 1) := by decide +kernel
theorem dX12_isRow_143 : decode cX12_isRow 143 = .ok (.iinc 4 1, 3) := by decide +kernel
theorem dX12_isRow_146 : decode cX12_isRow 146 = .ok (.aload_n 0, 1) := by decide +kernel
theorem dX12_isRow_147 : decode cX12_isRow 147 = .ok (.getfield 53, 3) := by decide +kernel
theorem dX12_isRow_150 : decode cX12_isRow 150 = .ok (.iload 4, 2) := by decide +kernel
theorem dX12_isRow_152 : decode cX12_isRow 152 = .ok (.iconst 0, 1) := by decide +kernel
theorem dX12_isRow_153 : decode cX12_isRow 153 = .ok (.iastore, 1) := by decide +kernel
theorem dX12_isRow_154 : decode cX12_isRow 154 = .ok (.goto (-146), 3) := by decide +kernel
theorem dX12_isRow_157 : decode cX12_isRow 157 = .ok (.iconst 0, 1) := by decide +kernel
theorem dX12_isRow_158 : decode cX12_isRow 158 = .ok (.ireturn, 1) := by decide +kernel
def Md_isRow_68 (k8 : Int32 → Int32 → Int32 → Nm → Option (Bool × Nm)) (x2 : Int32) (x3 : Int32) (x4 : Int32) (ν : Nm) : Option (Bool × Nm) :=
  if inb x4 6 then
  (if ¬ (gi ν 324 x4.toNatClampNeg) = (82 : Int32) then
    if inb x4 6 then
    if inb x4 6 then
    (Md_isNext x4 (si ν 324 x4.toNatClampNeg ((gi ν 324 x4.toNatClampNeg) - (1 : Int32)))).bind fun v5 =>
    if inb x4 6 then
    if inb x4 6 then
    (if ¬ (b2i v5.1) = 0 then
      (if ¬ (x4 + (1 : Int32)) = x3 then
        if inb (x4 + (1 : Int32)) 6 then
        k8 x2 x3 (x4 + (1 : Int32)) (si (si v5.2 324 x4.toNatClampNeg ((gi v5.2 324 x4.toNatClampNeg) + (1 : Int32))) 324 (x4 + (1 : Int32)).toNatClampNeg (0 : Int32))
        else none
      else
        (Md_isSpanAt x3 x2 (si v5.2 324 x4.toNatClampNeg ((gi v5.2 324 x4.toNatClampNeg) + (1 : Int32)))).bind fun v11 =>
        (if (b2i v11.1) = 0 then
          k8 x2 x3 x4 v11.2
        else
          some (true, v11.2)))
    else
      k8 x2 x3 x4 (si v5.2 324 x4.toNatClampNeg ((gi v5.2 324 x4.toNatClampNeg) + (1 : Int32))))
    else none
    else none
    else none
    else none
  else
    k8 x2 x3 (x4 + (-1 : Int32)) ν)
  else none
set_option maxRecDepth 100000 in
set_option maxHeartbeats 4000000 in
theorem t_Md_isRow_68 {g : GG} {d : Nat} (hd0 : 3 ≤ d) {k8 : Int32 → Int32 → Int32 → Nm → Option (Bool × Nm)} (hk8 : ∀ (x2 : Int32) (x3 : Int32) (x4 : Int32) (ν : Nm) (r : (Bool × Nm)), k8 x2 x3 x4 ν = some r → Z g d (0, 0) mX12_isRow 333 0 0 8 [(0, .ref 313), (2, .int x2), (3, .int x3), (4, .int x4)] [] (zem ν) (zF g (some (.int (b2i r.1)), zem r.2))) : ∀ (x2 : Int32) (x3 : Int32) (x4 : Int32) (ν : Nm) (r : (Bool × Nm)), Md_isRow_68 k8 x2 x3 x4 ν = some r → Z g d (0, 0) mX12_isRow 333 0 0 68 [(0, .ref 313), (2, .int x2), (3, .int x3), (4, .int x4)] [] (zem ν) (zF g (some (.int (b2i r.1)), zem r.2)) := by
  intro x2 x3 x4 ν r h
  unfold Md_isRow_68 at h
  refine z_aload_n dX12_isRow_68 0 rfl ?_
  refine y_getR (M := mX12_isRow) (r := 324) dX12_isRow_69 zk_313 flRX12_53 fr_10_27.1 (fr_10_27.2 _) ?_
  refine z_iload dX12_isRow_72 3 rfl ?_
  obtain ⟨hi1, h⟩ := oif h
  refine y_iald (M := mX12_isRow) (jj := x4.toNatClampNeg) dX12_isRow_74 zk_324 hi1 rfl ?_
  refine z_bipush (M := mX12_isRow) (v := 82) dX12_isRow_75 rfl ?_
  refine z_icmp_ne 86 dX12_isRow_77 rfl (fun hc2 => ?_) (fun hc2 => ?_)
  · replace h := oT hc2 h
    refine z_aload_n dX12_isRow_86 0 rfl ?_
    refine y_getR (M := mX12_isRow) (r := 324) dX12_isRow_87 zk_313 flRX12_53 fr_10_27.1 (fr_10_27.2 _) ?_
    refine z_iload dX12_isRow_90 3 rfl ?_
    refine z_dup2 dX12_isRow_92 rfl rfl ?_
    obtain ⟨hi3, h⟩ := oif h
    refine y_iald (M := mX12_isRow) (jj := x4.toNatClampNeg) dX12_isRow_93 zk_324 hi3 rfl ?_
    refine z_iconst (M := mX12_isRow) (v := 1) dX12_isRow_94 rfl ?_
    refine z_isub dX12_isRow_95 ?_
    obtain ⟨hi4, h⟩ := oif h
    refine y_iast (M := mX12_isRow) (jj := x4.toNatClampNeg) dX12_isRow_96 zk_324 hi4 rfl ?_
    refine z_aload_n dX12_isRow_97 0 rfl ?_
    refine z_iload dX12_isRow_98 3 rfl ?_
    obtain ⟨v5, he5, h⟩ := obind h
    refine y_Vi (M := mX12_isRow) (Y := mX12_isNext) (d2 := d - 1) (As := [.int x4]) (st := []) dX12_isRow_100 mlRX12_431 cv_X12_isNext zk_313 (ct_Md_isNext (dle (Nat.le_of_ble_eq_true rfl) hd0) he5) (dps (Nat.le_of_ble_eq_true rfl) hd0) rfl rfl (Nat.le_of_ble_eq_true rfl) ?_
    refine z_istore (M := mX12_isRow) (lv2 := [(5, .int (b2i v5.1)), (0, .ref 313), (2, .int x2), (3, .int x3), (4, .int x4)]) dX12_isRow_103 (Nat.le_of_ble_eq_true rfl) rfl ?_
    refine z_aload_n dX12_isRow_105 1 rfl ?_
    refine y_getR (M := mX12_isRow) (r := 324) dX12_isRow_106 zk_313 flRX12_53 fr_10_27.1 (fr_10_27.2 _) ?_
    refine z_iload dX12_isRow_109 4 rfl ?_
    refine z_dup2 dX12_isRow_111 rfl rfl ?_
    obtain ⟨hi6, h⟩ := oif h
    refine y_iald (M := mX12_isRow) (jj := x4.toNatClampNeg) dX12_isRow_112 zk_324 hi6 rfl ?_
    refine z_iconst (M := mX12_isRow) (v := 1) dX12_isRow_113 rfl ?_
    refine z_iadd dX12_isRow_114 ?_
    obtain ⟨hi7, h⟩ := oif h
    refine y_iast (M := mX12_isRow) (jj := x4.toNatClampNeg) dX12_isRow_115 zk_324 hi7 rfl ?_
    refine z_iload dX12_isRow_116 0 rfl ?_
    refine z_if_ne 124 dX12_isRow_118 rfl (fun hc8 => ?_) (fun hc8 => ?_)
    · replace h := oT hc8 h
      refine z_iload dX12_isRow_124 4 rfl ?_
      refine z_iconst (M := mX12_isRow) (v := 1) dX12_isRow_126 rfl ?_
      refine z_iadd dX12_isRow_127 ?_
      refine z_iload_n dX12_isRow_128 3 rfl ?_
      refine z_icmp_ne 143 dX12_isRow_129 rfl (fun hc9 => ?_) (fun hc9 => ?_)
      · replace h := oT hc9 h
        refine z_iinc (M := mX12_isRow) (v := (x4 + (1 : Int32))) (lv2 := [(4, .int (x4 + (1 : Int32))), (5, .int (b2i v5.1)), (0, .ref 313), (2, .int x2), (3, .int x3)]) dX12_isRow_143 4 rfl rfl (Nat.le_of_ble_eq_true rfl) rfl ?_
        refine z_aload_n dX12_isRow_146 2 rfl ?_
        refine y_getR (M := mX12_isRow) (r := 324) dX12_isRow_147 zk_313 flRX12_53 fr_10_27.1 (fr_10_27.2 _) ?_
        refine z_iload dX12_isRow_150 0 rfl ?_
        refine z_iconst (M := mX12_isRow) (v := 0) dX12_isRow_152 rfl ?_
        obtain ⟨hi10, h⟩ := oif h
        refine y_iast (M := mX12_isRow) (jj := (x4 + (1 : Int32)).toNatClampNeg) dX12_isRow_153 zk_324 hi10 rfl ?_
        refine z_goto 8 dX12_isRow_154 rfl ?_
        refine z_lv (lv2 := [(0, .ref 313), (2, .int x2), (3, .int x3), (4, .int (x4 + (1 : Int32)))]) [2, 3, 4, 0] rfl ?_
        exact hk8 x2 x3 (x4 + (1 : Int32)) (si (si v5.2 324 x4.toNatClampNeg ((gi v5.2 324 x4.toNatClampNeg) + (1 : Int32))) 324 (x4 + (1 : Int32)).toNatClampNeg (0 : Int32)) _ h
      · replace h := oFn hc9 h
        refine z_aload_n dX12_isRow_132 1 rfl ?_
        refine z_iload_n dX12_isRow_133 3 rfl ?_
        refine z_iload_n dX12_isRow_134 2 rfl ?_
        obtain ⟨v11, he11, h⟩ := obind h
        refine y_Vi (M := mX12_isRow) (Y := mX12_isSpanAt) (d2 := d - 1) (As := [.int x3, .int x2]) (st := []) dX12_isRow_135 mlRX12_452 cv_X12_isSpanAt zk_313 (ct_Md_isSpanAt (dle (Nat.le_of_ble_eq_true rfl) hd0) he11) (dps (Nat.le_of_ble_eq_true rfl) hd0) rfl rfl (Nat.le_of_ble_eq_true rfl) ?_
        refine z_if_eq 8 dX12_isRow_138 rfl (fun hc12 => ?_) (fun hc12 => ?_)
        · replace h := oT hc12 h
          refine z_lv (lv2 := [(0, .ref 313), (2, .int x2), (3, .int x3), (4, .int x4)]) [1, 2, 3, 4] rfl ?_
          exact hk8 x2 x3 x4 v11.2 _ h
        · replace h := oF hc12 h
          refine z_iconst (M := mX12_isRow) (v := 1) dX12_isRow_141 rfl ?_
          cases h
          exact z_zret dX12_isRow_142 rfl rfl
    · replace h := oFn hc8 h
      refine z_goto 8 dX12_isRow_121 rfl ?_
      refine z_lv (lv2 := [(0, .ref 313), (2, .int x2), (3, .int x3), (4, .int x4)]) [1, 2, 3, 4] rfl ?_
      exact hk8 x2 x3 x4 (si v5.2 324 x4.toNatClampNeg ((gi v5.2 324 x4.toNatClampNeg) + (1 : Int32))) _ h
  · replace h := oFn hc2 h
    refine z_iinc (M := mX12_isRow) (v := (x4 + (-1 : Int32))) (lv2 := [(4, .int (x4 + (-1 : Int32))), (0, .ref 313), (2, .int x2), (3, .int x3)]) dX12_isRow_80 3 rfl rfl (Nat.le_of_ble_eq_true rfl) rfl ?_
    refine z_goto 8 dX12_isRow_83 rfl ?_
    refine z_lv (lv2 := [(0, .ref 313), (2, .int x2), (3, .int x3), (4, .int (x4 + (-1 : Int32)))]) [1, 2, 3, 0] rfl ?_
    exact hk8 x2 x3 (x4 + (-1 : Int32)) ν _ h
def Md_isRow_24 (k8 : Int32 → Int32 → Int32 → Nm → Option (Bool × Nm)) : Nat → Int32 → Int32 → Int32 → Nm → Option (Bool × Nm)
  | 0, _, _, _, _ => none
  | f + 1, x2, x3, x4, ν =>
    if inb x4 6 then
    (if (82 : Int32) ≤ (gi ν 324 x4.toNatClampNeg) then
      Md_isRow_68 k8 x2 x3 x4 ν
    else
      if inb x4 6 then
      (Md_isLighting ν x4 ((gi ν 324 x4.toNatClampNeg) - (1 : Int32))).bind fun v4 =>
      (if ¬ (b2i v4) = 0 then
        Md_isRow_68 k8 x2 x3 x4 ν
      else
        if inb x4 6 then
        if inb x4 6 then
        (Md_isRow_24 k8 f) x2 x3 x4 (si ν 324 x4.toNatClampNeg ((gi ν 324 x4.toNatClampNeg) + (1 : Int32)))
        else none
        else none)
      else none)
    else none
set_option maxRecDepth 100000 in
set_option maxHeartbeats 4000000 in
theorem t_Md_isRow_24 {g : GG} {d : Nat} (hd0 : 3 ≤ d) {k8 : Int32 → Int32 → Int32 → Nm → Option (Bool × Nm)} (hk8 : ∀ (x2 : Int32) (x3 : Int32) (x4 : Int32) (ν : Nm) (r : (Bool × Nm)), k8 x2 x3 x4 ν = some r → Z g d (0, 0) mX12_isRow 333 0 0 8 [(0, .ref 313), (2, .int x2), (3, .int x3), (4, .int x4)] [] (zem ν) (zF g (some (.int (b2i r.1)), zem r.2))) : ∀ (f : Nat), ∀ (x2 : Int32) (x3 : Int32) (x4 : Int32) (ν : Nm) (r : (Bool × Nm)), Md_isRow_24 k8 f x2 x3 x4 ν = some r → Z g d (0, 0) mX12_isRow 333 0 0 24 [(0, .ref 313), (2, .int x2), (3, .int x3), (4, .int x4)] [] (zem ν) (zF g (some (.int (b2i r.1)), zem r.2)) := by
  intro f
  induction f with
  | zero =>
    intro x2 x3 x4 ν r h
    cases h
  | succ f ih =>
    intro x2 x3 x4 ν r h
    rw [Md_isRow_24] at h
    refine z_aload_n dX12_isRow_24 0 rfl ?_
    refine y_getR (M := mX12_isRow) (r := 324) dX12_isRow_25 zk_313 flRX12_53 fr_10_27.1 (fr_10_27.2 _) ?_
    refine z_iload dX12_isRow_28 3 rfl ?_
    obtain ⟨hi1, h⟩ := oif h
    refine y_iald (M := mX12_isRow) (jj := x4.toNatClampNeg) dX12_isRow_30 zk_324 hi1 rfl ?_
    refine z_bipush (M := mX12_isRow) (v := 82) dX12_isRow_31 rfl ?_
    refine z_icmp_ge 68 dX12_isRow_33 rfl (fun hc2 => ?_) (fun hc2 => ?_)
    · replace h := oT hc2 h
      exact t_Md_isRow_68 hd0 hk8 x2 x3 x4 ν _ h
    · replace h := oF hc2 h
      refine z_aload_n dX12_isRow_36 0 rfl ?_
      refine z_iload dX12_isRow_37 3 rfl ?_
      refine z_aload_n dX12_isRow_39 0 rfl ?_
      refine y_getR (M := mX12_isRow) (r := 324) dX12_isRow_40 zk_313 flRX12_53 fr_10_27.1 (fr_10_27.2 _) ?_
      refine z_iload dX12_isRow_43 3 rfl ?_
      obtain ⟨hi3, h⟩ := oif h
      refine y_iald (M := mX12_isRow) (jj := x4.toNatClampNeg) dX12_isRow_45 zk_324 hi3 rfl ?_
      refine z_iconst (M := mX12_isRow) (v := 1) dX12_isRow_46 rfl ?_
      refine z_isub dX12_isRow_47 ?_
      obtain ⟨v4, he4, h⟩ := obind h
      refine y_Vi (M := mX12_isRow) (Y := mX12_isLighting) (d2 := d - 1) (As := [.int x4, .int ((gi ν 324 x4.toNatClampNeg) - (1 : Int32))]) (st := []) dX12_isRow_48 mlRX12_428 cv_X12_isLighting zk_313 (ct_Md_isLighting (dle (Nat.le_of_ble_eq_true rfl) hd0) he4) (dps (Nat.le_of_ble_eq_true rfl) hd0) rfl rfl (Nat.le_of_ble_eq_true rfl) ?_
      refine z_if_ne 68 dX12_isRow_51 rfl (fun hc5 => ?_) (fun hc5 => ?_)
      · replace h := oT hc5 h
        exact t_Md_isRow_68 hd0 hk8 x2 x3 x4 ν _ h
      · replace h := oFn hc5 h
        refine z_aload_n dX12_isRow_54 0 rfl ?_
        refine y_getR (M := mX12_isRow) (r := 324) dX12_isRow_55 zk_313 flRX12_53 fr_10_27.1 (fr_10_27.2 _) ?_
        refine z_iload dX12_isRow_58 3 rfl ?_
        refine z_dup2 dX12_isRow_60 rfl rfl ?_
        obtain ⟨hi6, h⟩ := oif h
        refine y_iald (M := mX12_isRow) (jj := x4.toNatClampNeg) dX12_isRow_61 zk_324 hi6 rfl ?_
        refine z_iconst (M := mX12_isRow) (v := 1) dX12_isRow_62 rfl ?_
        refine z_iadd dX12_isRow_63 ?_
        obtain ⟨hi7, h⟩ := oif h
        refine y_iast (M := mX12_isRow) (jj := x4.toNatClampNeg) dX12_isRow_64 zk_324 hi7 rfl ?_
        refine z_goto 24 dX12_isRow_65 rfl ?_
        exact ih x2 x3 x4 (si ν 324 x4.toNatClampNeg ((gi ν 324 x4.toNatClampNeg) + (1 : Int32))) _ h
def Md_isRow_8 : Nat → Int32 → Int32 → Int32 → Nm → Option (Bool × Nm)
  | 0, _, _, _, _ => none
  | f + 1, x2, x3, x4, ν =>
    (if x4 < 0 then
      some (false, ν)
    else
      if inb x4 6 then
      if inb x4 6 then
      Md_isRow_24 (Md_isRow_8 f) FU x2 x3 x4 (si ν 324 x4.toNatClampNeg ((gi ν 324 x4.toNatClampNeg) + (1 : Int32)))
      else none
      else none)
set_option maxRecDepth 100000 in
set_option maxHeartbeats 4000000 in
theorem t_Md_isRow_8 {g : GG} {d : Nat} (hd0 : 3 ≤ d) : ∀ (f : Nat), ∀ (x2 : Int32) (x3 : Int32) (x4 : Int32) (ν : Nm) (r : (Bool × Nm)), Md_isRow_8 f x2 x3 x4 ν = some r → Z g d (0, 0) mX12_isRow 333 0 0 8 [(0, .ref 313), (2, .int x2), (3, .int x3), (4, .int x4)] [] (zem ν) (zF g (some (.int (b2i r.1)), zem r.2)) := by
  intro f
  induction f with
  | zero =>
    intro x2 x3 x4 ν r h
    cases h
  | succ f ih =>
    intro x2 x3 x4 ν r h
    rw [Md_isRow_8] at h
    refine z_iload dX12_isRow_8 3 rfl ?_
    refine z_if_lt 157 dX12_isRow_10 rfl (fun hc1 => ?_) (fun hc1 => ?_)
    · replace h := oT hc1 h
      refine z_iconst (M := mX12_isRow) (v := 0) dX12_isRow_157 rfl ?_
      cases h
      exact z_zret dX12_isRow_158 rfl rfl
    · replace h := oF hc1 h
      refine z_aload_n dX12_isRow_13 0 rfl ?_
      refine y_getR (M := mX12_isRow) (r := 324) dX12_isRow_14 zk_313 flRX12_53 fr_10_27.1 (fr_10_27.2 _) ?_
      refine z_iload dX12_isRow_17 3 rfl ?_
      refine z_dup2 dX12_isRow_19 rfl rfl ?_
      obtain ⟨hi2, h⟩ := oif h
      refine y_iald (M := mX12_isRow) (jj := x4.toNatClampNeg) dX12_isRow_20 zk_324 hi2 rfl ?_
      refine z_iconst (M := mX12_isRow) (v := 1) dX12_isRow_21 rfl ?_
      refine z_iadd dX12_isRow_22 ?_
      obtain ⟨hi3, h⟩ := oif h
      refine y_iast (M := mX12_isRow) (jj := x4.toNatClampNeg) dX12_isRow_23 zk_324 hi3 rfl ?_
      exact t_Md_isRow_24 hd0 ih FU x2 x3 x4 (si ν 324 x4.toNatClampNeg ((gi ν 324 x4.toNatClampNeg) + (1 : Int32))) _ h
def Md_isRow (x1 : Int32) (x2 : Int32) (x3 : Int32) (ν : Nm) : Option (Bool × Nm) :=
  (Md_layFirst x1 ν).bind fun v1 =>
  Md_isRow_8 FU x2 x3 (0 : Int32) v1
set_option maxRecDepth 100000 in
set_option maxHeartbeats 4000000 in
theorem t_Md_isRow {g : GG} {d : Nat} (hd0 : 3 ≤ d) : ∀ (x1 : Int32) (x2 : Int32) (x3 : Int32) (ν : Nm) (r : (Bool × Nm)), Md_isRow x1 x2 x3 ν = some r → Z g d (0, 0) mX12_isRow 333 0 0 0 [(0, .ref 313), (1, .int x1), (2, .int x2), (3, .int x3)] [] (zem ν) (zF g (some (.int (b2i r.1)), zem r.2)) := by
  intro x1 x2 x3 ν r h
  unfold Md_isRow at h
  refine z_aload_n dX12_isRow_0 0 rfl ?_
  refine z_iload_n dX12_isRow_1 1 rfl ?_
  obtain ⟨v1, he1, h⟩ := obind h
  refine y_Vv (M := mX12_isRow) (Y := mX12_layFirst) (d2 := d - 1) (As := [.int x1]) (st := []) dX12_isRow_2 mlRX12_425 cv_X12_layFirst zk_313 (ct_Md_layFirst (dle (Nat.le_of_ble_eq_true rfl) hd0) he1) (dps (Nat.le_of_ble_eq_true rfl) hd0) rfl rfl (Nat.le_of_ble_eq_true rfl) ?_
  refine z_iconst (M := mX12_isRow) (v := 0) dX12_isRow_5 rfl ?_
  refine z_istore (M := mX12_isRow) (lv2 := [(4, .int (0 : Int32)), (0, .ref 313), (1, .int x1), (2, .int x2), (3, .int x3)]) dX12_isRow_6 (Nat.le_of_ble_eq_true rfl) rfl ?_
  refine z_lv (lv2 := [(0, .ref 313), (2, .int x2), (3, .int x3), (4, .int (0 : Int32))]) [1, 3, 4, 0] rfl ?_
  exact t_Md_isRow_8 hd0 FU x2 x3 (0 : Int32) v1 _ h
theorem ct_Md_isRow {g : GG} {d : Nat} {x1 : Int32} {x2 : Int32} {x3 : Int32} {ν : Nm} {r : (Bool × Nm)} (hd0 : 3 ≤ d)  (h : Md_isRow x1 x2 x3 ν = some r) : Ct g d mX12_isRow [.ref 313, .int x1, .int x2, .int x3] (zem ν) (some (.int (b2i r.1)), zem r.2) := y_entry in_X12_isRow (Nat.le_of_ble_eq_true rfl) rfl (t_Md_isRow hd0 x1 x2 x3 ν r h)
-- FuseMinutesModel.layRow(II)I
theorem dX12_layRow_0 : decode cX12_layRow 0 = .ok (.aload_n 0, 1) := by decide +kernel
theorem dX12_layRow_1 : decode cX12_layRow 1 = .ok (.iload_n 1, 1) := by decide +kernel
theorem dX12_layRow_2 : decode cX12_layRow 2 = .ok (.iload_n 2, 1) := by decide +kernel
theorem dX12_layRow_3 : decode cX12_layRow 3 = .ok (.invokevirtual 455, 3) := by decide +kernel
theorem dX12_layRow_6 : decode cX12_layRow 6 = .ok (.ifCond .ne 5, 3) := by decide +kernel
theorem dX12_layRow_9 : decode cX12_layRow 9 = .ok (.iconst (-1), 1) := by decide +kernel
theorem dX12_layRow_10 : decode cX12_layRow 10 = .ok (.ireturn, 1) := by decide +kernel
theorem dX12_layRow_11 : decode cX12_layRow 11 = .ok (.iconst 1, 1) := by decide +kernel
theorem dX12_layRow_12 : decode cX12_layRow 12 = .ok (.istore_n 3, 1) := by decide +kernel
theorem dX12_layRow_13 : decode cX12_layRow 13 = .ok (.aload_n 0, 1) := by decide +kernel
theorem dX12_layRow_14 : decode cX12_layRow 14 = .ok (.iload_n 1, 1) := by decide +kernel
theorem dX12_layRow_15 : decode cX12_layRow 15 = .ok (.iload_n 2, 1) := by decide +kernel
theorem dX12_layRow_16 : decode cX12_layRow 16 = .ok (.iload_n 3, 1) := by decide +kernel
theorem dX12_layRow_17 : decode cX12_layRow 17 = .ok (.invokevirtual 458, 3) := by decide +kernel
theorem dX12_layRow_20 : decode cX12_layRow 20 = .ok (.ifCond .ne 9, 3) := by decide +kernel
theorem dX12_layRow_23 : decode cX12_layRow 23 = .ok (.iinc 3 1, 3) := by decide +kernel
theorem dX12_layRow_26 : decode cX12_layRow 26 = .ok (.goto (-13), 3) := by decide +kernel
theorem dX12_layRow_29 : decode cX12_layRow 29 = .ok (.iload_n 3, 1) := by decide +kernel
theorem dX12_layRow_30 : decode cX12_layRow 30 = .ok (.ireturn, 1) := by decide +kernel
def Md_layRow_13 : Nat → Int32 → Int32 → Int32 → Nm → Option (Int32 × Nm)
  | 0, _, _, _, _ => none
  | f + 1, x1, x2, x3, ν =>
    (Md_isRow x1 x2 x3 ν).bind fun v1 =>
    (if ¬ (b2i v1.1) = 0 then
      some (x3, v1.2)
    else
      (Md_layRow_13 f) x1 x2 (x3 + (1 : Int32)) v1.2)
set_option maxRecDepth 100000 in
set_option maxHeartbeats 4000000 in
theorem t_Md_layRow_13 {g : GG} {d : Nat} (hd0 : 6 ≤ d) : ∀ (f : Nat), ∀ (x1 : Int32) (x2 : Int32) (x3 : Int32) (ν : Nm) (r : (Int32 × Nm)), Md_layRow_13 f x1 x2 x3 ν = some r → Z g d (0, 0) mX12_layRow 333 0 0 13 [(0, .ref 313), (1, .int x1), (2, .int x2), (3, .int x3)] [] (zem ν) (zF g (some (.int r.1), zem r.2)) := by
  intro f
  induction f with
  | zero =>
    intro x1 x2 x3 ν r h
    cases h
  | succ f ih =>
    intro x1 x2 x3 ν r h
    rw [Md_layRow_13] at h
    refine z_aload_n dX12_layRow_13 0 rfl ?_
    refine z_iload_n dX12_layRow_14 1 rfl ?_
    refine z_iload_n dX12_layRow_15 2 rfl ?_
    refine z_iload_n dX12_layRow_16 3 rfl ?_
    obtain ⟨v1, he1, h⟩ := obind h
    refine y_Vi (M := mX12_layRow) (Y := mX12_isRow) (d2 := d - 1) (As := [.int x1, .int x2, .int x3]) (st := []) dX12_layRow_17 mlRX12_458 cv_X12_isRow zk_313 (ct_Md_isRow (dle (Nat.le_of_ble_eq_true rfl) hd0) he1) (dps (Nat.le_of_ble_eq_true rfl) hd0) rfl rfl (Nat.le_of_ble_eq_true rfl) ?_
    refine z_if_ne 29 dX12_layRow_20 rfl (fun hc2 => ?_) (fun hc2 => ?_)
    · replace h := oT hc2 h
      refine z_iload_n dX12_layRow_29 3 rfl ?_
      cases h
      exact z_iret dX12_layRow_30 rfl
    · replace h := oFn hc2 h
      refine z_iinc (M := mX12_layRow) (v := (x3 + (1 : Int32))) (lv2 := [(3, .int (x3 + (1 : Int32))), (0, .ref 313), (1, .int x1), (2, .int x2)]) dX12_layRow_23 3 rfl rfl (Nat.le_of_ble_eq_true rfl) rfl ?_
      refine z_goto 13 dX12_layRow_26 rfl ?_
      refine z_lv (lv2 := [(0, .ref 313), (1, .int x1), (2, .int x2), (3, .int (x3 + (1 : Int32)))]) [1, 2, 3, 0] rfl ?_
      exact ih x1 x2 (x3 + (1 : Int32)) v1.2 _ h
def Md_layRow (x1 : Int32) (x2 : Int32) (ν : Nm) : Option (Int32 × Nm) :=
  (Md_can x1 x2 ν).bind fun v1 =>
  (if ¬ (b2i v1.1) = 0 then
    Md_layRow_13 FU x1 x2 (1 : Int32) v1.2
  else
    some ((-1 : Int32), v1.2))
set_option maxRecDepth 100000 in
set_option maxHeartbeats 4000000 in
theorem t_Md_layRow {g : GG} {d : Nat} (hd0 : 6 ≤ d) : ∀ (x1 : Int32) (x2 : Int32) (ν : Nm) (r : (Int32 × Nm)), Md_layRow x1 x2 ν = some r → Z g d (0, 0) mX12_layRow 333 0 0 0 [(0, .ref 313), (1, .int x1), (2, .int x2)] [] (zem ν) (zF g (some (.int r.1), zem r.2)) := by
  intro x1 x2 ν r h
  unfold Md_layRow at h
  refine z_aload_n dX12_layRow_0 0 rfl ?_
  refine z_iload_n dX12_layRow_1 1 rfl ?_
  refine z_iload_n dX12_layRow_2 2 rfl ?_
  obtain ⟨v1, he1, h⟩ := obind h
  refine y_Vi (M := mX12_layRow) (Y := mX12_can) (d2 := d - 1) (As := [.int x1, .int x2]) (st := []) dX12_layRow_3 mlRX12_455 cv_X12_can zk_313 (ct_Md_can (dle (Nat.le_of_ble_eq_true rfl) hd0) he1) (dps (Nat.le_of_ble_eq_true rfl) hd0) rfl rfl (Nat.le_of_ble_eq_true rfl) ?_
  refine z_if_ne 11 dX12_layRow_6 rfl (fun hc2 => ?_) (fun hc2 => ?_)
  · replace h := oT hc2 h
    refine z_iconst (M := mX12_layRow) (v := 1) dX12_layRow_11 rfl ?_
    refine z_istore_n (M := mX12_layRow) (lv2 := [(3, .int (1 : Int32)), (0, .ref 313), (1, .int x1), (2, .int x2)]) dX12_layRow_12 (Nat.le_of_ble_eq_true rfl) rfl ?_
    refine z_lv (lv2 := [(0, .ref 313), (1, .int x1), (2, .int x2), (3, .int (1 : Int32))]) [1, 2, 3, 0] rfl ?_
    exact t_Md_layRow_13 hd0 FU x1 x2 (1 : Int32) v1.2 _ h
  · replace h := oFn hc2 h
    refine z_iconst (M := mX12_layRow) (v := -1) dX12_layRow_9 rfl ?_
    cases h
    exact z_iret dX12_layRow_10 rfl
theorem ct_Md_layRow {g : GG} {d : Nat} {x1 : Int32} {x2 : Int32} {ν : Nm} {r : (Int32 × Nm)} (hd0 : 6 ≤ d)  (h : Md_layRow x1 x2 ν = some r) : Ct g d mX12_layRow [.ref 313, .int x1, .int x2] (zem ν) (some (.int r.1), zem r.2) := y_entry in_X12_layRow (Nat.le_of_ble_eq_true rfl) rfl (t_Md_layRow hd0 x1 x2 ν r h)
-- FuseMinutesModel.row(III)I
theorem dX12_row_0 : decode cX12_row 0 = .ok (.aload_n 0, 1) := by decide +kernel
theorem dX12_row_1 : decode cX12_row 1 = .ok (.iload_n 1, 1) := by decide +kernel
theorem dX12_row_2 : decode cX12_row 2 = .ok (.iload_n 2, 1) := by decide +kernel
theorem dX12_row_3 : decode cX12_row 3 = .ok (.invokevirtual 461, 3) := by decide +kernel
theorem dX12_row_6 : decode cX12_row 6 = .ok (.istore 4, 2) := by decide +kernel
theorem dX12_row_8 : decode cX12_row 8 = .ok (.iload 4, 2) := by decide +kernel
theorem dX12_row_10 : decode cX12_row 10 = .ok (.iconst (-1), 1) := by decide +kernel
theorem dX12_row_11 : decode cX12_row 11 = .ok (.if_icmp .eq 15, 3) := by decide +kernel
theorem dX12_row_14 : decode cX12_row 14 = .ok (.iload_n 3, 1) := by decide +kernel
theorem dX12_row_15 : decode cX12_row 15 = .ok (.iconst (-1), 1) := by decide +kernel
theorem dX12_row_16 : decode cX12_row 16 = .ok (.iload 4, 2) := by decide +kernel
theorem dX12_row_18 : decode cX12_row 18 = .ok (.iconst 1, 1) := by decide +kernel
theorem dX12_row_19 : decode cX12_row 19 = .ok (.isub, 1) := by decide +kernel
theorem dX12_row_20 : decode cX12_row 20 = .ok (.invokestatic 88, 3) := by decide +kernel
theorem dX12_row_23 : decode cX12_row 23 = .ok (.ifCond .ne 6, 3) := by decide +kernel
theorem dX12_row_26 : decode cX12_row 26 = .ok (.bipush (-2), 2) := by decide +kernel
theorem dX12_row_28 : decode cX12_row 28 = .ok (.ireturn, 1) := by decide +kernel
theorem dX12_row_29 : decode cX12_row 29 = .ok (.iload_n 3, 1) := by decide +kernel
theorem dX12_row_30 : decode cX12_row 30 = .ok (.iconst (-1), 1) := by decide +kernel
theorem dX12_row_31 : decode cX12_row 31 = .ok (.if_icmp .ne 8, 3) := by decide +kernel
theorem dX12_row_34 : decode cX12_row 34 = .ok (.iload 4, 2) := by decide +kernel
theorem dX12_row_36 : decode cX12_row 36 = .ok (.goto 11, 3) := by decide +kernel
theorem dX12_row_39 : decode cX12_row 39 = .ok (.aload_n 0, 1) := by decide +kernel
theorem dX12_row_40 : decode cX12_row 40 = .ok (.getfield 53, 3) := by decide +kernel
theorem dX12_row_43 : decode cX12_row 43 = .ok (.iload_n 3, 1) := by decide +kernel
theorem dX12_row_44 : decode cX12_row 44 = .ok (.iaload, 1) := by decide +kernel
theorem dX12_row_45 : decode cX12_row 45 = .ok (.iconst 1, 1) := by decide +kernel
theorem dX12_row_46 : decode cX12_row 46 = .ok (.isub, 1) := by decide +kernel
theorem dX12_row_47 : decode cX12_row 47 = .ok (.ireturn, 1) := by decide +kernel
def Md_row (x1 : Int32) (x2 : Int32) (x3 : Int32) (ν : Nm) : Option (Int32 × Nm) :=
  (Md_layRow x1 x2 ν).bind fun v1 =>
  (if v1.1 = (-1 : Int32) then
    some ((-2 : Int32), v1.2)
  else
    (Md_isIn x3 (-1 : Int32) (v1.1 - (1 : Int32))).bind fun v3 =>
    (if ¬ (b2i v3) = 0 then
      (if ¬ x3 = (-1 : Int32) then
        if inb x3 6 then
        some (((gi v1.2 324 x3.toNatClampNeg) - (1 : Int32)), v1.2)
        else none
      else
        some (v1.1, v1.2))
    else
      some ((-2 : Int32), v1.2)))
set_option maxRecDepth 100000 in
set_option maxHeartbeats 4000000 in
theorem t_Md_row {g : GG} {d : Nat} (hd0 : 7 ≤ d) : ∀ (x1 : Int32) (x2 : Int32) (x3 : Int32) (ν : Nm) (r : (Int32 × Nm)), Md_row x1 x2 x3 ν = some r → Z g d (0, 0) mX12_row 333 0 0 0 [(0, .ref 313), (1, .int x1), (2, .int x2), (3, .int x3)] [] (zem ν) (zF g (some (.int r.1), zem r.2)) := by
  intro x1 x2 x3 ν r h
  unfold Md_row at h
  refine z_aload_n dX12_row_0 0 rfl ?_
  refine z_iload_n dX12_row_1 1 rfl ?_
  refine z_iload_n dX12_row_2 2 rfl ?_
  obtain ⟨v1, he1, h⟩ := obind h
  refine y_Vi (M := mX12_row) (Y := mX12_layRow) (d2 := d - 1) (As := [.int x1, .int x2]) (st := []) dX12_row_3 mlRX12_461 cv_X12_layRow zk_313 (ct_Md_layRow (dle (Nat.le_of_ble_eq_true rfl) hd0) he1) (dps (Nat.le_of_ble_eq_true rfl) hd0) rfl rfl (Nat.le_of_ble_eq_true rfl) ?_
  refine z_istore (M := mX12_row) (lv2 := [(4, .int v1.1), (0, .ref 313), (1, .int x1), (2, .int x2), (3, .int x3)]) dX12_row_6 (Nat.le_of_ble_eq_true rfl) rfl ?_
  refine z_iload dX12_row_8 0 rfl ?_
  refine z_iconst (M := mX12_row) (v := -1) dX12_row_10 rfl ?_
  refine z_icmp_eq 26 dX12_row_11 rfl (fun hc2 => ?_) (fun hc2 => ?_)
  · replace h := oT hc2 h
    refine z_bipush (M := mX12_row) (v := -2) dX12_row_26 rfl ?_
    cases h
    exact z_iret dX12_row_28 rfl
  · replace h := oF hc2 h
    refine z_iload_n dX12_row_14 4 rfl ?_
    refine z_iconst (M := mX12_row) (v := -1) dX12_row_15 rfl ?_
    refine z_iload dX12_row_16 0 rfl ?_
    refine z_iconst (M := mX12_row) (v := 1) dX12_row_18 rfl ?_
    refine z_isub dX12_row_19 ?_
    obtain ⟨v3, he3, h⟩ := obind h
    refine y_Si (M := mX12_row) (Y := mX12_isIn) (d2 := d - 1) (As := [.int x3, .int (-1 : Int32), .int (v1.1 - (1 : Int32))]) (st := []) dX12_row_20 mlRX12_88 cv_X12_isIn (ct_Md_isIn (dle (Nat.le_of_ble_eq_true rfl) hd0) he3) (dps (Nat.le_of_ble_eq_true rfl) hd0) rfl rfl (Nat.le_of_ble_eq_true rfl) ?_
    refine z_if_ne 29 dX12_row_23 rfl (fun hc4 => ?_) (fun hc4 => ?_)
    · replace h := oT hc4 h
      refine z_iload_n dX12_row_29 4 rfl ?_
      refine z_iconst (M := mX12_row) (v := -1) dX12_row_30 rfl ?_
      refine z_icmp_ne 39 dX12_row_31 rfl (fun hc5 => ?_) (fun hc5 => ?_)
      · replace h := oT hc5 h
        refine z_aload_n dX12_row_39 1 rfl ?_
        refine y_getR (M := mX12_row) (r := 324) dX12_row_40 zk_313 flRX12_53 fr_10_27.1 (fr_10_27.2 _) ?_
        refine z_iload_n dX12_row_43 4 rfl ?_
        obtain ⟨hi6, h⟩ := oif h
        refine y_iald (M := mX12_row) (jj := x3.toNatClampNeg) dX12_row_44 zk_324 hi6 rfl ?_
        refine z_iconst (M := mX12_row) (v := 1) dX12_row_45 rfl ?_
        refine z_isub dX12_row_46 ?_
        cases h
        exact z_iret dX12_row_47 rfl
      · replace h := oFn hc5 h
        refine z_iload dX12_row_34 0 rfl ?_
        refine z_goto 47 dX12_row_36 rfl ?_
        cases h
        exact z_iret dX12_row_47 rfl
    · replace h := oFn hc4 h
      refine z_bipush (M := mX12_row) (v := -2) dX12_row_26 rfl ?_
      cases h
      exact z_iret dX12_row_28 rfl
theorem ct_Md_row {g : GG} {d : Nat} {x1 : Int32} {x2 : Int32} {x3 : Int32} {ν : Nm} {r : (Int32 × Nm)} (hd0 : 7 ≤ d)  (h : Md_row x1 x2 x3 ν = some r) : Ct g d mX12_row [.ref 313, .int x1, .int x2, .int x3] (zem ν) (some (.int r.1), zem r.2) := y_entry in_X12_row (Nat.le_of_ble_eq_true rfl) rfl (t_Md_row hd0 x1 x2 x3 ν r h)
-- FuseMinutesModel.between(IIZ)I
theorem dX12_between_0 : decode cX12_between 0 = .ok (.aload_n 0, 1) := by decide +kernel
theorem dX12_between_1 : decode cX12_between 1 = .ok (.iload_n 1, 1) := by decide +kernel
theorem dX12_between_2 : decode cX12_between 2 = .ok (.iload_n 2, 1) := by decide +kernel
theorem dX12_between_3 : decode cX12_between 3 = .ok (.invokevirtual 461, 3) := by decide +kernel
theorem dX12_between_6 : decode cX12_between 6 = .ok (.istore 4, 2) := by decide +kernel
theorem dX12_between_8 : decode cX12_between 8 = .ok (.iload 4, 2) := by decide +kernel
theorem dX12_between_10 : decode cX12_between 10 = .ok (.iconst (-1), 1) := by decide +kernel
theorem dX12_between_11 : decode cX12_between 11 = .ok (.if_icmp .ne 8, 3) := by decide +kernel
theorem dX12_between_14 : decode cX12_between 14 = .ok (.bipush (-2), 2) := by decide +kernel
theorem dX12_between_16 : decode cX12_between 16 = .ok (.goto 16, 3) := by decide +kernel
theorem dX12_between_19 : decode cX12_between 19 = .ok (.iload_n 3, 1) := by decide +kernel
theorem dX12_between_20 : decode cX12_between 20 = .ok (.ifCond .eq 8, 3) := by decide +kernel
theorem dX12_between_23 : decode cX12_between 23 = .ok (.iload 4, 2) := by decide +kernel
theorem dX12_between_25 : decode cX12_between 25 = .ok (.goto 7, 3) := by decide +kernel
theorem dX12_between_28 : decode cX12_between 28 = .ok (.aload_n 0, 1) := by decide +kernel
theorem dX12_between_29 : decode cX12_between 29 = .ok (.getfield 449, 3) := by decide +kernel
theorem dX12_between_32 : decode cX12_between 32 = .ok (.ireturn, 1) := by decide +kernel
def Md_between (x1 : Int32) (x2 : Int32) (x3 : Int32) (ν : Nm) : Option (Int32 × Nm) :=
  (Md_layRow x1 x2 ν).bind fun v1 =>
  (if ¬ v1.1 = (-1 : Int32) then
    (if x3 = 0 then
      some ((gi v1.2 313 32), v1.2)
    else
      some (v1.1, v1.2))
  else
    some ((-2 : Int32), v1.2))
set_option maxRecDepth 100000 in
set_option maxHeartbeats 4000000 in
theorem t_Md_between {g : GG} {d : Nat} (hd0 : 7 ≤ d) : ∀ (x1 : Int32) (x2 : Int32) (x3 : Int32) (ν : Nm) (r : (Int32 × Nm)), Md_between x1 x2 x3 ν = some r → Z g d (0, 0) mX12_between 333 0 0 0 [(0, .ref 313), (1, .int x1), (2, .int x2), (3, .int x3)] [] (zem ν) (zF g (some (.int r.1), zem r.2)) := by
  intro x1 x2 x3 ν r h
  unfold Md_between at h
  refine z_aload_n dX12_between_0 0 rfl ?_
  refine z_iload_n dX12_between_1 1 rfl ?_
  refine z_iload_n dX12_between_2 2 rfl ?_
  obtain ⟨v1, he1, h⟩ := obind h
  refine y_Vi (M := mX12_between) (Y := mX12_layRow) (d2 := d - 1) (As := [.int x1, .int x2]) (st := []) dX12_between_3 mlRX12_461 cv_X12_layRow zk_313 (ct_Md_layRow (dle (Nat.le_of_ble_eq_true rfl) hd0) he1) (dps (Nat.le_of_ble_eq_true rfl) hd0) rfl rfl (Nat.le_of_ble_eq_true rfl) ?_
  refine z_istore (M := mX12_between) (lv2 := [(4, .int v1.1), (0, .ref 313), (1, .int x1), (2, .int x2), (3, .int x3)]) dX12_between_6 (Nat.le_of_ble_eq_true rfl) rfl ?_
  refine z_iload dX12_between_8 0 rfl ?_
  refine z_iconst (M := mX12_between) (v := -1) dX12_between_10 rfl ?_
  refine z_icmp_ne 19 dX12_between_11 rfl (fun hc2 => ?_) (fun hc2 => ?_)
  · replace h := oT hc2 h
    refine z_iload_n dX12_between_19 4 rfl ?_
    refine z_if_eq 28 dX12_between_20 rfl (fun hc3 => ?_) (fun hc3 => ?_)
    · replace h := oT hc3 h
      refine z_aload_n dX12_between_28 1 rfl ?_
      refine y_getI dX12_between_29 zk_313 flRX12_449 ?_
      cases h
      exact z_iret dX12_between_32 rfl
    · replace h := oF hc3 h
      refine z_iload dX12_between_23 0 rfl ?_
      refine z_goto 32 dX12_between_25 rfl ?_
      cases h
      exact z_iret dX12_between_32 rfl
  · replace h := oFn hc2 h
    refine z_bipush (M := mX12_between) (v := -2) dX12_between_14 rfl ?_
    refine z_goto 32 dX12_between_16 rfl ?_
    cases h
    exact z_iret dX12_between_32 rfl
theorem ct_Md_between {g : GG} {d : Nat} {x1 : Int32} {x2 : Int32} {x3 : Int32} {ν : Nm} {r : (Int32 × Nm)} (hd0 : 7 ≤ d)  (h : Md_between x1 x2 x3 ν = some r) : Ct g d mX12_between [.ref 313, .int x1, .int x2, .int x3] (zem ν) (some (.int r.1), zem r.2) := y_entry in_X12_between (Nat.le_of_ble_eq_true rfl) rfl (t_Md_between hd0 x1 x2 x3 ν r h)
-- FuseMinutesModel.fewest(I)I
theorem dX12_fewest_0 : decode cX12_fewest 0 = .ok (.iload_n 1, 1) := by decide +kernel
theorem dX12_fewest_1 : decode cX12_fewest 1 = .ok (.invokestatic 446, 3) := by decide +kernel
theorem dX12_fewest_4 : decode cX12_fewest 4 = .ok (.ifCond .ne 5, 3) := by decide +kernel
theorem dX12_fewest_7 : decode cX12_fewest 7 = .ok (.iconst (-1), 1) := by decide +kernel
theorem dX12_fewest_8 : decode cX12_fewest 8 = .ok (.ireturn, 1) := by decide +kernel
theorem dX12_fewest_9 : decode cX12_fewest 9 = .ok (.iconst (-1), 1) := by decide +kernel
theorem dX12_fewest_10 : decode cX12_fewest 10 = .ok (.istore_n 2, 1) := by decide +kernel
theorem dX12_fewest_11 : decode cX12_fewest 11 = .ok (.iconst 1, 1) := by decide +kernel
theorem dX12_fewest_12 : decode cX12_fewest 12 = .ok (.istore_n 3, 1) := by decide +kernel
theorem dX12_fewest_13 : decode cX12_fewest 13 = .ok (.iload_n 3, 1) := by decide +kernel
theorem dX12_fewest_14 : decode cX12_fewest 14 = .ok (.iconst 1, 1) := by decide +kernel
theorem dX12_fewest_15 : decode cX12_fewest 15 = .ok (.aload_n 0, 1) := by decide +kernel
theorem dX12_fewest_16 : decode cX12_fewest 16 = .ok (.getfield 7, 3) := by decide +kernel
theorem dX12_fewest_19 : decode cX12_fewest 19 = .ok (.iconst 0, 1) := by decide +kernel
theorem dX12_fewest_20 : decode cX12_fewest 20 = .ok (.iaload, 1) := by decide +kernel
theorem dX12_fewest_21 : decode cX12_fewest 21 = .ok (.ishl, 1) := by decide +kernel
theorem dX12_fewest_22 : decode cX12_fewest 22 = .ok (.if_icmp .ge 36, 3) := by decide +kernel
theorem dX12_fewest_25 : decode cX12_fewest 25 = .ok (.aload_n 0, 1) := by decide +kernel
theorem dX12_fewest_26 : decode cX12_fewest 26 = .ok (.iload_n 3, 1) := by decide +kernel
theorem dX12_fewest_27 : decode cX12_fewest 27 = .ok (.iload_n 1, 1) := by decide +kernel
theorem dX12_fewest_28 : decode cX12_fewest 28 = .ok (.invokevirtual 443, 3) := by decide +kernel
theorem dX12_fewest_31 : decode cX12_fewest 31 = .ok (.ifCond .eq 21, 3) := by decide +kernel
theorem dX12_fewest_34 : decode cX12_fewest 34 = .ok (.iload_n 2, 1) := by decide +kernel
theorem dX12_fewest_35 : decode cX12_fewest 35 = .ok (.iconst (-1), 1) := by decide +kernel
theorem dX12_fewest_36 : decode cX12_fewest 36 = .ok (.if_icmp .eq 14, 3) := by decide +kernel
theorem dX12_fewest_39 : decode cX12_fewest 39 = .ok (.iload_n 3, 1) := by decide +kernel
theorem dX12_fewest_40 : decode cX12_fewest 40 = .ok (.invokestatic 100, 3) := by decide +kernel
theorem dX12_fewest_43 : decode cX12_fewest 43 = .ok (.iload_n 2, 1) := by decide +kernel
theorem dX12_fewest_44 : decode cX12_fewest 44 = .ok (.invokestatic 100, 3) := by decide +kernel
theorem dX12_fewest_47 : decode cX12_fewest 47 = .ok (.if_icmp .ge 5, 3) := by decide +kernel
theorem dX12_fewest_50 : decode cX12_fewest 50 = .ok (.iload_n 3, 1) := by decide +kernel
theorem dX12_fewest_51 : decode cX12_fewest 51 = .ok (.istore_n 2, 1) := by decide +kernel
theorem dX12_fewest_52 : decode cX12_fewest 52 = .ok (.iinc 3 1, 3) := by decide +kernel
theorem dX12_fewest_55 : decode cX12_fewest 55 = .ok (.goto (-42), 3) := by decide +kernel
theorem dX12_fewest_58 : decode cX12_fewest 58 = .ok (.iload_n 2, 1) := by decide +kernel
theorem dX12_fewest_59 : decode cX12_fewest 59 = .ok (.ireturn, 1) := by decide +kernel
def Md_fewest_52 (k13 : Int32 → Int32 → Int32 → Nm → Option (Int32 × Nm)) (x1 : Int32) (x2 : Int32) (x3 : Int32) (ν : Nm) : Option (Int32 × Nm) :=
  k13 x1 x2 (x3 + (1 : Int32)) ν
set_option maxRecDepth 100000 in
set_option maxHeartbeats 4000000 in
theorem t_Md_fewest_52 {g : GG} {d : Nat} (hd0 : 5 ≤ d) {k13 : Int32 → Int32 → Int32 → Nm → Option (Int32 × Nm)} (hk13 : ∀ (x1 : Int32) (x2 : Int32) (x3 : Int32) (ν : Nm) (r : (Int32 × Nm)), k13 x1 x2 x3 ν = some r → Z g d (0, 0) mX12_fewest 333 0 0 13 [(0, .ref 313), (1, .int x1), (2, .int x2), (3, .int x3)] [] (zem ν) (zF g (some (.int r.1), zem r.2))) : ∀ (x1 : Int32) (x2 : Int32) (x3 : Int32) (ν : Nm) (r : (Int32 × Nm)), Md_fewest_52 k13 x1 x2 x3 ν = some r → Z g d (0, 0) mX12_fewest 333 0 0 52 [(0, .ref 313), (1, .int x1), (2, .int x2), (3, .int x3)] [] (zem ν) (zF g (some (.int r.1), zem r.2)) := by
  intro x1 x2 x3 ν r h
  unfold Md_fewest_52 at h
  refine z_iinc (M := mX12_fewest) (v := (x3 + (1 : Int32))) (lv2 := [(3, .int (x3 + (1 : Int32))), (0, .ref 313), (1, .int x1), (2, .int x2)]) dX12_fewest_52 3 rfl rfl (Nat.le_of_ble_eq_true rfl) rfl ?_
  refine z_goto 13 dX12_fewest_55 rfl ?_
  refine z_lv (lv2 := [(0, .ref 313), (1, .int x1), (2, .int x2), (3, .int (x3 + (1 : Int32)))]) [1, 2, 3, 0] rfl ?_
  exact hk13 x1 x2 (x3 + (1 : Int32)) ν _ h
def Md_fewest_50 (k13 : Int32 → Int32 → Int32 → Nm → Option (Int32 × Nm)) (x1 : Int32) (x3 : Int32) (ν : Nm) : Option (Int32 × Nm) :=
  Md_fewest_52 k13 x1 x3 x3 ν
set_option maxRecDepth 100000 in
set_option maxHeartbeats 4000000 in
theorem t_Md_fewest_50 {g : GG} {d : Nat} (hd0 : 5 ≤ d) {k13 : Int32 → Int32 → Int32 → Nm → Option (Int32 × Nm)} (hk13 : ∀ (x1 : Int32) (x2 : Int32) (x3 : Int32) (ν : Nm) (r : (Int32 × Nm)), k13 x1 x2 x3 ν = some r → Z g d (0, 0) mX12_fewest 333 0 0 13 [(0, .ref 313), (1, .int x1), (2, .int x2), (3, .int x3)] [] (zem ν) (zF g (some (.int r.1), zem r.2))) : ∀ (x1 : Int32) (x3 : Int32) (ν : Nm) (r : (Int32 × Nm)), Md_fewest_50 k13 x1 x3 ν = some r → Z g d (0, 0) mX12_fewest 333 0 0 50 [(0, .ref 313), (1, .int x1), (3, .int x3)] [] (zem ν) (zF g (some (.int r.1), zem r.2)) := by
  intro x1 x3 ν r h
  unfold Md_fewest_50 at h
  refine z_iload_n dX12_fewest_50 2 rfl ?_
  refine z_istore_n (M := mX12_fewest) (lv2 := [(2, .int x3), (0, .ref 313), (1, .int x1), (3, .int x3)]) dX12_fewest_51 (Nat.le_of_ble_eq_true rfl) rfl ?_
  refine z_lv (lv2 := [(0, .ref 313), (1, .int x1), (2, .int x3), (3, .int x3)]) [1, 2, 0, 3] rfl ?_
  exact t_Md_fewest_52 hd0 hk13 x1 x3 x3 ν _ h
def Md_fewest_13 : Nat → Int32 → Int32 → Int32 → Nm → Option (Int32 × Nm)
  | 0, _, _, _, _ => none
  | f + 1, x1, x2, x3, ν =>
    (if ((1 : Int32) <<< ((gi ν 314 0) &&& 31)) ≤ x3 then
      some (x2, ν)
    else
      (Md_isGiven x3 x1 ν).bind fun v2 =>
      (if (b2i v2.1) = 0 then
        Md_fewest_52 (Md_fewest_13 f) x1 x2 x3 v2.2
      else
        (if x2 = (-1 : Int32) then
          Md_fewest_50 (Md_fewest_13 f) x1 x3 v2.2
        else
          (Md_bits x3).bind fun v5 =>
          (Md_bits x2).bind fun v6 =>
          (if v6 ≤ v5 then
            Md_fewest_52 (Md_fewest_13 f) x1 x2 x3 v2.2
          else
            Md_fewest_50 (Md_fewest_13 f) x1 x3 v2.2))))
set_option maxRecDepth 100000 in
set_option maxHeartbeats 4000000 in
theorem t_Md_fewest_13 {g : GG} {d : Nat} (hd0 : 5 ≤ d) : ∀ (f : Nat), ∀ (x1 : Int32) (x2 : Int32) (x3 : Int32) (ν : Nm) (r : (Int32 × Nm)), Md_fewest_13 f x1 x2 x3 ν = some r → Z g d (0, 0) mX12_fewest 333 0 0 13 [(0, .ref 313), (1, .int x1), (2, .int x2), (3, .int x3)] [] (zem ν) (zF g (some (.int r.1), zem r.2)) := by
  intro f
  induction f with
  | zero =>
    intro x1 x2 x3 ν r h
    cases h
  | succ f ih =>
    intro x1 x2 x3 ν r h
    rw [Md_fewest_13] at h
    refine z_iload_n dX12_fewest_13 3 rfl ?_
    refine z_iconst (M := mX12_fewest) (v := 1) dX12_fewest_14 rfl ?_
    refine z_aload_n dX12_fewest_15 0 rfl ?_
    refine y_getR (M := mX12_fewest) (r := 314) dX12_fewest_16 zk_313 flRX12_7 fr_10_0.1 (fr_10_0.2 _) ?_
    refine z_iconst (M := mX12_fewest) (v := 0) dX12_fewest_19 rfl ?_
    refine y_iald (M := mX12_fewest) (jj := 0) dX12_fewest_20 zk_314 rfl rfl ?_
    refine z_ishl dX12_fewest_21 ?_
    refine z_icmp_ge 58 dX12_fewest_22 rfl (fun hc1 => ?_) (fun hc1 => ?_)
    · replace h := oT hc1 h
      refine z_iload_n dX12_fewest_58 2 rfl ?_
      cases h
      exact z_iret dX12_fewest_59 rfl
    · replace h := oF hc1 h
      refine z_aload_n dX12_fewest_25 0 rfl ?_
      refine z_iload_n dX12_fewest_26 3 rfl ?_
      refine z_iload_n dX12_fewest_27 1 rfl ?_
      obtain ⟨v2, he2, h⟩ := obind h
      refine y_Vi (M := mX12_fewest) (Y := mX12_isGiven) (d2 := d - 1) (As := [.int x3, .int x1]) (st := []) dX12_fewest_28 mlRX12_443 cv_X12_isGiven zk_313 (ct_Md_isGiven (dle (Nat.le_of_ble_eq_true rfl) hd0) he2) (dps (Nat.le_of_ble_eq_true rfl) hd0) rfl rfl (Nat.le_of_ble_eq_true rfl) ?_
      refine z_if_eq 52 dX12_fewest_31 rfl (fun hc3 => ?_) (fun hc3 => ?_)
      · replace h := oT hc3 h
        exact t_Md_fewest_52 hd0 ih x1 x2 x3 v2.2 _ h
      · replace h := oF hc3 h
        refine z_iload_n dX12_fewest_34 2 rfl ?_
        refine z_iconst (M := mX12_fewest) (v := -1) dX12_fewest_35 rfl ?_
        refine z_icmp_eq 50 dX12_fewest_36 rfl (fun hc4 => ?_) (fun hc4 => ?_)
        · replace h := oT hc4 h
          refine z_lv (lv2 := [(0, .ref 313), (1, .int x1), (3, .int x3)]) [0, 1, 3] rfl ?_
          exact t_Md_fewest_50 hd0 ih x1 x3 v2.2 _ h
        · replace h := oF hc4 h
          refine z_iload_n dX12_fewest_39 3 rfl ?_
          obtain ⟨v5, he5, h⟩ := obind h
          refine y_Si (M := mX12_fewest) (Y := mX12_bits) (d2 := d - 1) (As := [.int x3]) (st := []) dX12_fewest_40 mlRX12_100 cv_X12_bits (ct_Md_bits (dle (Nat.le_of_ble_eq_true rfl) hd0) he5) (dps (Nat.le_of_ble_eq_true rfl) hd0) rfl rfl (Nat.le_of_ble_eq_true rfl) ?_
          refine z_iload_n dX12_fewest_43 2 rfl ?_
          obtain ⟨v6, he6, h⟩ := obind h
          refine y_Si (M := mX12_fewest) (Y := mX12_bits) (d2 := d - 1) (As := [.int x2]) (st := [.int v5]) dX12_fewest_44 mlRX12_100 cv_X12_bits (ct_Md_bits (dle (Nat.le_of_ble_eq_true rfl) hd0) he6) (dps (Nat.le_of_ble_eq_true rfl) hd0) rfl rfl (Nat.le_of_ble_eq_true rfl) ?_
          refine z_icmp_ge 52 dX12_fewest_47 rfl (fun hc7 => ?_) (fun hc7 => ?_)
          · replace h := oT hc7 h
            exact t_Md_fewest_52 hd0 ih x1 x2 x3 v2.2 _ h
          · replace h := oF hc7 h
            refine z_lv (lv2 := [(0, .ref 313), (1, .int x1), (3, .int x3)]) [0, 1, 3] rfl ?_
            exact t_Md_fewest_50 hd0 ih x1 x3 v2.2 _ h
def Md_fewest (x1 : Int32) (ν : Nm) : Option (Int32 × Nm) :=
  (Md_isSpan x1).bind fun v1 =>
  (if ¬ (b2i v1) = 0 then
    Md_fewest_13 FU x1 (-1 : Int32) (1 : Int32) ν
  else
    some ((-1 : Int32), ν))
set_option maxRecDepth 100000 in
set_option maxHeartbeats 4000000 in
theorem t_Md_fewest {g : GG} {d : Nat} (hd0 : 5 ≤ d) : ∀ (x1 : Int32) (ν : Nm) (r : (Int32 × Nm)), Md_fewest x1 ν = some r → Z g d (0, 0) mX12_fewest 333 0 0 0 [(0, .ref 313), (1, .int x1)] [] (zem ν) (zF g (some (.int r.1), zem r.2)) := by
  intro x1 ν r h
  unfold Md_fewest at h
  refine z_iload_n dX12_fewest_0 1 rfl ?_
  obtain ⟨v1, he1, h⟩ := obind h
  refine y_Si (M := mX12_fewest) (Y := mX12_isSpan) (d2 := d - 1) (As := [.int x1]) (st := []) dX12_fewest_1 mlRX12_446 cv_X12_isSpan (ct_Md_isSpan (dle (Nat.le_of_ble_eq_true rfl) hd0) he1) (dps (Nat.le_of_ble_eq_true rfl) hd0) rfl rfl (Nat.le_of_ble_eq_true rfl) ?_
  refine z_if_ne 9 dX12_fewest_4 rfl (fun hc2 => ?_) (fun hc2 => ?_)
  · replace h := oT hc2 h
    refine z_iconst (M := mX12_fewest) (v := -1) dX12_fewest_9 rfl ?_
    refine z_istore_n (M := mX12_fewest) (lv2 := [(2, .int (-1 : Int32)), (0, .ref 313), (1, .int x1)]) dX12_fewest_10 (Nat.le_of_ble_eq_true rfl) rfl ?_
    refine z_iconst (M := mX12_fewest) (v := 1) dX12_fewest_11 rfl ?_
    refine z_istore_n (M := mX12_fewest) (lv2 := [(3, .int (1 : Int32)), (2, .int (-1 : Int32)), (0, .ref 313), (1, .int x1)]) dX12_fewest_12 (Nat.le_of_ble_eq_true rfl) rfl ?_
    refine z_lv (lv2 := [(0, .ref 313), (1, .int x1), (2, .int (-1 : Int32)), (3, .int (1 : Int32))]) [2, 3, 1, 0] rfl ?_
    exact t_Md_fewest_13 hd0 FU x1 (-1 : Int32) (1 : Int32) ν _ h
  · replace h := oFn hc2 h
    refine z_iconst (M := mX12_fewest) (v := -1) dX12_fewest_7 rfl ?_
    cases h
    exact z_iret dX12_fewest_8 rfl
theorem ct_Md_fewest {g : GG} {d : Nat} {x1 : Int32} {ν : Nm} {r : (Int32 × Nm)} (hd0 : 5 ≤ d)  (h : Md_fewest x1 ν = some r) : Ct g d mX12_fewest [.ref 313, .int x1] (zem ν) (some (.int r.1), zem r.2) := y_entry in_X12_fewest (Nat.le_of_ble_eq_true rfl) rfl (t_Md_fewest hd0 x1 ν r h)
-- FuseMinutesModel.isCheaper(II)Z
theorem dX12_isCheaper_0 : decode cX12_isCheaper 0 = .ok (.iload_n 2, 1) := by decide +kernel
theorem dX12_isCheaper_1 : decode cX12_isCheaper 1 = .ok (.iconst (-1), 1) := by decide +kernel
theorem dX12_isCheaper_2 : decode cX12_isCheaper 2 = .ok (.if_icmp .eq 40, 3) := by decide +kernel
theorem dX12_isCheaper_5 : decode cX12_isCheaper 5 = .ok (.aload_n 0, 1) := by decide +kernel
theorem dX12_isCheaper_6 : decode cX12_isCheaper 6 = .ok (.iload_n 1, 1) := by decide +kernel
theorem dX12_isCheaper_7 : decode cX12_isCheaper 7 = .ok (.invokevirtual 464, 3) := by decide +kernel
theorem dX12_isCheaper_10 : decode cX12_isCheaper 10 = .ok (.aload_n 0, 1) := by decide +kernel
theorem dX12_isCheaper_11 : decode cX12_isCheaper 11 = .ok (.iload_n 2, 1) := by decide +kernel
theorem dX12_isCheaper_12 : decode cX12_isCheaper 12 = .ok (.invokevirtual 464, 3) := by decide +kernel
theorem dX12_isCheaper_15 : decode cX12_isCheaper 15 = .ok (.if_icmp .lt 27, 3) := by decide +kernel
theorem dX12_isCheaper_18 : decode cX12_isCheaper 18 = .ok (.aload_n 0, 1) := by decide +kernel
theorem dX12_isCheaper_19 : decode cX12_isCheaper 19 = .ok (.iload_n 1, 1) := by decide +kernel
theorem dX12_isCheaper_20 : decode cX12_isCheaper 20 = .ok (.invokevirtual 464, 3) := by decide +kernel
theorem dX12_isCheaper_23 : decode cX12_isCheaper 23 = .ok (.aload_n 0, 1) := by decide +kernel
theorem dX12_isCheaper_24 : decode cX12_isCheaper 24 = .ok (.iload_n 2, 1) := by decide +kernel
theorem dX12_isCheaper_25 : decode cX12_isCheaper 25 = .ok (.invokevirtual 464, 3) := by decide +kernel
theorem dX12_isCheaper_28 : decode cX12_isCheaper 28 = .ok (.if_icmp .ne 18, 3) := by decide +kernel
theorem dX12_isCheaper_31 : decode cX12_isCheaper 31 = .ok (.iload_n 1, 1) := by decide +kernel
theorem dX12_isCheaper_32 : decode cX12_isCheaper 32 = .ok (.invokestatic 100, 3) := by decide +kernel
theorem dX12_isCheaper_35 : decode cX12_isCheaper 35 = .ok (.iload_n 2, 1) := by decide +kernel
theorem dX12_isCheaper_36 : decode cX12_isCheaper 36 = .ok (.invokestatic 100, 3) := by decide +kernel
theorem dX12_isCheaper_39 : decode cX12_isCheaper 39 = .ok (.if_icmp .ge 7, 3) := by decide +kernel
theorem dX12_isCheaper_42 : decode cX12_isCheaper 42 = .ok (.iconst 1, 1) := by decide +kernel
theorem dX12_isCheaper_43 : decode cX12_isCheaper 43 = .ok (.goto 4, 3) := by decide +kernel
theorem dX12_isCheaper_46 : decode cX12_isCheaper 46 = .ok (.iconst 0, 1) := by decide +kernel
theorem dX12_isCheaper_47 : decode cX12_isCheaper 47 = .ok (.ireturn, 1) := by decide +kernel
def Md_isCheaper (ν : Nm) (x1 : Int32) (x2 : Int32) : Option Bool :=
  (if x2 = (-1 : Int32) then
    some true
  else
    (Md_priceOf ν x1).bind fun v2 =>
    (Md_priceOf ν x2).bind fun v3 =>
    (if v2 < v3 then
      some true
    else
      (Md_priceOf ν x1).bind fun v5 =>
      (Md_priceOf ν x2).bind fun v6 =>
      (if ¬ v5 = v6 then
        some false
      else
        (Md_bits x1).bind fun v8 =>
        (Md_bits x2).bind fun v9 =>
        (if v9 ≤ v8 then
          some false
        else
          some true))))
set_option maxRecDepth 100000 in
set_option maxHeartbeats 4000000 in
theorem t_Md_isCheaper {g : GG} {d : Nat} {ν : Nm} (hd0 : 3 ≤ d) : ∀ (x1 : Int32) (x2 : Int32) (r : Bool), Md_isCheaper ν x1 x2 = some r → Z g d (0, 0) mX12_isCheaper 333 0 0 0 [(0, .ref 313), (1, .int x1), (2, .int x2)] [] (zem ν) (zF g (some (.int (b2i r)), zem ν)) := by
  intro x1 x2 r h
  unfold Md_isCheaper at h
  refine z_iload_n dX12_isCheaper_0 2 rfl ?_
  refine z_iconst (M := mX12_isCheaper) (v := -1) dX12_isCheaper_1 rfl ?_
  refine z_icmp_eq 42 dX12_isCheaper_2 rfl (fun hc1 => ?_) (fun hc1 => ?_)
  · replace h := oT hc1 h
    refine z_iconst (M := mX12_isCheaper) (v := 1) dX12_isCheaper_42 rfl ?_
    refine z_goto 47 dX12_isCheaper_43 rfl ?_
    cases h
    exact z_zret dX12_isCheaper_47 rfl rfl
  · replace h := oF hc1 h
    refine z_aload_n dX12_isCheaper_5 0 rfl ?_
    refine z_iload_n dX12_isCheaper_6 1 rfl ?_
    obtain ⟨v2, he2, h⟩ := obind h
    refine y_Vi (M := mX12_isCheaper) (Y := mX12_priceOf) (d2 := d - 1) (As := [.int x1]) (st := []) dX12_isCheaper_7 mlRX12_464 cv_X12_priceOf zk_313 (ct_Md_priceOf (dle (Nat.le_of_ble_eq_true rfl) hd0) he2) (dps (Nat.le_of_ble_eq_true rfl) hd0) rfl rfl (Nat.le_of_ble_eq_true rfl) ?_
    refine z_aload_n dX12_isCheaper_10 0 rfl ?_
    refine z_iload_n dX12_isCheaper_11 2 rfl ?_
    obtain ⟨v3, he3, h⟩ := obind h
    refine y_Vi (M := mX12_isCheaper) (Y := mX12_priceOf) (d2 := d - 1) (As := [.int x2]) (st := [.int v2]) dX12_isCheaper_12 mlRX12_464 cv_X12_priceOf zk_313 (ct_Md_priceOf (dle (Nat.le_of_ble_eq_true rfl) hd0) he3) (dps (Nat.le_of_ble_eq_true rfl) hd0) rfl rfl (Nat.le_of_ble_eq_true rfl) ?_
    refine z_icmp_lt 42 dX12_isCheaper_15 rfl (fun hc4 => ?_) (fun hc4 => ?_)
    · replace h := oT hc4 h
      refine z_iconst (M := mX12_isCheaper) (v := 1) dX12_isCheaper_42 rfl ?_
      refine z_goto 47 dX12_isCheaper_43 rfl ?_
      cases h
      exact z_zret dX12_isCheaper_47 rfl rfl
    · replace h := oF hc4 h
      refine z_aload_n dX12_isCheaper_18 0 rfl ?_
      refine z_iload_n dX12_isCheaper_19 1 rfl ?_
      obtain ⟨v5, he5, h⟩ := obind h
      refine y_Vi (M := mX12_isCheaper) (Y := mX12_priceOf) (d2 := d - 1) (As := [.int x1]) (st := []) dX12_isCheaper_20 mlRX12_464 cv_X12_priceOf zk_313 (ct_Md_priceOf (dle (Nat.le_of_ble_eq_true rfl) hd0) he5) (dps (Nat.le_of_ble_eq_true rfl) hd0) rfl rfl (Nat.le_of_ble_eq_true rfl) ?_
      refine z_aload_n dX12_isCheaper_23 0 rfl ?_
      refine z_iload_n dX12_isCheaper_24 2 rfl ?_
      obtain ⟨v6, he6, h⟩ := obind h
      refine y_Vi (M := mX12_isCheaper) (Y := mX12_priceOf) (d2 := d - 1) (As := [.int x2]) (st := [.int v5]) dX12_isCheaper_25 mlRX12_464 cv_X12_priceOf zk_313 (ct_Md_priceOf (dle (Nat.le_of_ble_eq_true rfl) hd0) he6) (dps (Nat.le_of_ble_eq_true rfl) hd0) rfl rfl (Nat.le_of_ble_eq_true rfl) ?_
      refine z_icmp_ne 46 dX12_isCheaper_28 rfl (fun hc7 => ?_) (fun hc7 => ?_)
      · replace h := oT hc7 h
        refine z_iconst (M := mX12_isCheaper) (v := 0) dX12_isCheaper_46 rfl ?_
        cases h
        exact z_zret dX12_isCheaper_47 rfl rfl
      · replace h := oFn hc7 h
        refine z_iload_n dX12_isCheaper_31 1 rfl ?_
        obtain ⟨v8, he8, h⟩ := obind h
        refine y_Si (M := mX12_isCheaper) (Y := mX12_bits) (d2 := d - 1) (As := [.int x1]) (st := []) dX12_isCheaper_32 mlRX12_100 cv_X12_bits (ct_Md_bits (dle (Nat.le_of_ble_eq_true rfl) hd0) he8) (dps (Nat.le_of_ble_eq_true rfl) hd0) rfl rfl (Nat.le_of_ble_eq_true rfl) ?_
        refine z_iload_n dX12_isCheaper_35 2 rfl ?_
        obtain ⟨v9, he9, h⟩ := obind h
        refine y_Si (M := mX12_isCheaper) (Y := mX12_bits) (d2 := d - 1) (As := [.int x2]) (st := [.int v8]) dX12_isCheaper_36 mlRX12_100 cv_X12_bits (ct_Md_bits (dle (Nat.le_of_ble_eq_true rfl) hd0) he9) (dps (Nat.le_of_ble_eq_true rfl) hd0) rfl rfl (Nat.le_of_ble_eq_true rfl) ?_
        refine z_icmp_ge 46 dX12_isCheaper_39 rfl (fun hc10 => ?_) (fun hc10 => ?_)
        · replace h := oT hc10 h
          refine z_iconst (M := mX12_isCheaper) (v := 0) dX12_isCheaper_46 rfl ?_
          cases h
          exact z_zret dX12_isCheaper_47 rfl rfl
        · replace h := oF hc10 h
          refine z_iconst (M := mX12_isCheaper) (v := 1) dX12_isCheaper_42 rfl ?_
          refine z_goto 47 dX12_isCheaper_43 rfl ?_
          cases h
          exact z_zret dX12_isCheaper_47 rfl rfl
theorem ct_Md_isCheaper {g : GG} {d : Nat} {x1 : Int32} {x2 : Int32} {ν : Nm} {r : Bool} (hd0 : 3 ≤ d)  (h : Md_isCheaper ν x1 x2 = some r) : Ct g d mX12_isCheaper [.ref 313, .int x1, .int x2] (zem ν) (some (.int (b2i r)), zem ν) := y_entry in_X12_isCheaper (Nat.le_of_ble_eq_true rfl) rfl (t_Md_isCheaper hd0 x1 x2 r h)
-- FuseMinutesModel.cheapest(I)I
theorem dX12_cheapest_0 : decode cX12_cheapest 0 = .ok (.iload_n 1, 1) := by decide +kernel
theorem dX12_cheapest_1 : decode cX12_cheapest 1 = .ok (.invokestatic 446, 3) := by decide +kernel
theorem dX12_cheapest_4 : decode cX12_cheapest 4 = .ok (.ifCond .ne 5, 3) := by decide +kernel
theorem dX12_cheapest_7 : decode cX12_cheapest 7 = .ok (.iconst (-1), 1) := by decide +kernel
theorem dX12_cheapest_8 : decode cX12_cheapest 8 = .ok (.ireturn, 1) := by decide +kernel
theorem dX12_cheapest_9 : decode cX12_cheapest 9 = .ok (.iconst (-1), 1) := by decide +kernel
theorem dX12_cheapest_10 : decode cX12_cheapest 10 = .ok (.istore_n 2, 1) := by decide +kernel
theorem dX12_cheapest_11 : decode cX12_cheapest 11 = .ok (.iconst 1, 1) := by decide +kernel
theorem dX12_cheapest_12 : decode cX12_cheapest 12 = .ok (.istore_n 3, 1) := by decide +kernel
theorem dX12_cheapest_13 : decode cX12_cheapest 13 = .ok (.iload_n 3, 1) := by decide +kernel
theorem dX12_cheapest_14 : decode cX12_cheapest 14 = .ok (.iconst 1, 1) := by decide +kernel
theorem dX12_cheapest_15 : decode cX12_cheapest 15 = .ok (.aload_n 0, 1) := by decide +kernel
theorem dX12_cheapest_16 : decode cX12_cheapest 16 = .ok (.getfield 7, 3) := by decide +kernel
theorem dX12_cheapest_19 : decode cX12_cheapest 19 = .ok (.iconst 0, 1) := by decide +kernel
theorem dX12_cheapest_20 : decode cX12_cheapest 20 = .ok (.iaload, 1) := by decide +kernel
theorem dX12_cheapest_21 : decode cX12_cheapest 21 = .ok (.ishl, 1) := by decide +kernel
theorem dX12_cheapest_22 : decode cX12_cheapest 22 = .ok (.if_icmp .ge 29, 3) := by decide +kernel
theorem dX12_cheapest_25 : decode cX12_cheapest 25 = .ok (.aload_n 0, 1) := by decide +kernel
theorem dX12_cheapest_26 : decode cX12_cheapest 26 = .ok (.iload_n 3, 1) := by decide +kernel
theorem dX12_cheapest_27 : decode cX12_cheapest 27 = .ok (.iload_n 1, 1) := by decide +kernel
theorem dX12_cheapest_28 : decode cX12_cheapest 28 = .ok (.invokevirtual 443, 3) := by decide +kernel
theorem dX12_cheapest_31 : decode cX12_cheapest 31 = .ok (.ifCond .eq 14, 3) := by decide +kernel
theorem dX12_cheapest_34 : decode cX12_cheapest 34 = .ok (.aload_n 0, 1) := by decide +kernel
theorem dX12_cheapest_35 : decode cX12_cheapest 35 = .ok (.iload_n 3, 1) := by decide +kernel
theorem dX12_cheapest_36 : decode cX12_cheapest 36 = .ok (.iload_n 2, 1) := by decide +kernel
theorem dX12_cheapest_37 : decode cX12_cheapest 37 = .ok (.invokevirtual 467, 3) := by decide +kernel
theorem dX12_cheapest_40 : decode cX12_cheapest 40 = .ok (.ifCond .eq 5, 3) := by decide +kernel
theorem dX12_cheapest_43 : decode cX12_cheapest 43 = .ok (.iload_n 3, 1) := by decide +kernel
theorem dX12_cheapest_44 : decode cX12_cheapest 44 = .ok (.istore_n 2, 1) := by decide +kernel
theorem dX12_cheapest_45 : decode cX12_cheapest 45 = .ok (.iinc 3 1, 3) := by decide +kernel
theorem dX12_cheapest_48 : decode cX12_cheapest 48 = .ok (.goto (-35), 3) := by decide +kernel
theorem dX12_cheapest_51 : decode cX12_cheapest 51 = .ok (.iload_n 2, 1) := by decide +kernel
theorem dX12_cheapest_52 : decode cX12_cheapest 52 = .ok (.ireturn, 1) := by decide +kernel
def Md_cheapest_45 (k13 : Int32 → Int32 → Int32 → Nm → Option (Int32 × Nm)) (x1 : Int32) (x2 : Int32) (x3 : Int32) (ν : Nm) : Option (Int32 × Nm) :=
  k13 x1 x2 (x3 + (1 : Int32)) ν
set_option maxRecDepth 100000 in
set_option maxHeartbeats 4000000 in
theorem t_Md_cheapest_45 {g : GG} {d : Nat} (hd0 : 5 ≤ d) {k13 : Int32 → Int32 → Int32 → Nm → Option (Int32 × Nm)} (hk13 : ∀ (x1 : Int32) (x2 : Int32) (x3 : Int32) (ν : Nm) (r : (Int32 × Nm)), k13 x1 x2 x3 ν = some r → Z g d (0, 0) mX12_cheapest 333 0 0 13 [(0, .ref 313), (1, .int x1), (2, .int x2), (3, .int x3)] [] (zem ν) (zF g (some (.int r.1), zem r.2))) : ∀ (x1 : Int32) (x2 : Int32) (x3 : Int32) (ν : Nm) (r : (Int32 × Nm)), Md_cheapest_45 k13 x1 x2 x3 ν = some r → Z g d (0, 0) mX12_cheapest 333 0 0 45 [(0, .ref 313), (1, .int x1), (2, .int x2), (3, .int x3)] [] (zem ν) (zF g (some (.int r.1), zem r.2)) := by
  intro x1 x2 x3 ν r h
  unfold Md_cheapest_45 at h
  refine z_iinc (M := mX12_cheapest) (v := (x3 + (1 : Int32))) (lv2 := [(3, .int (x3 + (1 : Int32))), (0, .ref 313), (1, .int x1), (2, .int x2)]) dX12_cheapest_45 3 rfl rfl (Nat.le_of_ble_eq_true rfl) rfl ?_
  refine z_goto 13 dX12_cheapest_48 rfl ?_
  refine z_lv (lv2 := [(0, .ref 313), (1, .int x1), (2, .int x2), (3, .int (x3 + (1 : Int32)))]) [1, 2, 3, 0] rfl ?_
  exact hk13 x1 x2 (x3 + (1 : Int32)) ν _ h
def Md_cheapest_13 : Nat → Int32 → Int32 → Int32 → Nm → Option (Int32 × Nm)
  | 0, _, _, _, _ => none
  | f + 1, x1, x2, x3, ν =>
    (if ((1 : Int32) <<< ((gi ν 314 0) &&& 31)) ≤ x3 then
      some (x2, ν)
    else
      (Md_isGiven x3 x1 ν).bind fun v2 =>
      (if (b2i v2.1) = 0 then
        Md_cheapest_45 (Md_cheapest_13 f) x1 x2 x3 v2.2
      else
        (Md_isCheaper v2.2 x3 x2).bind fun v4 =>
        (if (b2i v4) = 0 then
          Md_cheapest_45 (Md_cheapest_13 f) x1 x2 x3 v2.2
        else
          Md_cheapest_45 (Md_cheapest_13 f) x1 x3 x3 v2.2)))
set_option maxRecDepth 100000 in
set_option maxHeartbeats 4000000 in
theorem t_Md_cheapest_13 {g : GG} {d : Nat} (hd0 : 5 ≤ d) : ∀ (f : Nat), ∀ (x1 : Int32) (x2 : Int32) (x3 : Int32) (ν : Nm) (r : (Int32 × Nm)), Md_cheapest_13 f x1 x2 x3 ν = some r → Z g d (0, 0) mX12_cheapest 333 0 0 13 [(0, .ref 313), (1, .int x1), (2, .int x2), (3, .int x3)] [] (zem ν) (zF g (some (.int r.1), zem r.2)) := by
  intro f
  induction f with
  | zero =>
    intro x1 x2 x3 ν r h
    cases h
  | succ f ih =>
    intro x1 x2 x3 ν r h
    rw [Md_cheapest_13] at h
    refine z_iload_n dX12_cheapest_13 3 rfl ?_
    refine z_iconst (M := mX12_cheapest) (v := 1) dX12_cheapest_14 rfl ?_
    refine z_aload_n dX12_cheapest_15 0 rfl ?_
    refine y_getR (M := mX12_cheapest) (r := 314) dX12_cheapest_16 zk_313 flRX12_7 fr_10_0.1 (fr_10_0.2 _) ?_
    refine z_iconst (M := mX12_cheapest) (v := 0) dX12_cheapest_19 rfl ?_
    refine y_iald (M := mX12_cheapest) (jj := 0) dX12_cheapest_20 zk_314 rfl rfl ?_
    refine z_ishl dX12_cheapest_21 ?_
    refine z_icmp_ge 51 dX12_cheapest_22 rfl (fun hc1 => ?_) (fun hc1 => ?_)
    · replace h := oT hc1 h
      refine z_iload_n dX12_cheapest_51 2 rfl ?_
      cases h
      exact z_iret dX12_cheapest_52 rfl
    · replace h := oF hc1 h
      refine z_aload_n dX12_cheapest_25 0 rfl ?_
      refine z_iload_n dX12_cheapest_26 3 rfl ?_
      refine z_iload_n dX12_cheapest_27 1 rfl ?_
      obtain ⟨v2, he2, h⟩ := obind h
      refine y_Vi (M := mX12_cheapest) (Y := mX12_isGiven) (d2 := d - 1) (As := [.int x3, .int x1]) (st := []) dX12_cheapest_28 mlRX12_443 cv_X12_isGiven zk_313 (ct_Md_isGiven (dle (Nat.le_of_ble_eq_true rfl) hd0) he2) (dps (Nat.le_of_ble_eq_true rfl) hd0) rfl rfl (Nat.le_of_ble_eq_true rfl) ?_
      refine z_if_eq 45 dX12_cheapest_31 rfl (fun hc3 => ?_) (fun hc3 => ?_)
      · replace h := oT hc3 h
        exact t_Md_cheapest_45 hd0 ih x1 x2 x3 v2.2 _ h
      · replace h := oF hc3 h
        refine z_aload_n dX12_cheapest_34 0 rfl ?_
        refine z_iload_n dX12_cheapest_35 3 rfl ?_
        refine z_iload_n dX12_cheapest_36 2 rfl ?_
        obtain ⟨v4, he4, h⟩ := obind h
        refine y_Vi (M := mX12_cheapest) (Y := mX12_isCheaper) (d2 := d - 1) (As := [.int x3, .int x2]) (st := []) dX12_cheapest_37 mlRX12_467 cv_X12_isCheaper zk_313 (ct_Md_isCheaper (dle (Nat.le_of_ble_eq_true rfl) hd0) he4) (dps (Nat.le_of_ble_eq_true rfl) hd0) rfl rfl (Nat.le_of_ble_eq_true rfl) ?_
        refine z_if_eq 45 dX12_cheapest_40 rfl (fun hc5 => ?_) (fun hc5 => ?_)
        · replace h := oT hc5 h
          exact t_Md_cheapest_45 hd0 ih x1 x2 x3 v2.2 _ h
        · replace h := oF hc5 h
          refine z_iload_n dX12_cheapest_43 3 rfl ?_
          refine z_istore_n (M := mX12_cheapest) (lv2 := [(2, .int x3), (0, .ref 313), (1, .int x1), (3, .int x3)]) dX12_cheapest_44 (Nat.le_of_ble_eq_true rfl) rfl ?_
          refine z_lv (lv2 := [(0, .ref 313), (1, .int x1), (2, .int x3), (3, .int x3)]) [1, 2, 0, 3] rfl ?_
          exact t_Md_cheapest_45 hd0 ih x1 x3 x3 v2.2 _ h
def Md_cheapest (x1 : Int32) (ν : Nm) : Option (Int32 × Nm) :=
  (Md_isSpan x1).bind fun v1 =>
  (if ¬ (b2i v1) = 0 then
    Md_cheapest_13 FU x1 (-1 : Int32) (1 : Int32) ν
  else
    some ((-1 : Int32), ν))
set_option maxRecDepth 100000 in
set_option maxHeartbeats 4000000 in
theorem t_Md_cheapest {g : GG} {d : Nat} (hd0 : 5 ≤ d) : ∀ (x1 : Int32) (ν : Nm) (r : (Int32 × Nm)), Md_cheapest x1 ν = some r → Z g d (0, 0) mX12_cheapest 333 0 0 0 [(0, .ref 313), (1, .int x1)] [] (zem ν) (zF g (some (.int r.1), zem r.2)) := by
  intro x1 ν r h
  unfold Md_cheapest at h
  refine z_iload_n dX12_cheapest_0 1 rfl ?_
  obtain ⟨v1, he1, h⟩ := obind h
  refine y_Si (M := mX12_cheapest) (Y := mX12_isSpan) (d2 := d - 1) (As := [.int x1]) (st := []) dX12_cheapest_1 mlRX12_446 cv_X12_isSpan (ct_Md_isSpan (dle (Nat.le_of_ble_eq_true rfl) hd0) he1) (dps (Nat.le_of_ble_eq_true rfl) hd0) rfl rfl (Nat.le_of_ble_eq_true rfl) ?_
  refine z_if_ne 9 dX12_cheapest_4 rfl (fun hc2 => ?_) (fun hc2 => ?_)
  · replace h := oT hc2 h
    refine z_iconst (M := mX12_cheapest) (v := -1) dX12_cheapest_9 rfl ?_
    refine z_istore_n (M := mX12_cheapest) (lv2 := [(2, .int (-1 : Int32)), (0, .ref 313), (1, .int x1)]) dX12_cheapest_10 (Nat.le_of_ble_eq_true rfl) rfl ?_
    refine z_iconst (M := mX12_cheapest) (v := 1) dX12_cheapest_11 rfl ?_
    refine z_istore_n (M := mX12_cheapest) (lv2 := [(3, .int (1 : Int32)), (2, .int (-1 : Int32)), (0, .ref 313), (1, .int x1)]) dX12_cheapest_12 (Nat.le_of_ble_eq_true rfl) rfl ?_
    refine z_lv (lv2 := [(0, .ref 313), (1, .int x1), (2, .int (-1 : Int32)), (3, .int (1 : Int32))]) [2, 3, 1, 0] rfl ?_
    exact t_Md_cheapest_13 hd0 FU x1 (-1 : Int32) (1 : Int32) ν _ h
  · replace h := oFn hc2 h
    refine z_iconst (M := mX12_cheapest) (v := -1) dX12_cheapest_7 rfl ?_
    cases h
    exact z_iret dX12_cheapest_8 rfl
theorem ct_Md_cheapest {g : GG} {d : Nat} {x1 : Int32} {ν : Nm} {r : (Int32 × Nm)} (hd0 : 5 ≤ d)  (h : Md_cheapest x1 ν = some r) : Ct g d mX12_cheapest [.ref 313, .int x1] (zem ν) (some (.int r.1), zem r.2) := y_entry in_X12_cheapest (Nat.le_of_ble_eq_true rfl) rfl (t_Md_cheapest hd0 x1 ν r h)
-- FuseMinutesModel.want(I)I
theorem dX12_want_0 : decode cX12_want 0 = .ok (.iload_n 1, 1) := by decide +kernel
theorem dX12_want_1 : decode cX12_want 1 = .ok (.iconst (-1), 1) := by decide +kernel
theorem dX12_want_2 : decode cX12_want 2 = .ok (.if_icmp .ne 12, 3) := by decide +kernel
theorem dX12_want_5 : decode cX12_want 5 = .ok (.aload_n 0, 1) := by decide +kernel
theorem dX12_want_6 : decode cX12_want 6 = .ok (.getfield 7, 3) := by decide +kernel
theorem dX12_want_9 : decode cX12_want 9 = .ok (.iconst 5, 1) := by decide +kernel
theorem dX12_want_10 : decode cX12_want 10 = .ok (.iconst 0, 1) := by decide +kernel
theorem dX12_want_11 : decode cX12_want 11 = .ok (.iastore, 1) := by decide +kernel
theorem dX12_want_12 : decode cX12_want 12 = .ok (.iconst 0, 1) := by decide +kernel
theorem dX12_want_13 : decode cX12_want 13 = .ok (.ireturn, 1) := by decide +kernel
theorem dX12_want_14 : decode cX12_want 14 = .ok (.iload_n 1, 1) := by decide +kernel
theorem dX12_want_15 : decode cX12_want 15 = .ok (.invokestatic 446, 3) := by decide +kernel
theorem dX12_want_18 : decode cX12_want 18 = .ok (.ifCond .eq 13, 3) := by decide +kernel
theorem dX12_want_21 : decode cX12_want 21 = .ok (.aload_n 0, 1) := by decide +kernel
theorem dX12_want_22 : decode cX12_want 22 = .ok (.getfield 7, 3) := by decide +kernel
theorem dX12_want_25 : decode cX12_want 25 = .ok (.iconst 5, 1) := by decide +kernel
theorem dX12_want_26 : decode cX12_want 26 = .ok (.iaload, 1) := by decide +kernel
theorem dX12_want_27 : decode cX12_want 27 = .ok (.iconst 4, 1) := by decide +kernel
theorem dX12_want_28 : decode cX12_want 28 = .ok (.if_icmp .ne 6, 3) := by decide +kernel
theorem dX12_want_31 : decode cX12_want 31 = .ok (.bipush (-2), 2) := by decide +kernel
theorem dX12_want_33 : decode cX12_want 33 = .ok (.ireturn, 1) := by decide +kernel
theorem dX12_want_34 : decode cX12_want 34 = .ok (.aload_n 0, 1) := by decide +kernel
theorem dX12_want_35 : decode cX12_want 35 = .ok (.getfield 7, 3) := by decide +kernel
theorem dX12_want_38 : decode cX12_want 38 = .ok (.bipush 29, 2) := by decide +kernel
theorem dX12_want_40 : decode cX12_want 40 = .ok (.aload_n 0, 1) := by decide +kernel
theorem dX12_want_41 : decode cX12_want 41 = .ok (.getfield 7, 3) := by decide +kernel
theorem dX12_want_44 : decode cX12_want 44 = .ok (.iconst 5, 1) := by decide +kernel
theorem dX12_want_45 : decode cX12_want 45 = .ok (.iaload, 1) := by decide +kernel
theorem dX12_want_46 : decode cX12_want 46 = .ok (.iadd, 1) := by decide +kernel
theorem dX12_want_47 : decode cX12_want 47 = .ok (.iload_n 1, 1) := by decide +kernel
theorem dX12_want_48 : decode cX12_want 48 = .ok (.iastore, 1) := by decide +kernel
theorem dX12_want_49 : decode cX12_want 49 = .ok (.aload_n 0, 1) := by decide +kernel
theorem dX12_want_50 : decode cX12_want 50 = .ok (.getfield 7, 3) := by decide +kernel
theorem dX12_want_53 : decode cX12_want 53 = .ok (.iconst 5, 1) := by decide +kernel
theorem dX12_want_54 : decode cX12_want 54 = .ok (.dup2, 1) := by decide +kernel
theorem dX12_want_55 : decode cX12_want 55 = .ok (.iaload, 1) := by decide +kernel
theorem dX12_want_56 : decode cX12_want 56 = .ok (.iconst 1, 1) := by decide +kernel
theorem dX12_want_57 : decode cX12_want 57 = .ok (.iadd, 1) := by decide +kernel
theorem dX12_want_58 : decode cX12_want 58 = .ok (.iastore, 1) := by decide +kernel
theorem dX12_want_59 : decode cX12_want 59 = .ok (.aload_n 0, 1) := by decide +kernel
theorem dX12_want_60 : decode cX12_want 60 = .ok (.getfield 7, 3) := by decide +kernel
theorem dX12_want_63 : decode cX12_want 63 = .ok (.iconst 5, 1) := by decide +kernel
theorem dX12_want_64 : decode cX12_want 64 = .ok (.iaload, 1) := by decide +kernel
theorem dX12_want_65 : decode cX12_want 65 = .ok (.ireturn, 1) := by decide +kernel
def Md_want (x1 : Int32) (ν : Nm) : Option (Int32 × Nm) :=
  (if ¬ x1 = (-1 : Int32) then
    (Md_isSpan x1).bind fun v2 =>
    (if (b2i v2) = 0 then
      some ((-2 : Int32), ν)
    else
      (if ¬ (gi ν 314 5) = (4 : Int32) then
        if inb ((29 : Int32) + (gi ν 314 5)) 1385 then
        some ((gi (si (si ν 314 ((29 : Int32) + (gi ν 314 5)).toNatClampNeg x1) 314 5 ((gi (si ν 314 ((29 : Int32) + (gi ν 314 5)).toNatClampNeg x1) 314 5) + (1 : Int32))) 314 5), (si (si ν 314 ((29 : Int32) + (gi ν 314 5)).toNatClampNeg x1) 314 5 ((gi (si ν 314 ((29 : Int32) + (gi ν 314 5)).toNatClampNeg x1) 314 5) + (1 : Int32))))
        else none
      else
        some ((-2 : Int32), ν)))
  else
    some ((0 : Int32), (si ν 314 5 (0 : Int32))))
set_option maxRecDepth 100000 in
set_option maxHeartbeats 4000000 in
theorem t_Md_want {g : GG} {d : Nat} (hd0 : 3 ≤ d) : ∀ (x1 : Int32) (ν : Nm) (r : (Int32 × Nm)), Md_want x1 ν = some r → Z g d (0, 0) mX12_want 333 0 0 0 [(0, .ref 313), (1, .int x1)] [] (zem ν) (zF g (some (.int r.1), zem r.2)) := by
  intro x1 ν r h
  unfold Md_want at h
  refine z_iload_n dX12_want_0 1 rfl ?_
  refine z_iconst (M := mX12_want) (v := -1) dX12_want_1 rfl ?_
  refine z_icmp_ne 14 dX12_want_2 rfl (fun hc1 => ?_) (fun hc1 => ?_)
  · replace h := oT hc1 h
    refine z_iload_n dX12_want_14 1 rfl ?_
    obtain ⟨v2, he2, h⟩ := obind h
    refine y_Si (M := mX12_want) (Y := mX12_isSpan) (d2 := d - 1) (As := [.int x1]) (st := []) dX12_want_15 mlRX12_446 cv_X12_isSpan (ct_Md_isSpan (dle (Nat.le_of_ble_eq_true rfl) hd0) he2) (dps (Nat.le_of_ble_eq_true rfl) hd0) rfl rfl (Nat.le_of_ble_eq_true rfl) ?_
    refine z_if_eq 31 dX12_want_18 rfl (fun hc3 => ?_) (fun hc3 => ?_)
    · replace h := oT hc3 h
      refine z_bipush (M := mX12_want) (v := -2) dX12_want_31 rfl ?_
      cases h
      exact z_iret dX12_want_33 rfl
    · replace h := oF hc3 h
      refine z_aload_n dX12_want_21 0 rfl ?_
      refine y_getR (M := mX12_want) (r := 314) dX12_want_22 zk_313 flRX12_7 fr_10_0.1 (fr_10_0.2 _) ?_
      refine z_iconst (M := mX12_want) (v := 5) dX12_want_25 rfl ?_
      refine y_iald (M := mX12_want) (jj := 5) dX12_want_26 zk_314 rfl rfl ?_
      refine z_iconst (M := mX12_want) (v := 4) dX12_want_27 rfl ?_
      refine z_icmp_ne 34 dX12_want_28 rfl (fun hc4 => ?_) (fun hc4 => ?_)
      · replace h := oT hc4 h
        refine z_aload_n dX12_want_34 0 rfl ?_
        refine y_getR (M := mX12_want) (r := 314) dX12_want_35 zk_313 flRX12_7 fr_10_0.1 (fr_10_0.2 _) ?_
        refine z_bipush (M := mX12_want) (v := 29) dX12_want_38 rfl ?_
        refine z_aload_n dX12_want_40 0 rfl ?_
        refine y_getR (M := mX12_want) (r := 314) dX12_want_41 zk_313 flRX12_7 fr_10_0.1 (fr_10_0.2 _) ?_
        refine z_iconst (M := mX12_want) (v := 5) dX12_want_44 rfl ?_
        refine y_iald (M := mX12_want) (jj := 5) dX12_want_45 zk_314 rfl rfl ?_
        refine z_iadd dX12_want_46 ?_
        refine z_iload_n dX12_want_47 1 rfl ?_
        obtain ⟨hi5, h⟩ := oif h
        refine y_iast (M := mX12_want) (jj := ((29 : Int32) + (gi ν 314 5)).toNatClampNeg) dX12_want_48 zk_314 hi5 rfl ?_
        refine z_aload_n dX12_want_49 0 rfl ?_
        refine y_getR (M := mX12_want) (r := 314) dX12_want_50 zk_313 flRX12_7 fr_10_0.1 (fr_10_0.2 _) ?_
        refine z_iconst (M := mX12_want) (v := 5) dX12_want_53 rfl ?_
        refine z_dup2 dX12_want_54 rfl rfl ?_
        refine y_iald (M := mX12_want) (jj := 5) dX12_want_55 zk_314 rfl rfl ?_
        refine z_iconst (M := mX12_want) (v := 1) dX12_want_56 rfl ?_
        refine z_iadd dX12_want_57 ?_
        refine y_iast (M := mX12_want) (jj := 5) dX12_want_58 zk_314 rfl rfl ?_
        refine z_aload_n dX12_want_59 0 rfl ?_
        refine y_getR (M := mX12_want) (r := 314) dX12_want_60 zk_313 flRX12_7 fr_10_0.1 (fr_10_0.2 _) ?_
        refine z_iconst (M := mX12_want) (v := 5) dX12_want_63 rfl ?_
        refine y_iald (M := mX12_want) (jj := 5) dX12_want_64 zk_314 rfl rfl ?_
        cases h
        exact z_iret dX12_want_65 rfl
      · replace h := oFn hc4 h
        refine z_bipush (M := mX12_want) (v := -2) dX12_want_31 rfl ?_
        cases h
        exact z_iret dX12_want_33 rfl
  · replace h := oFn hc1 h
    refine z_aload_n dX12_want_5 0 rfl ?_
    refine y_getR (M := mX12_want) (r := 314) dX12_want_6 zk_313 flRX12_7 fr_10_0.1 (fr_10_0.2 _) ?_
    refine z_iconst (M := mX12_want) (v := 5) dX12_want_9 rfl ?_
    refine z_iconst (M := mX12_want) (v := 0) dX12_want_10 rfl ?_
    refine y_iast (M := mX12_want) (jj := 5) dX12_want_11 zk_314 rfl rfl ?_
    refine z_iconst (M := mX12_want) (v := 0) dX12_want_12 rfl ?_
    cases h
    exact z_iret dX12_want_13 rfl
theorem ct_Md_want {g : GG} {d : Nat} {x1 : Int32} {ν : Nm} {r : (Int32 × Nm)} (hd0 : 3 ≤ d)  (h : Md_want x1 ν = some r) : Ct g d mX12_want [.ref 313, .int x1] (zem ν) (some (.int r.1), zem r.2) := y_entry in_X12_want (Nat.le_of_ble_eq_true rfl) rfl (t_Md_want hd0 x1 ν r h)
-- FuseMinutesModel.areParts(I)Z
theorem dX12_areParts_0 : decode cX12_areParts 0 = .ok (.iconst 0, 1) := by decide +kernel
theorem dX12_areParts_1 : decode cX12_areParts 1 = .ok (.istore_n 2, 1) := by decide +kernel
theorem dX12_areParts_2 : decode cX12_areParts 2 = .ok (.iload_n 2, 1) := by decide +kernel
theorem dX12_areParts_3 : decode cX12_areParts 3 = .ok (.iconst 5, 1) := by decide +kernel
theorem dX12_areParts_4 : decode cX12_areParts 4 = .ok (.if_icmp .ge 16, 3) := by decide +kernel
theorem dX12_areParts_7 : decode cX12_areParts 7 = .ok (.aload_n 0, 1) := by decide +kernel
theorem dX12_areParts_8 : decode cX12_areParts 8 = .ok (.getfield 69, 3) := by decide +kernel
theorem dX12_areParts_11 : decode cX12_areParts 11 = .ok (.iload_n 2, 1) := by decide +kernel
theorem dX12_areParts_12 : decode cX12_areParts 12 = .ok (.iconst 0, 1) := by decide +kernel
theorem dX12_areParts_13 : decode cX12_areParts 13 = .ok (.iastore, 1) := by decide +kernel
theorem dX12_areParts_14 : decode cX12_areParts 14 = .ok (.iinc 2 1, 3) := by decide +kernel
theorem dX12_areParts_17 : decode cX12_areParts 17 = .ok (.goto (-15), 3) := by decide +kernel
theorem dX12_areParts_20 : decode cX12_areParts 20 = .ok (.iload_n 1, 1) := by decide +kernel
theorem dX12_areParts_21 : decode cX12_areParts 21 = .ok (.istore_n 2, 1) := by decide +kernel
theorem dX12_areParts_22 : decode cX12_areParts 22 = .ok (.iconst 0, 1) := by decide +kernel
theorem dX12_areParts_23 : decode cX12_areParts 23 = .ok (.istore_n 3, 1) := by decide +kernel
theorem dX12_areParts_24 : decode cX12_areParts 24 = .ok (.iload_n 3, 1) := by decide +kernel
theorem dX12_areParts_25 : decode cX12_areParts 25 = .ok (.aload_n 0, 1) := by decide +kernel
theorem dX12_areParts_26 : decode cX12_areParts 26 = .ok (.getfield 7, 3) := by decide +kernel
theorem dX12_areParts_29 : decode cX12_areParts 29 = .ok (.iconst 0, 1) := by decide +kernel
theorem dX12_areParts_30 : decode cX12_areParts 30 = .ok (.iaload, 1) := by decide +kernel
theorem dX12_areParts_31 : decode cX12_areParts 31 = .ok (.if_icmp .ge 27, 3) := by decide +kernel
theorem dX12_areParts_34 : decode cX12_areParts 34 = .ok (.aload_n 0, 1) := by decide +kernel
theorem dX12_areParts_35 : decode cX12_areParts 35 = .ok (.getfield 69, 3) := by decide +kernel
theorem dX12_areParts_38 : decode cX12_areParts 38 = .ok (.iload_n 2, 1) := by decide +kernel
theorem dX12_areParts_39 : decode cX12_areParts 39 = .ok (.iconst 5, 1) := by decide +kernel
theorem dX12_areParts_40 : decode cX12_areParts 40 = .ok (.irem, 1) := by decide +kernel
theorem dX12_areParts_41 : decode cX12_areParts 41 = .ok (.dup2, 1) := by decide +kernel
theorem dX12_areParts_42 : decode cX12_areParts 42 = .ok (.iaload, 1) := by decide +kernel
theorem dX12_areParts_43 : decode cX12_areParts 43 = .ok (.iconst 1, 1) := by decide +kernel
theorem dX12_areParts_44 : decode cX12_areParts 44 = .ok (.iload_n 3, 1) := by decide +kernel
theorem dX12_areParts_45 : decode cX12_areParts 45 = .ok (.ishl, 1) := by decide +kernel
theorem dX12_areParts_46 : decode cX12_areParts 46 = .ok (.ior, 1) := by decide +kernel
theorem dX12_areParts_47 : decode cX12_areParts 47 = .ok (.iastore, 1) := by decide +kernel
theorem dX12_areParts_48 : decode cX12_areParts 48 = .ok (.iload_n 2, 1) := by decide +kernel
theorem dX12_areParts_49 : decode cX12_areParts 49 = .ok (.iconst 5, 1) := by decide +kernel
theorem dX12_areParts_50 : decode cX12_areParts 50 = .ok (.idiv, 1) := by decide +kernel
theorem dX12_areParts_51 : decode cX12_areParts 51 = .ok (.istore_n 2, 1) := by decide +kernel
theorem dX12_areParts_52 : decode cX12_areParts 52 = .ok (.iinc 3 1, 3) := by decide +kernel
theorem dX12_areParts_55 : decode cX12_areParts 55 = .ok (.goto (-31), 3) := by decide +kernel
theorem dX12_areParts_58 : decode cX12_areParts 58 = .ok (.iconst 1, 1) := by decide +kernel
theorem dX12_areParts_59 : decode cX12_areParts 59 = .ok (.istore_n 3, 1) := by decide +kernel
theorem dX12_areParts_60 : decode cX12_areParts 60 = .ok (.iload_n 3, 1) := by decide +kernel
theorem dX12_areParts_61 : decode cX12_areParts 61 = .ok (.iconst 5, 1) := by decide +kernel
theorem dX12_areParts_62 : decode cX12_areParts 62 = .ok (.if_icmp .ge 66, 3) := by decide +kernel
theorem dX12_areParts_65 : decode cX12_areParts 65 = .ok (.iload_n 3, 1) := by decide +kernel
theorem dX12_areParts_66 : decode cX12_areParts 66 = .ok (.aload_n 0, 1) := by decide +kernel
theorem dX12_areParts_67 : decode cX12_areParts 67 = .ok (.getfield 7, 3) := by decide +kernel
theorem dX12_areParts_70 : decode cX12_areParts 70 = .ok (.iconst 5, 1) := by decide +kernel
theorem dX12_areParts_71 : decode cX12_areParts 71 = .ok (.iaload, 1) := by decide +kernel
theorem dX12_areParts_72 : decode cX12_areParts 72 = .ok (.if_icmp .le 15, 3) := by decide +kernel
theorem dX12_areParts_75 : decode cX12_areParts 75 = .ok (.aload_n 0, 1) := by decide +kernel
theorem dX12_areParts_76 : decode cX12_areParts 76 = .ok (.getfield 69, 3) := by decide +kernel
theorem dX12_areParts_79 : decode cX12_areParts 79 = .ok (.iload_n 3, 1) := by decide +kernel
theorem dX12_areParts_80 : decode cX12_areParts 80 = .ok (.iaload, 1) := by decide +kernel
theorem dX12_areParts_81 : decode cX12_areParts 81 = .ok (.ifCond .eq 41, 3) := by decide +kernel
theorem dX12_areParts_84 : decode cX12_areParts 84 = .ok (.goto 36, 3) := by decide +kernel
theorem dX12_areParts_87 : decode cX12_areParts 87 = .ok (.aload_n 0, 1) := by decide +kernel
theorem dX12_areParts_88 : decode cX12_areParts 88 = .ok (.getfield 69, 3) := by decide +kernel
theorem dX12_areParts_91 : decode cX12_areParts 91 = .ok (.iload_n 3, 1) := by decide +kernel
theorem dX12_areParts_92 : decode cX12_areParts 92 = .ok (.iaload, 1) := by decide +kernel
theorem dX12_areParts_93 : decode cX12_areParts 93 = .ok (.ifCond .eq 27, 3) := by decide +kernel
theorem dX12_areParts_96 : decode cX12_areParts 96 = .ok (.aload_n 0, 1) := by decide +kernel
theorem dX12_areParts_97 : decode cX12_areParts 97 = .ok (.aload_n 0, 1) := by decide +kernel
theorem dX12_areParts_98 : decode cX12_areParts 98 = .ok (.getfield 69, 3) := by decide +kernel
theorem dX12_areParts_101 : decode cX12_areParts 101 = .ok (.iload_n 3, 1) := by decide +kernel
theorem dX12_areParts_102 : decode cX12_areParts 102 = .ok (.iaload, 1) := by decide +kernel
theorem dX12_areParts_103 : decode cX12_areParts 103 = .ok (.aload_n 0, 1) := by decide +kernel
theorem dX12_areParts_104 : decode cX12_areParts 104 = .ok (.getfield 7, 3) := by decide +kernel
theorem dX12_areParts_107 : decode cX12_areParts 107 = .ok (.bipush 29, 2) := by decide +kernel
theorem dX12_areParts_109 : decode cX12_areParts 109 = .ok (.iload_n 3, 1) := by decide +kernel
theorem dX12_areParts_110 : decode cX12_areParts 110 = .ok (.iadd, 1) := by decide +kernel
theorem dX12_areParts_111 : decode cX12_areParts 111 = .ok (.iconst 1, 1) := by decide +kernel
theorem dX12_areParts_112 : decode cX12_areParts 112 = .ok (.isub, 1) := by decide +kernel
theorem dX12_areParts_113 : decode cX12_areParts 113 = .ok (.iaload, 1) := by decide +kernel
theorem dX12_areParts_114 : decode cX12_areParts 114 = .ok (.invokevirtual 443, 3) := by decide +kernel
theorem dX12_areParts_117 : decode cX12_areParts 117 = .ok (.ifCond .ne 5, 3) := by decide +kernel
theorem dX12_areParts_120 : decode cX12_areParts 120 = .ok (.iconst 0, 1) := by decide +kernel
theorem dX12_areParts_121 : decode cX12_areParts 121 = .ok (.ireturn, 1) := by decide +kernel
theorem dX12_areParts_122 : decode cX12_areParts 122 = .ok (.iinc 3 1, 3) := by decide +kernel
theorem dX12_areParts_125 : decode cX12_areParts 125 = .ok (.goto (-65), 3) := by decide +kernel
theorem dX12_areParts_128 : decode cX12_areParts 128 = .ok (.iconst 1, 1) := by decide +kernel
theorem dX12_areParts_129 : decode cX12_areParts 129 = .ok (.ireturn, 1) := by decide +kernel
def Md_areParts_122 (k60 : Int32 → Nm → Option (Bool × Nm)) (x3 : Int32) (ν : Nm) : Option (Bool × Nm) :=
  k60 (x3 + (1 : Int32)) ν
set_option maxRecDepth 100000 in
set_option maxHeartbeats 4000000 in
theorem t_Md_areParts_122 {g : GG} {d : Nat} (hd0 : 5 ≤ d) {k60 : Int32 → Nm → Option (Bool × Nm)} (hk60 : ∀ (x3 : Int32) (ν : Nm) (r : (Bool × Nm)), k60 x3 ν = some r → Z g d (0, 0) mX12_areParts 333 0 0 60 [(0, .ref 313), (3, .int x3)] [] (zem ν) (zF g (some (.int (b2i r.1)), zem r.2))) : ∀ (x3 : Int32) (ν : Nm) (r : (Bool × Nm)), Md_areParts_122 k60 x3 ν = some r → Z g d (0, 0) mX12_areParts 333 0 0 122 [(0, .ref 313), (3, .int x3)] [] (zem ν) (zF g (some (.int (b2i r.1)), zem r.2)) := by
  intro x3 ν r h
  unfold Md_areParts_122 at h
  refine z_iinc (M := mX12_areParts) (v := (x3 + (1 : Int32))) (lv2 := [(3, .int (x3 + (1 : Int32))), (0, .ref 313)]) dX12_areParts_122 1 rfl rfl (Nat.le_of_ble_eq_true rfl) rfl ?_
  refine z_goto 60 dX12_areParts_125 rfl ?_
  refine z_lv (lv2 := [(0, .ref 313), (3, .int (x3 + (1 : Int32)))]) [1, 0] rfl ?_
  exact hk60 (x3 + (1 : Int32)) ν _ h
def Md_areParts_60 : Nat → Int32 → Nm → Option (Bool × Nm)
  | 0, _, _ => none
  | f + 1, x3, ν =>
    (if (5 : Int32) ≤ x3 then
      some (true, ν)
    else
      (if x3 ≤ (gi ν 314 5) then
        if inb x3 5 then
        (if (gi ν 329 x3.toNatClampNeg) = 0 then
          some (false, ν)
        else
          if inb x3 5 then
          if inb (((29 : Int32) + x3) - (1 : Int32)) 1385 then
          (Md_isGiven (gi ν 329 x3.toNatClampNeg) (gi ν 314 (((29 : Int32) + x3) - (1 : Int32)).toNatClampNeg) ν).bind fun v7 =>
          (if ¬ (b2i v7.1) = 0 then
            Md_areParts_122 (Md_areParts_60 f) x3 v7.2
          else
            some (false, v7.2))
          else none
          else none)
        else none
      else
        if inb x3 5 then
        (if (gi ν 329 x3.toNatClampNeg) = 0 then
          Md_areParts_122 (Md_areParts_60 f) x3 ν
        else
          some (false, ν))
        else none))
set_option maxRecDepth 100000 in
set_option maxHeartbeats 4000000 in
theorem t_Md_areParts_60 {g : GG} {d : Nat} (hd0 : 5 ≤ d) : ∀ (f : Nat), ∀ (x3 : Int32) (ν : Nm) (r : (Bool × Nm)), Md_areParts_60 f x3 ν = some r → Z g d (0, 0) mX12_areParts 333 0 0 60 [(0, .ref 313), (3, .int x3)] [] (zem ν) (zF g (some (.int (b2i r.1)), zem r.2)) := by
  intro f
  induction f with
  | zero =>
    intro x3 ν r h
    cases h
  | succ f ih =>
    intro x3 ν r h
    rw [Md_areParts_60] at h
    refine z_iload_n dX12_areParts_60 1 rfl ?_
    refine z_iconst (M := mX12_areParts) (v := 5) dX12_areParts_61 rfl ?_
    refine z_icmp_ge 128 dX12_areParts_62 rfl (fun hc1 => ?_) (fun hc1 => ?_)
    · replace h := oT hc1 h
      refine z_iconst (M := mX12_areParts) (v := 1) dX12_areParts_128 rfl ?_
      cases h
      exact z_zret dX12_areParts_129 rfl rfl
    · replace h := oF hc1 h
      refine z_iload_n dX12_areParts_65 1 rfl ?_
      refine z_aload_n dX12_areParts_66 0 rfl ?_
      refine y_getR (M := mX12_areParts) (r := 314) dX12_areParts_67 zk_313 flRX12_7 fr_10_0.1 (fr_10_0.2 _) ?_
      refine z_iconst (M := mX12_areParts) (v := 5) dX12_areParts_70 rfl ?_
      refine y_iald (M := mX12_areParts) (jj := 5) dX12_areParts_71 zk_314 rfl rfl ?_
      refine z_icmp_le 87 dX12_areParts_72 rfl (fun hc2 => ?_) (fun hc2 => ?_)
      · replace h := oT hc2 h
        refine z_aload_n dX12_areParts_87 0 rfl ?_
        refine y_getR (M := mX12_areParts) (r := 329) dX12_areParts_88 zk_313 flRX12_69 fr_10_33.1 (fr_10_33.2 _) ?_
        refine z_iload_n dX12_areParts_91 1 rfl ?_
        obtain ⟨hi3, h⟩ := oif h
        refine y_iald (M := mX12_areParts) (jj := x3.toNatClampNeg) dX12_areParts_92 zk_329 hi3 rfl ?_
        refine z_if_eq 120 dX12_areParts_93 rfl (fun hc4 => ?_) (fun hc4 => ?_)
        · replace h := oT hc4 h
          refine z_iconst (M := mX12_areParts) (v := 0) dX12_areParts_120 rfl ?_
          cases h
          exact z_zret dX12_areParts_121 rfl rfl
        · replace h := oF hc4 h
          refine z_aload_n dX12_areParts_96 0 rfl ?_
          refine z_aload_n dX12_areParts_97 0 rfl ?_
          refine y_getR (M := mX12_areParts) (r := 329) dX12_areParts_98 zk_313 flRX12_69 fr_10_33.1 (fr_10_33.2 _) ?_
          refine z_iload_n dX12_areParts_101 1 rfl ?_
          obtain ⟨hi5, h⟩ := oif h
          refine y_iald (M := mX12_areParts) (jj := x3.toNatClampNeg) dX12_areParts_102 zk_329 hi5 rfl ?_
          refine z_aload_n dX12_areParts_103 0 rfl ?_
          refine y_getR (M := mX12_areParts) (r := 314) dX12_areParts_104 zk_313 flRX12_7 fr_10_0.1 (fr_10_0.2 _) ?_
          refine z_bipush (M := mX12_areParts) (v := 29) dX12_areParts_107 rfl ?_
          refine z_iload_n dX12_areParts_109 1 rfl ?_
          refine z_iadd dX12_areParts_110 ?_
          refine z_iconst (M := mX12_areParts) (v := 1) dX12_areParts_111 rfl ?_
          refine z_isub dX12_areParts_112 ?_
          obtain ⟨hi6, h⟩ := oif h
          refine y_iald (M := mX12_areParts) (jj := (((29 : Int32) + x3) - (1 : Int32)).toNatClampNeg) dX12_areParts_113 zk_314 hi6 rfl ?_
          obtain ⟨v7, he7, h⟩ := obind h
          refine y_Vi (M := mX12_areParts) (Y := mX12_isGiven) (d2 := d - 1) (As := [.int (gi ν 329 x3.toNatClampNeg), .int (gi ν 314 (((29 : Int32) + x3) - (1 : Int32)).toNatClampNeg)]) (st := []) dX12_areParts_114 mlRX12_443 cv_X12_isGiven zk_313 (ct_Md_isGiven (dle (Nat.le_of_ble_eq_true rfl) hd0) he7) (dps (Nat.le_of_ble_eq_true rfl) hd0) rfl rfl (Nat.le_of_ble_eq_true rfl) ?_
          refine z_if_ne 122 dX12_areParts_117 rfl (fun hc8 => ?_) (fun hc8 => ?_)
          · replace h := oT hc8 h
            exact t_Md_areParts_122 hd0 ih x3 v7.2 _ h
          · replace h := oFn hc8 h
            refine z_iconst (M := mX12_areParts) (v := 0) dX12_areParts_120 rfl ?_
            cases h
            exact z_zret dX12_areParts_121 rfl rfl
      · replace h := oF hc2 h
        refine z_aload_n dX12_areParts_75 0 rfl ?_
        refine y_getR (M := mX12_areParts) (r := 329) dX12_areParts_76 zk_313 flRX12_69 fr_10_33.1 (fr_10_33.2 _) ?_
        refine z_iload_n dX12_areParts_79 1 rfl ?_
        obtain ⟨hi9, h⟩ := oif h
        refine y_iald (M := mX12_areParts) (jj := x3.toNatClampNeg) dX12_areParts_80 zk_329 hi9 rfl ?_
        refine z_if_eq 122 dX12_areParts_81 rfl (fun hc10 => ?_) (fun hc10 => ?_)
        · replace h := oT hc10 h
          exact t_Md_areParts_122 hd0 ih x3 ν _ h
        · replace h := oF hc10 h
          refine z_goto 120 dX12_areParts_84 rfl ?_
          refine z_iconst (M := mX12_areParts) (v := 0) dX12_areParts_120 rfl ?_
          cases h
          exact z_zret dX12_areParts_121 rfl rfl
def Md_areParts_24 : Nat → Int32 → Int32 → Nm → Option (Bool × Nm)
  | 0, _, _, _ => none
  | f + 1, x2, x3, ν =>
    (if (gi ν 314 0) ≤ x3 then
      Md_areParts_60 FU (1 : Int32) ν
    else
      if inb (x2 - x2 / (5 : Int32) * (5 : Int32)) 5 then
      if inb (x2 - x2 / (5 : Int32) * (5 : Int32)) 5 then
      (Md_areParts_24 f) (x2 / (5 : Int32)) (x3 + (1 : Int32)) (si ν 329 (x2 - x2 / (5 : Int32) * (5 : Int32)).toNatClampNeg ((gi ν 329 (x2 - x2 / (5 : Int32) * (5 : Int32)).toNatClampNeg) ||| ((1 : Int32) <<< (x3 &&& 31))))
      else none
      else none)
set_option maxRecDepth 100000 in
set_option maxHeartbeats 4000000 in
theorem t_Md_areParts_24 {g : GG} {d : Nat} (hd0 : 5 ≤ d) : ∀ (f : Nat), ∀ (x2 : Int32) (x3 : Int32) (ν : Nm) (r : (Bool × Nm)), Md_areParts_24 f x2 x3 ν = some r → Z g d (0, 0) mX12_areParts 333 0 0 24 [(0, .ref 313), (2, .int x2), (3, .int x3)] [] (zem ν) (zF g (some (.int (b2i r.1)), zem r.2)) := by
  intro f
  induction f with
  | zero =>
    intro x2 x3 ν r h
    cases h
  | succ f ih =>
    intro x2 x3 ν r h
    rw [Md_areParts_24] at h
    refine z_iload_n dX12_areParts_24 2 rfl ?_
    refine z_aload_n dX12_areParts_25 0 rfl ?_
    refine y_getR (M := mX12_areParts) (r := 314) dX12_areParts_26 zk_313 flRX12_7 fr_10_0.1 (fr_10_0.2 _) ?_
    refine z_iconst (M := mX12_areParts) (v := 0) dX12_areParts_29 rfl ?_
    refine y_iald (M := mX12_areParts) (jj := 0) dX12_areParts_30 zk_314 rfl rfl ?_
    refine z_icmp_ge 58 dX12_areParts_31 rfl (fun hc1 => ?_) (fun hc1 => ?_)
    · replace h := oT hc1 h
      refine z_iconst (M := mX12_areParts) (v := 1) dX12_areParts_58 rfl ?_
      refine z_istore_n (M := mX12_areParts) (lv2 := [(3, .int (1 : Int32)), (0, .ref 313), (2, .int x2)]) dX12_areParts_59 (Nat.le_of_ble_eq_true rfl) rfl ?_
      refine z_lv (lv2 := [(0, .ref 313), (3, .int (1 : Int32))]) [1, 0] rfl ?_
      exact t_Md_areParts_60 hd0 FU (1 : Int32) ν _ h
    · replace h := oF hc1 h
      refine z_aload_n dX12_areParts_34 0 rfl ?_
      refine y_getR (M := mX12_areParts) (r := 329) dX12_areParts_35 zk_313 flRX12_69 fr_10_33.1 (fr_10_33.2 _) ?_
      refine z_iload_n dX12_areParts_38 1 rfl ?_
      refine z_iconst (M := mX12_areParts) (v := 5) dX12_areParts_39 rfl ?_
      refine z_irem dX12_areParts_40 (by decide) ?_
      refine z_dup2 dX12_areParts_41 rfl rfl ?_
      obtain ⟨hi2, h⟩ := oif h
      refine y_iald (M := mX12_areParts) (jj := (x2 - x2 / (5 : Int32) * (5 : Int32)).toNatClampNeg) dX12_areParts_42 zk_329 hi2 rfl ?_
      refine z_iconst (M := mX12_areParts) (v := 1) dX12_areParts_43 rfl ?_
      refine z_iload_n dX12_areParts_44 2 rfl ?_
      refine z_ishl dX12_areParts_45 ?_
      refine z_ior dX12_areParts_46 ?_
      obtain ⟨hi3, h⟩ := oif h
      refine y_iast (M := mX12_areParts) (jj := (x2 - x2 / (5 : Int32) * (5 : Int32)).toNatClampNeg) dX12_areParts_47 zk_329 hi3 rfl ?_
      refine z_iload_n dX12_areParts_48 1 rfl ?_
      refine z_iconst (M := mX12_areParts) (v := 5) dX12_areParts_49 rfl ?_
      refine z_idiv dX12_areParts_50 (by decide) ?_
      refine z_istore_n (M := mX12_areParts) (lv2 := [(2, .int (x2 / (5 : Int32))), (0, .ref 313), (3, .int x3)]) dX12_areParts_51 (Nat.le_of_ble_eq_true rfl) rfl ?_
      refine z_iinc (M := mX12_areParts) (v := (x3 + (1 : Int32))) (lv2 := [(3, .int (x3 + (1 : Int32))), (2, .int (x2 / (5 : Int32))), (0, .ref 313)]) dX12_areParts_52 2 rfl rfl (Nat.le_of_ble_eq_true rfl) rfl ?_
      refine z_goto 24 dX12_areParts_55 rfl ?_
      refine z_lv (lv2 := [(0, .ref 313), (2, .int (x2 / (5 : Int32))), (3, .int (x3 + (1 : Int32)))]) [2, 1, 0] rfl ?_
      exact ih (x2 / (5 : Int32)) (x3 + (1 : Int32)) (si ν 329 (x2 - x2 / (5 : Int32) * (5 : Int32)).toNatClampNeg ((gi ν 329 (x2 - x2 / (5 : Int32) * (5 : Int32)).toNatClampNeg) ||| ((1 : Int32) <<< (x3 &&& 31)))) _ h
def Md_areParts_2 : Nat → Int32 → Int32 → Nm → Option (Bool × Nm)
  | 0, _, _, _ => none
  | f + 1, x1, x2, ν =>
    (if (5 : Int32) ≤ x2 then
      Md_areParts_24 FU x1 (0 : Int32) ν
    else
      if inb x2 5 then
      (Md_areParts_2 f) x1 (x2 + (1 : Int32)) (si ν 329 x2.toNatClampNeg (0 : Int32))
      else none)
set_option maxRecDepth 100000 in
set_option maxHeartbeats 4000000 in
theorem t_Md_areParts_2 {g : GG} {d : Nat} (hd0 : 5 ≤ d) : ∀ (f : Nat), ∀ (x1 : Int32) (x2 : Int32) (ν : Nm) (r : (Bool × Nm)), Md_areParts_2 f x1 x2 ν = some r → Z g d (0, 0) mX12_areParts 333 0 0 2 [(0, .ref 313), (1, .int x1), (2, .int x2)] [] (zem ν) (zF g (some (.int (b2i r.1)), zem r.2)) := by
  intro f
  induction f with
  | zero =>
    intro x1 x2 ν r h
    cases h
  | succ f ih =>
    intro x1 x2 ν r h
    rw [Md_areParts_2] at h
    refine z_iload_n dX12_areParts_2 2 rfl ?_
    refine z_iconst (M := mX12_areParts) (v := 5) dX12_areParts_3 rfl ?_
    refine z_icmp_ge 20 dX12_areParts_4 rfl (fun hc1 => ?_) (fun hc1 => ?_)
    · replace h := oT hc1 h
      refine z_iload_n dX12_areParts_20 1 rfl ?_
      refine z_istore_n (M := mX12_areParts) (lv2 := [(2, .int x1), (0, .ref 313), (1, .int x1)]) dX12_areParts_21 (Nat.le_of_ble_eq_true rfl) rfl ?_
      refine z_iconst (M := mX12_areParts) (v := 0) dX12_areParts_22 rfl ?_
      refine z_istore_n (M := mX12_areParts) (lv2 := [(3, .int (0 : Int32)), (2, .int x1), (0, .ref 313), (1, .int x1)]) dX12_areParts_23 (Nat.le_of_ble_eq_true rfl) rfl ?_
      refine z_lv (lv2 := [(0, .ref 313), (2, .int x1), (3, .int (0 : Int32))]) [2, 1, 0] rfl ?_
      exact t_Md_areParts_24 hd0 FU x1 (0 : Int32) ν _ h
    · replace h := oF hc1 h
      refine z_aload_n dX12_areParts_7 0 rfl ?_
      refine y_getR (M := mX12_areParts) (r := 329) dX12_areParts_8 zk_313 flRX12_69 fr_10_33.1 (fr_10_33.2 _) ?_
      refine z_iload_n dX12_areParts_11 2 rfl ?_
      refine z_iconst (M := mX12_areParts) (v := 0) dX12_areParts_12 rfl ?_
      obtain ⟨hi2, h⟩ := oif h
      refine y_iast (M := mX12_areParts) (jj := x2.toNatClampNeg) dX12_areParts_13 zk_329 hi2 rfl ?_
      refine z_iinc (M := mX12_areParts) (v := (x2 + (1 : Int32))) (lv2 := [(2, .int (x2 + (1 : Int32))), (0, .ref 313), (1, .int x1)]) dX12_areParts_14 2 rfl rfl (Nat.le_of_ble_eq_true rfl) rfl ?_
      refine z_goto 2 dX12_areParts_17 rfl ?_
      refine z_lv (lv2 := [(0, .ref 313), (1, .int x1), (2, .int (x2 + (1 : Int32)))]) [1, 2, 0] rfl ?_
      exact ih x1 (x2 + (1 : Int32)) (si ν 329 x2.toNatClampNeg (0 : Int32)) _ h
def Md_areParts (x1 : Int32) (ν : Nm) : Option (Bool × Nm) :=
  Md_areParts_2 FU x1 (0 : Int32) ν
set_option maxRecDepth 100000 in
set_option maxHeartbeats 4000000 in
theorem t_Md_areParts {g : GG} {d : Nat} (hd0 : 5 ≤ d) : ∀ (x1 : Int32) (ν : Nm) (r : (Bool × Nm)), Md_areParts x1 ν = some r → Z g d (0, 0) mX12_areParts 333 0 0 0 [(0, .ref 313), (1, .int x1)] [] (zem ν) (zF g (some (.int (b2i r.1)), zem r.2)) := by
  intro x1 ν r h
  unfold Md_areParts at h
  refine z_iconst (M := mX12_areParts) (v := 0) dX12_areParts_0 rfl ?_
  refine z_istore_n (M := mX12_areParts) (lv2 := [(2, .int (0 : Int32)), (0, .ref 313), (1, .int x1)]) dX12_areParts_1 (Nat.le_of_ble_eq_true rfl) rfl ?_
  refine z_lv (lv2 := [(0, .ref 313), (1, .int x1), (2, .int (0 : Int32))]) [1, 2, 0] rfl ?_
  exact t_Md_areParts_2 hd0 FU x1 (0 : Int32) ν _ h
theorem ct_Md_areParts {g : GG} {d : Nat} {x1 : Int32} {ν : Nm} {r : (Bool × Nm)} (hd0 : 5 ≤ d)  (h : Md_areParts x1 ν = some r) : Ct g d mX12_areParts [.ref 313, .int x1] (zem ν) (some (.int (b2i r.1)), zem r.2) := y_entry in_X12_areParts (Nat.le_of_ble_eq_true rfl) rfl (t_Md_areParts hd0 x1 ν r h)
-- FuseMinutesModel.isLower()Z
theorem dX12_isLower_0 : decode cX12_isLower 0 = .ok (.iconst 1, 1) := by decide +kernel
theorem dX12_isLower_1 : decode cX12_isLower 1 = .ok (.istore_n 1, 1) := by decide +kernel
theorem dX12_isLower_2 : decode cX12_isLower 2 = .ok (.iload_n 1, 1) := by decide +kernel
theorem dX12_isLower_3 : decode cX12_isLower 3 = .ok (.iconst 5, 1) := by decide +kernel
theorem dX12_isLower_4 : decode cX12_isLower 4 = .ok (.if_icmp .ge 45, 3) := by decide +kernel
theorem dX12_isLower_7 : decode cX12_isLower 7 = .ok (.aload_n 0, 1) := by decide +kernel
theorem dX12_isLower_8 : decode cX12_isLower 8 = .ok (.getfield 69, 3) := by decide +kernel
theorem dX12_isLower_11 : decode cX12_isLower 11 = .ok (.iload_n 1, 1) := by decide +kernel
theorem dX12_isLower_12 : decode cX12_isLower 12 = .ok (.iaload, 1) := by decide +kernel
theorem dX12_isLower_13 : decode cX12_isLower 13 = .ok (.aload_n 0, 1) := by decide +kernel
theorem dX12_isLower_14 : decode cX12_isLower 14 = .ok (.getfield 72, 3) := by decide +kernel
theorem dX12_isLower_17 : decode cX12_isLower 17 = .ok (.iload_n 1, 1) := by decide +kernel
theorem dX12_isLower_18 : decode cX12_isLower 18 = .ok (.iaload, 1) := by decide +kernel
theorem dX12_isLower_19 : decode cX12_isLower 19 = .ok (.if_icmp .eq 24, 3) := by decide +kernel
theorem dX12_isLower_22 : decode cX12_isLower 22 = .ok (.aload_n 0, 1) := by decide +kernel
theorem dX12_isLower_23 : decode cX12_isLower 23 = .ok (.getfield 69, 3) := by decide +kernel
theorem dX12_isLower_26 : decode cX12_isLower 26 = .ok (.iload_n 1, 1) := by decide +kernel
theorem dX12_isLower_27 : decode cX12_isLower 27 = .ok (.iaload, 1) := by decide +kernel
theorem dX12_isLower_28 : decode cX12_isLower 28 = .ok (.aload_n 0, 1) := by decide +kernel
theorem dX12_isLower_29 : decode cX12_isLower 29 = .ok (.getfield 72, 3) := by decide +kernel
theorem dX12_isLower_32 : decode cX12_isLower 32 = .ok (.iload_n 1, 1) := by decide +kernel
theorem dX12_isLower_33 : decode cX12_isLower 33 = .ok (.iaload, 1) := by decide +kernel
theorem dX12_isLower_34 : decode cX12_isLower 34 = .ok (.if_icmp .ge 7, 3) := by decide +kernel
theorem dX12_isLower_37 : decode cX12_isLower 37 = .ok (.iconst 1, 1) := by decide +kernel
theorem dX12_isLower_38 : decode cX12_isLower 38 = .ok (.goto 4, 3) := by decide +kernel
theorem dX12_isLower_41 : decode cX12_isLower 41 = .ok (.iconst 0, 1) := by decide +kernel
theorem dX12_isLower_42 : decode cX12_isLower 42 = .ok (.ireturn, 1) := by decide +kernel
theorem dX12_isLower_43 : decode cX12_isLower 43 = .ok (.iinc 1 1, 3) := by decide +kernel
theorem dX12_isLower_46 : decode cX12_isLower 46 = .ok (.goto (-44), 3) := by decide +kernel
theorem dX12_isLower_49 : decode cX12_isLower 49 = .ok (.iconst 0, 1) := by decide +kernel
theorem dX12_isLower_50 : decode cX12_isLower 50 = .ok (.ireturn, 1) := by decide +kernel
def Md_isLower_2 (ν : Nm) : Nat → Int32 → Option Bool
  | 0, _ => none
  | f + 1, x1 =>
    (if (5 : Int32) ≤ x1 then
      some false
    else
      if inb x1 5 then
      if inb x1 5 then
      (if (gi ν 329 x1.toNatClampNeg) = (gi ν 330 x1.toNatClampNeg) then
        (Md_isLower_2 ν f) (x1 + (1 : Int32))
      else
        if inb x1 5 then
        if inb x1 5 then
        (if (gi ν 330 x1.toNatClampNeg) ≤ (gi ν 329 x1.toNatClampNeg) then
          some false
        else
          some true)
        else none
        else none)
      else none
      else none)
set_option maxRecDepth 100000 in
set_option maxHeartbeats 4000000 in
theorem t_Md_isLower_2 {g : GG} {d : Nat} {ν : Nm} (hd0 : 1 ≤ d) : ∀ (f : Nat), ∀ (x1 : Int32) (r : Bool), Md_isLower_2 ν f x1 = some r → Z g d (0, 0) mX12_isLower 333 0 0 2 [(0, .ref 313), (1, .int x1)] [] (zem ν) (zF g (some (.int (b2i r)), zem ν)) := by
  intro f
  induction f with
  | zero =>
    intro x1 r h
    cases h
  | succ f ih =>
    intro x1 r h
    rw [Md_isLower_2] at h
    refine z_iload_n dX12_isLower_2 1 rfl ?_
    refine z_iconst (M := mX12_isLower) (v := 5) dX12_isLower_3 rfl ?_
    refine z_icmp_ge 49 dX12_isLower_4 rfl (fun hc1 => ?_) (fun hc1 => ?_)
    · replace h := oT hc1 h
      refine z_iconst (M := mX12_isLower) (v := 0) dX12_isLower_49 rfl ?_
      cases h
      exact z_zret dX12_isLower_50 rfl rfl
    · replace h := oF hc1 h
      refine z_aload_n dX12_isLower_7 0 rfl ?_
      refine y_getR (M := mX12_isLower) (r := 329) dX12_isLower_8 zk_313 flRX12_69 fr_10_33.1 (fr_10_33.2 _) ?_
      refine z_iload_n dX12_isLower_11 1 rfl ?_
      obtain ⟨hi2, h⟩ := oif h
      refine y_iald (M := mX12_isLower) (jj := x1.toNatClampNeg) dX12_isLower_12 zk_329 hi2 rfl ?_
      refine z_aload_n dX12_isLower_13 0 rfl ?_
      refine y_getR (M := mX12_isLower) (r := 330) dX12_isLower_14 zk_313 flRX12_72 fr_10_34.1 (fr_10_34.2 _) ?_
      refine z_iload_n dX12_isLower_17 1 rfl ?_
      obtain ⟨hi3, h⟩ := oif h
      refine y_iald (M := mX12_isLower) (jj := x1.toNatClampNeg) dX12_isLower_18 zk_330 hi3 rfl ?_
      refine z_icmp_eq 43 dX12_isLower_19 rfl (fun hc4 => ?_) (fun hc4 => ?_)
      · replace h := oT hc4 h
        refine z_iinc (M := mX12_isLower) (v := (x1 + (1 : Int32))) (lv2 := [(1, .int (x1 + (1 : Int32))), (0, .ref 313)]) dX12_isLower_43 1 rfl rfl (Nat.le_of_ble_eq_true rfl) rfl ?_
        refine z_goto 2 dX12_isLower_46 rfl ?_
        refine z_lv (lv2 := [(0, .ref 313), (1, .int (x1 + (1 : Int32)))]) [1, 0] rfl ?_
        exact ih (x1 + (1 : Int32)) _ h
      · replace h := oF hc4 h
        refine z_aload_n dX12_isLower_22 0 rfl ?_
        refine y_getR (M := mX12_isLower) (r := 329) dX12_isLower_23 zk_313 flRX12_69 fr_10_33.1 (fr_10_33.2 _) ?_
        refine z_iload_n dX12_isLower_26 1 rfl ?_
        obtain ⟨hi5, h⟩ := oif h
        refine y_iald (M := mX12_isLower) (jj := x1.toNatClampNeg) dX12_isLower_27 zk_329 hi5 rfl ?_
        refine z_aload_n dX12_isLower_28 0 rfl ?_
        refine y_getR (M := mX12_isLower) (r := 330) dX12_isLower_29 zk_313 flRX12_72 fr_10_34.1 (fr_10_34.2 _) ?_
        refine z_iload_n dX12_isLower_32 1 rfl ?_
        obtain ⟨hi6, h⟩ := oif h
        refine y_iald (M := mX12_isLower) (jj := x1.toNatClampNeg) dX12_isLower_33 zk_330 hi6 rfl ?_
        refine z_icmp_ge 41 dX12_isLower_34 rfl (fun hc7 => ?_) (fun hc7 => ?_)
        · replace h := oT hc7 h
          refine z_iconst (M := mX12_isLower) (v := 0) dX12_isLower_41 rfl ?_
          cases h
          exact z_zret dX12_isLower_42 rfl rfl
        · replace h := oF hc7 h
          refine z_iconst (M := mX12_isLower) (v := 1) dX12_isLower_37 rfl ?_
          refine z_goto 42 dX12_isLower_38 rfl ?_
          cases h
          exact z_zret dX12_isLower_42 rfl rfl
def Md_isLower (ν : Nm) : Option Bool :=
  Md_isLower_2 ν FU (1 : Int32)
set_option maxRecDepth 100000 in
set_option maxHeartbeats 4000000 in
theorem t_Md_isLower {g : GG} {d : Nat} {ν : Nm} (hd0 : 1 ≤ d) : ∀ (r : Bool), Md_isLower ν = some r → Z g d (0, 0) mX12_isLower 333 0 0 0 [(0, .ref 313)] [] (zem ν) (zF g (some (.int (b2i r)), zem ν)) := by
  intro r h
  unfold Md_isLower at h
  refine z_iconst (M := mX12_isLower) (v := 1) dX12_isLower_0 rfl ?_
  refine z_istore_n (M := mX12_isLower) (lv2 := [(1, .int (1 : Int32)), (0, .ref 313)]) dX12_isLower_1 (Nat.le_of_ble_eq_true rfl) rfl ?_
  refine z_lv (lv2 := [(0, .ref 313), (1, .int (1 : Int32))]) [1, 0] rfl ?_
  exact t_Md_isLower_2 hd0 FU (1 : Int32) _ h
theorem ct_Md_isLower {g : GG} {d : Nat} {ν : Nm} {r : Bool} (hd0 : 1 ≤ d)  (h : Md_isLower ν = some r) : Ct g d mX12_isLower [.ref 313] (zem ν) (some (.int (b2i r)), zem ν) := y_entry in_X12_isLower (Nat.le_of_ble_eq_true rfl) rfl (t_Md_isLower hd0 r h)
-- FuseMinutesModel.layBundle()I
theorem dX12_layBundle_0 : decode cX12_layBundle 0 = .ok (.iconst 1, 1) := by decide +kernel
theorem dX12_layBundle_1 : decode cX12_layBundle 1 = .ok (.istore_n 1, 1) := by decide +kernel
theorem dX12_layBundle_2 : decode cX12_layBundle 2 = .ok (.iconst 0, 1) := by decide +kernel
theorem dX12_layBundle_3 : decode cX12_layBundle 3 = .ok (.istore_n 2, 1) := by decide +kernel
theorem dX12_layBundle_4 : decode cX12_layBundle 4 = .ok (.iload_n 2, 1) := by decide +kernel
theorem dX12_layBundle_5 : decode cX12_layBundle 5 = .ok (.aload_n 0, 1) := by decide +kernel
theorem dX12_layBundle_6 : decode cX12_layBundle 6 = .ok (.getfield 7, 3) := by decide +kernel
theorem dX12_layBundle_9 : decode cX12_layBundle 9 = .ok (.iconst 0, 1) := by decide +kernel
theorem dX12_layBundle_10 : decode cX12_layBundle 10 = .ok (.iaload, 1) := by decide +kernel
theorem dX12_layBundle_11 : decode cX12_layBundle 11 = .ok (.if_icmp .ge 13, 3) := by decide +kernel
theorem dX12_layBundle_14 : decode cX12_layBundle 14 = .ok (.iload_n 1, 1) := by decide +kernel
theorem dX12_layBundle_15 : decode cX12_layBundle 15 = .ok (.iconst 5, 1) := by decide +kernel
theorem dX12_layBundle_16 : decode cX12_layBundle 16 = .ok (.imul, 1) := by decide +kernel
theorem dX12_layBundle_17 : decode cX12_layBundle 17 = .ok (.istore_n 1, 1) := by decide +kernel
theorem dX12_layBundle_18 : decode cX12_layBundle 18 = .ok (.iinc 2 1, 3) := by decide +kernel
theorem dX12_layBundle_21 : decode cX12_layBundle 21 = .ok (.goto (-17), 3) := by decide +kernel
theorem dX12_layBundle_24 : decode cX12_layBundle 24 = .ok (.iconst (-1), 1) := by decide +kernel
theorem dX12_layBundle_25 : decode cX12_layBundle 25 = .ok (.istore_n 2, 1) := by decide +kernel
theorem dX12_layBundle_26 : decode cX12_layBundle 26 = .ok (.iconst 0, 1) := by decide +kernel
theorem dX12_layBundle_27 : decode cX12_layBundle 27 = .ok (.istore_n 3, 1) := by decide +kernel
theorem dX12_layBundle_28 : decode cX12_layBundle 28 = .ok (.iload_n 3, 1) := by decide +kernel
theorem dX12_layBundle_29 : decode cX12_layBundle 29 = .ok (.iload_n 1, 1) := by decide +kernel
theorem dX12_layBundle_30 : decode cX12_layBundle 30 = .ok (.if_icmp .ge 159, 3) := by decide +kernel
theorem dX12_layBundle_33 : decode cX12_layBundle 33 = .ok (.aload_n 0, 1) := by decide +kernel
theorem dX12_layBundle_34 : decode cX12_layBundle 34 = .ok (.iload_n 3, 1) := by decide +kernel
theorem dX12_layBundle_35 : decode cX12_layBundle 35 = .ok (.invokevirtual 470, 3) := by decide +kernel
theorem dX12_layBundle_38 : decode cX12_layBundle 38 = .ok (.ifCond .ne 6, 3) := by decide +kernel
theorem dX12_layBundle_41 : decode cX12_layBundle 41 = .ok (.goto 142, 3) := by decide +kernel
theorem dX12_layBundle_44 : decode cX12_layBundle 44 = .ok (.aload_n 0, 1) := by decide +kernel
theorem dX12_layBundle_45 : decode cX12_layBundle 45 = .ok (.getfield 69, 3) := by decide +kernel
theorem dX12_layBundle_48 : decode cX12_layBundle 48 = .ok (.iconst 1, 1) := by decide +kernel
theorem dX12_layBundle_49 : decode cX12_layBundle 49 = .ok (.iaload, 1) := by decide +kernel
theorem dX12_layBundle_50 : decode cX12_layBundle 50 = .ok (.aload_n 0, 1) := by decide +kernel
theorem dX12_layBundle_51 : decode cX12_layBundle 51 = .ok (.getfield 69, 3) := by decide +kernel
theorem dX12_layBundle_54 : decode cX12_layBundle 54 = .ok (.iconst 2, 1) := by decide +kernel
theorem dX12_layBundle_55 : decode cX12_layBundle 55 = .ok (.iaload, 1) := by decide +kernel
theorem dX12_layBundle_56 : decode cX12_layBundle 56 = .ok (.ior, 1) := by decide +kernel
theorem dX12_layBundle_57 : decode cX12_layBundle 57 = .ok (.aload_n 0, 1) := by decide +kernel
theorem dX12_layBundle_58 : decode cX12_layBundle 58 = .ok (.getfield 69, 3) := by decide +kernel
theorem dX12_layBundle_61 : decode cX12_layBundle 61 = .ok (.iconst 3, 1) := by decide +kernel
theorem dX12_layBundle_62 : decode cX12_layBundle 62 = .ok (.iaload, 1) := by decide +kernel
theorem dX12_layBundle_63 : decode cX12_layBundle 63 = .ok (.ior, 1) := by decide +kernel
theorem dX12_layBundle_64 : decode cX12_layBundle 64 = .ok (.aload_n 0, 1) := by decide +kernel
theorem dX12_layBundle_65 : decode cX12_layBundle 65 = .ok (.getfield 69, 3) := by decide +kernel
theorem dX12_layBundle_68 : decode cX12_layBundle 68 = .ok (.iconst 4, 1) := by decide +kernel
theorem dX12_layBundle_69 : decode cX12_layBundle 69 = .ok (.iaload, 1) := by decide +kernel
theorem dX12_layBundle_70 : decode cX12_layBundle 70 = .ok (.ior, 1) := by decide +kernel
theorem dX12_layBundle_71 : decode cX12_layBundle 71 = .ok (.istore 4, 2) := by decide +kernel
theorem dX12_layBundle_73 : decode cX12_layBundle 73 = .ok (.iload_n 2, 1) := by decide +kernel
theorem dX12_layBundle_74 : decode cX12_layBundle 74 = .ok (.iconst (-1), 1) := by decide +kernel
theorem dX12_layBundle_75 : decode cX12_layBundle 75 = .ok (.if_icmp .eq 33, 3) := by decide +kernel
theorem dX12_layBundle_78 : decode cX12_layBundle 78 = .ok (.aload_n 0, 1) := by decide +kernel
theorem dX12_layBundle_79 : decode cX12_layBundle 79 = .ok (.iload 4, 2) := by decide +kernel
theorem dX12_layBundle_81 : decode cX12_layBundle 81 = .ok (.invokevirtual 464, 3) := by decide +kernel
theorem dX12_layBundle_84 : decode cX12_layBundle 84 = .ok (.aload_n 0, 1) := by decide +kernel
theorem dX12_layBundle_85 : decode cX12_layBundle 85 = .ok (.iload_n 2, 1) := by decide +kernel
theorem dX12_layBundle_86 : decode cX12_layBundle 86 = .ok (.invokevirtual 464, 3) := by decide +kernel
theorem dX12_layBundle_89 : decode cX12_layBundle 89 = .ok (.if_icmp .ne 19, 3) := by decide +kernel
theorem dX12_layBundle_92 : decode cX12_layBundle 92 = .ok (.iload 4, 2) := by decide +kernel
theorem dX12_layBundle_94 : decode cX12_layBundle 94 = .ok (.invokestatic 100, 3) := by decide +kernel
theorem dX12_layBundle_97 : decode cX12_layBundle 97 = .ok (.iload_n 2, 1) := by decide +kernel
theorem dX12_layBundle_98 : decode cX12_layBundle 98 = .ok (.invokestatic 100, 3) := by decide +kernel
theorem dX12_layBundle_101 : decode cX12_layBundle 101 = .ok (.if_icmp .ne 7, 3) := by decide +kernel
theorem dX12_layBundle_104 : decode cX12_layBundle 104 = .ok (.iconst 1, 1) := by decide +kernel
theorem dX12_layBundle_105 : decode cX12_layBundle 105 = .ok (.goto 4, 3) := by decide +kernel
theorem dX12_layBundle_108 : decode cX12_layBundle 108 = .ok (.iconst 0, 1) := by decide +kernel
theorem dX12_layBundle_109 : decode cX12_layBundle 109 = .ok (.istore 5, 2) := by decide +kernel
theorem dX12_layBundle_111 : decode cX12_layBundle 111 = .ok (.iload 5, 2) := by decide +kernel
theorem dX12_layBundle_113 : decode cX12_layBundle 113 = .ok (.ifCond .eq 25, 3) := by decide +kernel
theorem dX12_layBundle_116 : decode cX12_layBundle 116 = .ok (.iload 4, 2) := by decide +kernel
theorem dX12_layBundle_118 : decode cX12_layBundle 118 = .ok (.iload_n 2, 1) := by decide +kernel
theorem dX12_layBundle_119 : decode cX12_layBundle 119 = .ok (.if_icmp .lt 32, 3) := by decide +kernel
theorem dX12_layBundle_122 : decode cX12_layBundle 122 = .ok (.iload 4, 2) := by decide +kernel
theorem dX12_layBundle_124 : decode cX12_layBundle 124 = .ok (.iload_n 2, 1) := by decide +kernel
theorem dX12_layBundle_125 : decode cX12_layBundle 125 = .ok (.if_icmp .ne 58, 3) := by decide +kernel
theorem dX12_layBundle_128 : decode cX12_layBundle 128 = .ok (.aload_n 0, 1) := by decide +kernel
theorem dX12_layBundle_129 : decode cX12_layBundle 129 = .ok (.invokevirtual 473, 3) := by decide +kernel
theorem dX12_layBundle_132 : decode cX12_layBundle 132 = .ok (.ifCond .eq 51, 3) := by decide +kernel
theorem dX12_layBundle_135 : decode cX12_layBundle 135 = .ok (.goto 16, 3) := by decide +kernel
theorem dX12_layBundle_138 : decode cX12_layBundle 138 = .ok (.aload_n 0, 1) := by decide +kernel
theorem dX12_layBundle_139 : decode cX12_layBundle 139 = .ok (.iload 4, 2) := by decide +kernel
theorem dX12_layBundle_141 : decode cX12_layBundle 141 = .ok (.iload_n 2, 1) := by decide +kernel
theorem dX12_layBundle_142 : decode cX12_layBundle 142 = .ok (.invokevirtual 467, 3) := by decide +kernel
theorem dX12_layBundle_145 : decode cX12_layBundle 145 = .ok (.ifCond .ne 6, 3) := by decide +kernel
theorem dX12_layBundle_148 : decode cX12_layBundle 148 = .ok (.goto 35, 3) := by decide +kernel
theorem dX12_layBundle_151 : decode cX12_layBundle 151 = .ok (.iload 4, 2) := by decide +kernel
theorem dX12_layBundle_153 : decode cX12_layBundle 153 = .ok (.istore_n 2, 1) := by decide +kernel
theorem dX12_layBundle_154 : decode cX12_layBundle 154 = .ok (.iconst 0, 1) := by decide +kernel
theorem dX12_layBundle_155 : decode cX12_layBundle 155 = .ok (.istore 6, 2) := by decide +kernel
theorem dX12_layBundle_157 : decode cX12_layBundle 157 = .ok (.iload 6, 2) := by decide +kernel
theorem dX12_layBundle_159 : decode cX12_layBundle 159 = .ok (.iconst 5, 1) := by decide +kernel
theorem dX12_layBundle_160 : decode cX12_layBundle 160 = .ok (.if_icmp .ge 23, 3) := by decide +kernel
theorem dX12_layBundle_163 : decode cX12_layBundle 163 = .ok (.aload_n 0, 1) := by decide +kernel
theorem dX12_layBundle_164 : decode cX12_layBundle 164 = .ok (.getfield 72, 3) := by decide +kernel
theorem dX12_layBundle_167 : decode cX12_layBundle 167 = .ok (.iload 6, 2) := by decide +kernel
theorem dX12_layBundle_169 : decode cX12_layBundle 169 = .ok (.aload_n 0, 1) := by decide +kernel
theorem dX12_layBundle_170 : decode cX12_layBundle 170 = .ok (.getfield 69, 3) := by decide +kernel
theorem dX12_layBundle_173 : decode cX12_layBundle 173 = .ok (.iload 6, 2) := by decide +kernel
theorem dX12_layBundle_175 : decode cX12_layBundle 175 = .ok (.iaload, 1) := by decide +kernel
theorem dX12_layBundle_176 : decode cX12_layBundle 176 = .ok (.iastore, 1) := by decide +kernel
theorem dX12_layBundle_177 : decode cX12_layBundle 177 = .ok (.iinc 6 1, 3) := by decide +kernel
theorem dX12_layBundle_180 : decode cX12_layBundle 180 = .ok (.goto (-23), 3) := by decide +kernel
theorem dX12_layBundle_183 : decode cX12_layBundle 183 = .ok (.iinc 3 1, 3) := by decide +kernel
theorem dX12_layBundle_186 : decode cX12_layBundle 186 = .ok (.goto (-158), 3) := by decide +kernel
theorem dX12_layBundle_189 : decode cX12_layBundle 189 = .ok (.iload_n 2, 1) := by decide +kernel
theorem dX12_layBundle_190 : decode cX12_layBundle 190 = .ok (.ireturn, 1) := by decide +kernel
def Md_layBundle_183 (k28 : Int32 → Int32 → Int32 → Nm → Option (Int32 × Nm)) (x1 : Int32) (x2 : Int32) (x3 : Int32) (ν : Nm) : Option (Int32 × Nm) :=
  k28 x1 x2 (x3 + (1 : Int32)) ν
set_option maxRecDepth 100000 in
set_option maxHeartbeats 4000000 in
theorem t_Md_layBundle_183 {g : GG} {d : Nat} (hd0 : 6 ≤ d) {k28 : Int32 → Int32 → Int32 → Nm → Option (Int32 × Nm)} (hk28 : ∀ (x1 : Int32) (x2 : Int32) (x3 : Int32) (ν : Nm) (r : (Int32 × Nm)), k28 x1 x2 x3 ν = some r → Z g d (0, 0) mX12_layBundle 333 0 0 28 [(0, .ref 313), (1, .int x1), (2, .int x2), (3, .int x3)] [] (zem ν) (zF g (some (.int r.1), zem r.2))) : ∀ (x1 : Int32) (x2 : Int32) (x3 : Int32) (ν : Nm) (r : (Int32 × Nm)), Md_layBundle_183 k28 x1 x2 x3 ν = some r → Z g d (0, 0) mX12_layBundle 333 0 0 183 [(0, .ref 313), (1, .int x1), (2, .int x2), (3, .int x3)] [] (zem ν) (zF g (some (.int r.1), zem r.2)) := by
  intro x1 x2 x3 ν r h
  unfold Md_layBundle_183 at h
  refine z_iinc (M := mX12_layBundle) (v := (x3 + (1 : Int32))) (lv2 := [(3, .int (x3 + (1 : Int32))), (0, .ref 313), (1, .int x1), (2, .int x2)]) dX12_layBundle_183 3 rfl rfl (Nat.le_of_ble_eq_true rfl) rfl ?_
  refine z_goto 28 dX12_layBundle_186 rfl ?_
  refine z_lv (lv2 := [(0, .ref 313), (1, .int x1), (2, .int x2), (3, .int (x3 + (1 : Int32)))]) [1, 2, 3, 0] rfl ?_
  exact hk28 x1 x2 (x3 + (1 : Int32)) ν _ h
def Md_layBundle_157 (k28 : Int32 → Int32 → Int32 → Nm → Option (Int32 × Nm)) : Nat → Int32 → Int32 → Int32 → Int32 → Nm → Option (Int32 × Nm)
  | 0, _, _, _, _, _ => none
  | f + 1, x1, x2, x3, x6, ν =>
    (if (5 : Int32) ≤ x6 then
      Md_layBundle_183 k28 x1 x2 x3 ν
    else
      if inb x6 5 then
      if inb x6 5 then
      (Md_layBundle_157 k28 f) x1 x2 x3 (x6 + (1 : Int32)) (si ν 330 x6.toNatClampNeg (gi ν 329 x6.toNatClampNeg))
      else none
      else none)
set_option maxRecDepth 100000 in
set_option maxHeartbeats 4000000 in
theorem t_Md_layBundle_157 {g : GG} {d : Nat} (hd0 : 6 ≤ d) {k28 : Int32 → Int32 → Int32 → Nm → Option (Int32 × Nm)} (hk28 : ∀ (x1 : Int32) (x2 : Int32) (x3 : Int32) (ν : Nm) (r : (Int32 × Nm)), k28 x1 x2 x3 ν = some r → Z g d (0, 0) mX12_layBundle 333 0 0 28 [(0, .ref 313), (1, .int x1), (2, .int x2), (3, .int x3)] [] (zem ν) (zF g (some (.int r.1), zem r.2))) : ∀ (f : Nat), ∀ (x1 : Int32) (x2 : Int32) (x3 : Int32) (x6 : Int32) (ν : Nm) (r : (Int32 × Nm)), Md_layBundle_157 k28 f x1 x2 x3 x6 ν = some r → Z g d (0, 0) mX12_layBundle 333 0 0 157 [(0, .ref 313), (1, .int x1), (2, .int x2), (3, .int x3), (6, .int x6)] [] (zem ν) (zF g (some (.int r.1), zem r.2)) := by
  intro f
  induction f with
  | zero =>
    intro x1 x2 x3 x6 ν r h
    cases h
  | succ f ih =>
    intro x1 x2 x3 x6 ν r h
    rw [Md_layBundle_157] at h
    refine z_iload dX12_layBundle_157 4 rfl ?_
    refine z_iconst (M := mX12_layBundle) (v := 5) dX12_layBundle_159 rfl ?_
    refine z_icmp_ge 183 dX12_layBundle_160 rfl (fun hc1 => ?_) (fun hc1 => ?_)
    · replace h := oT hc1 h
      refine z_lv (lv2 := [(0, .ref 313), (1, .int x1), (2, .int x2), (3, .int x3)]) [0, 1, 2, 3] rfl ?_
      exact t_Md_layBundle_183 hd0 hk28 x1 x2 x3 ν _ h
    · replace h := oF hc1 h
      refine z_aload_n dX12_layBundle_163 0 rfl ?_
      refine y_getR (M := mX12_layBundle) (r := 330) dX12_layBundle_164 zk_313 flRX12_72 fr_10_34.1 (fr_10_34.2 _) ?_
      refine z_iload dX12_layBundle_167 4 rfl ?_
      refine z_aload_n dX12_layBundle_169 0 rfl ?_
      refine y_getR (M := mX12_layBundle) (r := 329) dX12_layBundle_170 zk_313 flRX12_69 fr_10_33.1 (fr_10_33.2 _) ?_
      refine z_iload dX12_layBundle_173 4 rfl ?_
      obtain ⟨hi2, h⟩ := oif h
      refine y_iald (M := mX12_layBundle) (jj := x6.toNatClampNeg) dX12_layBundle_175 zk_329 hi2 rfl ?_
      obtain ⟨hi3, h⟩ := oif h
      refine y_iast (M := mX12_layBundle) (jj := x6.toNatClampNeg) dX12_layBundle_176 zk_330 hi3 rfl ?_
      refine z_iinc (M := mX12_layBundle) (v := (x6 + (1 : Int32))) (lv2 := [(6, .int (x6 + (1 : Int32))), (0, .ref 313), (1, .int x1), (2, .int x2), (3, .int x3)]) dX12_layBundle_177 4 rfl rfl (Nat.le_of_ble_eq_true rfl) rfl ?_
      refine z_goto 157 dX12_layBundle_180 rfl ?_
      refine z_lv (lv2 := [(0, .ref 313), (1, .int x1), (2, .int x2), (3, .int x3), (6, .int (x6 + (1 : Int32)))]) [1, 2, 3, 4, 0] rfl ?_
      exact ih x1 x2 x3 (x6 + (1 : Int32)) (si ν 330 x6.toNatClampNeg (gi ν 329 x6.toNatClampNeg)) _ h
def Md_layBundle_151 (k28 : Int32 → Int32 → Int32 → Nm → Option (Int32 × Nm)) (x1 : Int32) (x3 : Int32) (x4 : Int32) (ν : Nm) : Option (Int32 × Nm) :=
  Md_layBundle_157 k28 FU x1 x4 x3 (0 : Int32) ν
set_option maxRecDepth 100000 in
set_option maxHeartbeats 4000000 in
theorem t_Md_layBundle_151 {g : GG} {d : Nat} (hd0 : 6 ≤ d) {k28 : Int32 → Int32 → Int32 → Nm → Option (Int32 × Nm)} (hk28 : ∀ (x1 : Int32) (x2 : Int32) (x3 : Int32) (ν : Nm) (r : (Int32 × Nm)), k28 x1 x2 x3 ν = some r → Z g d (0, 0) mX12_layBundle 333 0 0 28 [(0, .ref 313), (1, .int x1), (2, .int x2), (3, .int x3)] [] (zem ν) (zF g (some (.int r.1), zem r.2))) : ∀ (x1 : Int32) (x3 : Int32) (x4 : Int32) (ν : Nm) (r : (Int32 × Nm)), Md_layBundle_151 k28 x1 x3 x4 ν = some r → Z g d (0, 0) mX12_layBundle 333 0 0 151 [(0, .ref 313), (1, .int x1), (3, .int x3), (4, .int x4)] [] (zem ν) (zF g (some (.int r.1), zem r.2)) := by
  intro x1 x3 x4 ν r h
  unfold Md_layBundle_151 at h
  refine z_iload dX12_layBundle_151 3 rfl ?_
  refine z_istore_n (M := mX12_layBundle) (lv2 := [(2, .int x4), (0, .ref 313), (1, .int x1), (3, .int x3), (4, .int x4)]) dX12_layBundle_153 (Nat.le_of_ble_eq_true rfl) rfl ?_
  refine z_iconst (M := mX12_layBundle) (v := 0) dX12_layBundle_154 rfl ?_
  refine z_istore (M := mX12_layBundle) (lv2 := [(6, .int (0 : Int32)), (2, .int x4), (0, .ref 313), (1, .int x1), (3, .int x3), (4, .int x4)]) dX12_layBundle_155 (Nat.le_of_ble_eq_true rfl) rfl ?_
  refine z_lv (lv2 := [(0, .ref 313), (1, .int x1), (2, .int x4), (3, .int x3), (6, .int (0 : Int32))]) [2, 3, 1, 4, 0] rfl ?_
  exact t_Md_layBundle_157 hd0 hk28 FU x1 x4 x3 (0 : Int32) ν _ h
def Md_layBundle_109 (k28 : Int32 → Int32 → Int32 → Nm → Option (Int32 × Nm)) (x1 : Int32) (x2 : Int32) (x3 : Int32) (x4 : Int32) (s0 : Int32) (ν : Nm) : Option (Int32 × Nm) :=
  (if s0 = 0 then
    (Md_isCheaper ν x4 x2).bind fun v2 =>
    (if ¬ (b2i v2) = 0 then
      Md_layBundle_151 k28 x1 x3 x4 ν
    else
      Md_layBundle_183 k28 x1 x2 x3 ν)
  else
    (if x4 < x2 then
      Md_layBundle_151 k28 x1 x3 x4 ν
    else
      (if ¬ x4 = x2 then
        Md_layBundle_183 k28 x1 x2 x3 ν
      else
        (Md_isLower ν).bind fun v6 =>
        (if (b2i v6) = 0 then
          Md_layBundle_183 k28 x1 x2 x3 ν
        else
          Md_layBundle_151 k28 x1 x3 x4 ν))))
set_option maxRecDepth 100000 in
set_option maxHeartbeats 4000000 in
theorem t_Md_layBundle_109 {g : GG} {d : Nat} (hd0 : 6 ≤ d) {k28 : Int32 → Int32 → Int32 → Nm → Option (Int32 × Nm)} (hk28 : ∀ (x1 : Int32) (x2 : Int32) (x3 : Int32) (ν : Nm) (r : (Int32 × Nm)), k28 x1 x2 x3 ν = some r → Z g d (0, 0) mX12_layBundle 333 0 0 28 [(0, .ref 313), (1, .int x1), (2, .int x2), (3, .int x3)] [] (zem ν) (zF g (some (.int r.1), zem r.2))) : ∀ (x1 : Int32) (x2 : Int32) (x3 : Int32) (x4 : Int32) (s0 : Int32) (ν : Nm) (r : (Int32 × Nm)), Md_layBundle_109 k28 x1 x2 x3 x4 s0 ν = some r → Z g d (0, 0) mX12_layBundle 333 0 0 109 [(0, .ref 313), (1, .int x1), (2, .int x2), (3, .int x3), (4, .int x4)] [.int s0] (zem ν) (zF g (some (.int r.1), zem r.2)) := by
  intro x1 x2 x3 x4 s0 ν r h
  unfold Md_layBundle_109 at h
  refine z_istore (M := mX12_layBundle) (lv2 := [(5, .int s0), (0, .ref 313), (1, .int x1), (2, .int x2), (3, .int x3), (4, .int x4)]) dX12_layBundle_109 (Nat.le_of_ble_eq_true rfl) rfl ?_
  refine z_iload dX12_layBundle_111 0 rfl ?_
  refine z_if_eq 138 dX12_layBundle_113 rfl (fun hc1 => ?_) (fun hc1 => ?_)
  · replace h := oT hc1 h
    refine z_aload_n dX12_layBundle_138 1 rfl ?_
    refine z_iload dX12_layBundle_139 5 rfl ?_
    refine z_iload_n dX12_layBundle_141 3 rfl ?_
    obtain ⟨v2, he2, h⟩ := obind h
    refine y_Vi (M := mX12_layBundle) (Y := mX12_isCheaper) (d2 := d - 1) (As := [.int x4, .int x2]) (st := []) dX12_layBundle_142 mlRX12_467 cv_X12_isCheaper zk_313 (ct_Md_isCheaper (dle (Nat.le_of_ble_eq_true rfl) hd0) he2) (dps (Nat.le_of_ble_eq_true rfl) hd0) rfl rfl (Nat.le_of_ble_eq_true rfl) ?_
    refine z_if_ne 151 dX12_layBundle_145 rfl (fun hc3 => ?_) (fun hc3 => ?_)
    · replace h := oT hc3 h
      refine z_lv (lv2 := [(0, .ref 313), (1, .int x1), (3, .int x3), (4, .int x4)]) [1, 2, 4, 5] rfl ?_
      exact t_Md_layBundle_151 hd0 hk28 x1 x3 x4 ν _ h
    · replace h := oFn hc3 h
      refine z_goto 183 dX12_layBundle_148 rfl ?_
      refine z_lv (lv2 := [(0, .ref 313), (1, .int x1), (2, .int x2), (3, .int x3)]) [1, 2, 3, 4] rfl ?_
      exact t_Md_layBundle_183 hd0 hk28 x1 x2 x3 ν _ h
  · replace h := oF hc1 h
    refine z_iload dX12_layBundle_116 5 rfl ?_
    refine z_iload_n dX12_layBundle_118 3 rfl ?_
    refine z_icmp_lt 151 dX12_layBundle_119 rfl (fun hc4 => ?_) (fun hc4 => ?_)
    · replace h := oT hc4 h
      refine z_lv (lv2 := [(0, .ref 313), (1, .int x1), (3, .int x3), (4, .int x4)]) [1, 2, 4, 5] rfl ?_
      exact t_Md_layBundle_151 hd0 hk28 x1 x3 x4 ν _ h
    · replace h := oF hc4 h
      refine z_iload dX12_layBundle_122 5 rfl ?_
      refine z_iload_n dX12_layBundle_124 3 rfl ?_
      refine z_icmp_ne 183 dX12_layBundle_125 rfl (fun hc5 => ?_) (fun hc5 => ?_)
      · replace h := oT hc5 h
        refine z_lv (lv2 := [(0, .ref 313), (1, .int x1), (2, .int x2), (3, .int x3)]) [1, 2, 3, 4] rfl ?_
        exact t_Md_layBundle_183 hd0 hk28 x1 x2 x3 ν _ h
      · replace h := oFn hc5 h
        refine z_aload_n dX12_layBundle_128 1 rfl ?_
        obtain ⟨v6, he6, h⟩ := obind h
        refine y_Vi (M := mX12_layBundle) (Y := mX12_isLower) (d2 := d - 1) (As := []) (st := []) dX12_layBundle_129 mlRX12_473 cv_X12_isLower zk_313 (ct_Md_isLower (dle (Nat.le_of_ble_eq_true rfl) hd0) he6) (dps (Nat.le_of_ble_eq_true rfl) hd0) rfl rfl (Nat.le_of_ble_eq_true rfl) ?_
        refine z_if_eq 183 dX12_layBundle_132 rfl (fun hc7 => ?_) (fun hc7 => ?_)
        · replace h := oT hc7 h
          refine z_lv (lv2 := [(0, .ref 313), (1, .int x1), (2, .int x2), (3, .int x3)]) [1, 2, 3, 4] rfl ?_
          exact t_Md_layBundle_183 hd0 hk28 x1 x2 x3 ν _ h
        · replace h := oF hc7 h
          refine z_goto 151 dX12_layBundle_135 rfl ?_
          refine z_lv (lv2 := [(0, .ref 313), (1, .int x1), (3, .int x3), (4, .int x4)]) [1, 2, 4, 5] rfl ?_
          exact t_Md_layBundle_151 hd0 hk28 x1 x3 x4 ν _ h
def Md_layBundle_108 (k28 : Int32 → Int32 → Int32 → Nm → Option (Int32 × Nm)) (x1 : Int32) (x2 : Int32) (x3 : Int32) (x4 : Int32) (ν : Nm) : Option (Int32 × Nm) :=
  Md_layBundle_109 k28 x1 x2 x3 x4 (0 : Int32) ν
set_option maxRecDepth 100000 in
set_option maxHeartbeats 4000000 in
theorem t_Md_layBundle_108 {g : GG} {d : Nat} (hd0 : 6 ≤ d) {k28 : Int32 → Int32 → Int32 → Nm → Option (Int32 × Nm)} (hk28 : ∀ (x1 : Int32) (x2 : Int32) (x3 : Int32) (ν : Nm) (r : (Int32 × Nm)), k28 x1 x2 x3 ν = some r → Z g d (0, 0) mX12_layBundle 333 0 0 28 [(0, .ref 313), (1, .int x1), (2, .int x2), (3, .int x3)] [] (zem ν) (zF g (some (.int r.1), zem r.2))) : ∀ (x1 : Int32) (x2 : Int32) (x3 : Int32) (x4 : Int32) (ν : Nm) (r : (Int32 × Nm)), Md_layBundle_108 k28 x1 x2 x3 x4 ν = some r → Z g d (0, 0) mX12_layBundle 333 0 0 108 [(0, .ref 313), (1, .int x1), (2, .int x2), (3, .int x3), (4, .int x4)] [] (zem ν) (zF g (some (.int r.1), zem r.2)) := by
  intro x1 x2 x3 x4 ν r h
  unfold Md_layBundle_108 at h
  refine z_iconst (M := mX12_layBundle) (v := 0) dX12_layBundle_108 rfl ?_
  exact t_Md_layBundle_109 hd0 hk28 x1 x2 x3 x4 (0 : Int32) ν _ h
def Md_layBundle_28 : Nat → Int32 → Int32 → Int32 → Nm → Option (Int32 × Nm)
  | 0, _, _, _, _ => none
  | f + 1, x1, x2, x3, ν =>
    (if x1 ≤ x3 then
      some (x2, ν)
    else
      (Md_areParts x3 ν).bind fun v2 =>
      (if ¬ (b2i v2.1) = 0 then
        (if x2 = (-1 : Int32) then
          Md_layBundle_108 (Md_layBundle_28 f) x1 x2 x3 ((((gi v2.2 329 1) ||| (gi v2.2 329 2)) ||| (gi v2.2 329 3)) ||| (gi v2.2 329 4)) v2.2
        else
          (Md_priceOf v2.2 ((((gi v2.2 329 1) ||| (gi v2.2 329 2)) ||| (gi v2.2 329 3)) ||| (gi v2.2 329 4))).bind fun v5 =>
          (Md_priceOf v2.2 x2).bind fun v6 =>
          (if ¬ v5 = v6 then
            Md_layBundle_108 (Md_layBundle_28 f) x1 x2 x3 ((((gi v2.2 329 1) ||| (gi v2.2 329 2)) ||| (gi v2.2 329 3)) ||| (gi v2.2 329 4)) v2.2
          else
            (Md_bits ((((gi v2.2 329 1) ||| (gi v2.2 329 2)) ||| (gi v2.2 329 3)) ||| (gi v2.2 329 4))).bind fun v8 =>
            (Md_bits x2).bind fun v9 =>
            (if ¬ v8 = v9 then
              Md_layBundle_108 (Md_layBundle_28 f) x1 x2 x3 ((((gi v2.2 329 1) ||| (gi v2.2 329 2)) ||| (gi v2.2 329 3)) ||| (gi v2.2 329 4)) v2.2
            else
              Md_layBundle_109 (Md_layBundle_28 f) x1 x2 x3 ((((gi v2.2 329 1) ||| (gi v2.2 329 2)) ||| (gi v2.2 329 3)) ||| (gi v2.2 329 4)) (1 : Int32) v2.2)))
      else
        Md_layBundle_183 (Md_layBundle_28 f) x1 x2 x3 v2.2))
set_option maxRecDepth 100000 in
set_option maxHeartbeats 4000000 in
theorem t_Md_layBundle_28 {g : GG} {d : Nat} (hd0 : 6 ≤ d) : ∀ (f : Nat), ∀ (x1 : Int32) (x2 : Int32) (x3 : Int32) (ν : Nm) (r : (Int32 × Nm)), Md_layBundle_28 f x1 x2 x3 ν = some r → Z g d (0, 0) mX12_layBundle 333 0 0 28 [(0, .ref 313), (1, .int x1), (2, .int x2), (3, .int x3)] [] (zem ν) (zF g (some (.int r.1), zem r.2)) := by
  intro f
  induction f with
  | zero =>
    intro x1 x2 x3 ν r h
    cases h
  | succ f ih =>
    intro x1 x2 x3 ν r h
    rw [Md_layBundle_28] at h
    refine z_iload_n dX12_layBundle_28 3 rfl ?_
    refine z_iload_n dX12_layBundle_29 1 rfl ?_
    refine z_icmp_ge 189 dX12_layBundle_30 rfl (fun hc1 => ?_) (fun hc1 => ?_)
    · replace h := oT hc1 h
      refine z_iload_n dX12_layBundle_189 2 rfl ?_
      cases h
      exact z_iret dX12_layBundle_190 rfl
    · replace h := oF hc1 h
      refine z_aload_n dX12_layBundle_33 0 rfl ?_
      refine z_iload_n dX12_layBundle_34 3 rfl ?_
      obtain ⟨v2, he2, h⟩ := obind h
      refine y_Vi (M := mX12_layBundle) (Y := mX12_areParts) (d2 := d - 1) (As := [.int x3]) (st := []) dX12_layBundle_35 mlRX12_470 cv_X12_areParts zk_313 (ct_Md_areParts (dle (Nat.le_of_ble_eq_true rfl) hd0) he2) (dps (Nat.le_of_ble_eq_true rfl) hd0) rfl rfl (Nat.le_of_ble_eq_true rfl) ?_
      refine z_if_ne 44 dX12_layBundle_38 rfl (fun hc3 => ?_) (fun hc3 => ?_)
      · replace h := oT hc3 h
        refine z_aload_n dX12_layBundle_44 0 rfl ?_
        refine y_getR (M := mX12_layBundle) (r := 329) dX12_layBundle_45 zk_313 flRX12_69 fr_10_33.1 (fr_10_33.2 _) ?_
        refine z_iconst (M := mX12_layBundle) (v := 1) dX12_layBundle_48 rfl ?_
        refine y_iald (M := mX12_layBundle) (jj := 1) dX12_layBundle_49 zk_329 rfl rfl ?_
        refine z_aload_n dX12_layBundle_50 0 rfl ?_
        refine y_getR (M := mX12_layBundle) (r := 329) dX12_layBundle_51 zk_313 flRX12_69 fr_10_33.1 (fr_10_33.2 _) ?_
        refine z_iconst (M := mX12_layBundle) (v := 2) dX12_layBundle_54 rfl ?_
        refine y_iald (M := mX12_layBundle) (jj := 2) dX12_layBundle_55 zk_329 rfl rfl ?_
        refine z_ior dX12_layBundle_56 ?_
        refine z_aload_n dX12_layBundle_57 0 rfl ?_
        refine y_getR (M := mX12_layBundle) (r := 329) dX12_layBundle_58 zk_313 flRX12_69 fr_10_33.1 (fr_10_33.2 _) ?_
        refine z_iconst (M := mX12_layBundle) (v := 3) dX12_layBundle_61 rfl ?_
        refine y_iald (M := mX12_layBundle) (jj := 3) dX12_layBundle_62 zk_329 rfl rfl ?_
        refine z_ior dX12_layBundle_63 ?_
        refine z_aload_n dX12_layBundle_64 0 rfl ?_
        refine y_getR (M := mX12_layBundle) (r := 329) dX12_layBundle_65 zk_313 flRX12_69 fr_10_33.1 (fr_10_33.2 _) ?_
        refine z_iconst (M := mX12_layBundle) (v := 4) dX12_layBundle_68 rfl ?_
        refine y_iald (M := mX12_layBundle) (jj := 4) dX12_layBundle_69 zk_329 rfl rfl ?_
        refine z_ior dX12_layBundle_70 ?_
        refine z_istore (M := mX12_layBundle) (lv2 := [(4, .int ((((gi v2.2 329 1) ||| (gi v2.2 329 2)) ||| (gi v2.2 329 3)) ||| (gi v2.2 329 4))), (0, .ref 313), (1, .int x1), (2, .int x2), (3, .int x3)]) dX12_layBundle_71 (Nat.le_of_ble_eq_true rfl) rfl ?_
        refine z_iload_n dX12_layBundle_73 3 rfl ?_
        refine z_iconst (M := mX12_layBundle) (v := -1) dX12_layBundle_74 rfl ?_
        refine z_icmp_eq 108 dX12_layBundle_75 rfl (fun hc4 => ?_) (fun hc4 => ?_)
        · replace h := oT hc4 h
          refine z_lv (lv2 := [(0, .ref 313), (1, .int x1), (2, .int x2), (3, .int x3), (4, .int ((((gi v2.2 329 1) ||| (gi v2.2 329 2)) ||| (gi v2.2 329 3)) ||| (gi v2.2 329 4)))]) [1, 2, 3, 4, 0] rfl ?_
          exact t_Md_layBundle_108 hd0 ih x1 x2 x3 ((((gi v2.2 329 1) ||| (gi v2.2 329 2)) ||| (gi v2.2 329 3)) ||| (gi v2.2 329 4)) v2.2 _ h
        · replace h := oF hc4 h
          refine z_aload_n dX12_layBundle_78 1 rfl ?_
          refine z_iload dX12_layBundle_79 0 rfl ?_
          obtain ⟨v5, he5, h⟩ := obind h
          refine y_Vi (M := mX12_layBundle) (Y := mX12_priceOf) (d2 := d - 1) (As := [.int ((((gi v2.2 329 1) ||| (gi v2.2 329 2)) ||| (gi v2.2 329 3)) ||| (gi v2.2 329 4))]) (st := []) dX12_layBundle_81 mlRX12_464 cv_X12_priceOf zk_313 (ct_Md_priceOf (dle (Nat.le_of_ble_eq_true rfl) hd0) he5) (dps (Nat.le_of_ble_eq_true rfl) hd0) rfl rfl (Nat.le_of_ble_eq_true rfl) ?_
          refine z_aload_n dX12_layBundle_84 1 rfl ?_
          refine z_iload_n dX12_layBundle_85 3 rfl ?_
          obtain ⟨v6, he6, h⟩ := obind h
          refine y_Vi (M := mX12_layBundle) (Y := mX12_priceOf) (d2 := d - 1) (As := [.int x2]) (st := [.int v5]) dX12_layBundle_86 mlRX12_464 cv_X12_priceOf zk_313 (ct_Md_priceOf (dle (Nat.le_of_ble_eq_true rfl) hd0) he6) (dps (Nat.le_of_ble_eq_true rfl) hd0) rfl rfl (Nat.le_of_ble_eq_true rfl) ?_
          refine z_icmp_ne 108 dX12_layBundle_89 rfl (fun hc7 => ?_) (fun hc7 => ?_)
          · replace h := oT hc7 h
            refine z_lv (lv2 := [(0, .ref 313), (1, .int x1), (2, .int x2), (3, .int x3), (4, .int ((((gi v2.2 329 1) ||| (gi v2.2 329 2)) ||| (gi v2.2 329 3)) ||| (gi v2.2 329 4)))]) [1, 2, 3, 4, 0] rfl ?_
            exact t_Md_layBundle_108 hd0 ih x1 x2 x3 ((((gi v2.2 329 1) ||| (gi v2.2 329 2)) ||| (gi v2.2 329 3)) ||| (gi v2.2 329 4)) v2.2 _ h
          · replace h := oFn hc7 h
            refine z_iload dX12_layBundle_92 0 rfl ?_
            obtain ⟨v8, he8, h⟩ := obind h
            refine y_Si (M := mX12_layBundle) (Y := mX12_bits) (d2 := d - 1) (As := [.int ((((gi v2.2 329 1) ||| (gi v2.2 329 2)) ||| (gi v2.2 329 3)) ||| (gi v2.2 329 4))]) (st := []) dX12_layBundle_94 mlRX12_100 cv_X12_bits (ct_Md_bits (dle (Nat.le_of_ble_eq_true rfl) hd0) he8) (dps (Nat.le_of_ble_eq_true rfl) hd0) rfl rfl (Nat.le_of_ble_eq_true rfl) ?_
            refine z_iload_n dX12_layBundle_97 3 rfl ?_
            obtain ⟨v9, he9, h⟩ := obind h
            refine y_Si (M := mX12_layBundle) (Y := mX12_bits) (d2 := d - 1) (As := [.int x2]) (st := [.int v8]) dX12_layBundle_98 mlRX12_100 cv_X12_bits (ct_Md_bits (dle (Nat.le_of_ble_eq_true rfl) hd0) he9) (dps (Nat.le_of_ble_eq_true rfl) hd0) rfl rfl (Nat.le_of_ble_eq_true rfl) ?_
            refine z_icmp_ne 108 dX12_layBundle_101 rfl (fun hc10 => ?_) (fun hc10 => ?_)
            · replace h := oT hc10 h
              refine z_lv (lv2 := [(0, .ref 313), (1, .int x1), (2, .int x2), (3, .int x3), (4, .int ((((gi v2.2 329 1) ||| (gi v2.2 329 2)) ||| (gi v2.2 329 3)) ||| (gi v2.2 329 4)))]) [1, 2, 3, 4, 0] rfl ?_
              exact t_Md_layBundle_108 hd0 ih x1 x2 x3 ((((gi v2.2 329 1) ||| (gi v2.2 329 2)) ||| (gi v2.2 329 3)) ||| (gi v2.2 329 4)) v2.2 _ h
            · replace h := oFn hc10 h
              refine z_iconst (M := mX12_layBundle) (v := 1) dX12_layBundle_104 rfl ?_
              refine z_goto 109 dX12_layBundle_105 rfl ?_
              refine z_lv (lv2 := [(0, .ref 313), (1, .int x1), (2, .int x2), (3, .int x3), (4, .int ((((gi v2.2 329 1) ||| (gi v2.2 329 2)) ||| (gi v2.2 329 3)) ||| (gi v2.2 329 4)))]) [1, 2, 3, 4, 0] rfl ?_
              exact t_Md_layBundle_109 hd0 ih x1 x2 x3 ((((gi v2.2 329 1) ||| (gi v2.2 329 2)) ||| (gi v2.2 329 3)) ||| (gi v2.2 329 4)) (1 : Int32) v2.2 _ h
      · replace h := oFn hc3 h
        refine z_goto 183 dX12_layBundle_41 rfl ?_
        exact t_Md_layBundle_183 hd0 ih x1 x2 x3 v2.2 _ h
def Md_layBundle_4 : Nat → Int32 → Int32 → Nm → Option (Int32 × Nm)
  | 0, _, _, _ => none
  | f + 1, x1, x2, ν =>
    (if (gi ν 314 0) ≤ x2 then
      Md_layBundle_28 FU x1 (-1 : Int32) (0 : Int32) ν
    else
      (Md_layBundle_4 f) (x1 * (5 : Int32)) (x2 + (1 : Int32)) ν)
set_option maxRecDepth 100000 in
set_option maxHeartbeats 4000000 in
theorem t_Md_layBundle_4 {g : GG} {d : Nat} (hd0 : 6 ≤ d) : ∀ (f : Nat), ∀ (x1 : Int32) (x2 : Int32) (ν : Nm) (r : (Int32 × Nm)), Md_layBundle_4 f x1 x2 ν = some r → Z g d (0, 0) mX12_layBundle 333 0 0 4 [(0, .ref 313), (1, .int x1), (2, .int x2)] [] (zem ν) (zF g (some (.int r.1), zem r.2)) := by
  intro f
  induction f with
  | zero =>
    intro x1 x2 ν r h
    cases h
  | succ f ih =>
    intro x1 x2 ν r h
    rw [Md_layBundle_4] at h
    refine z_iload_n dX12_layBundle_4 2 rfl ?_
    refine z_aload_n dX12_layBundle_5 0 rfl ?_
    refine y_getR (M := mX12_layBundle) (r := 314) dX12_layBundle_6 zk_313 flRX12_7 fr_10_0.1 (fr_10_0.2 _) ?_
    refine z_iconst (M := mX12_layBundle) (v := 0) dX12_layBundle_9 rfl ?_
    refine y_iald (M := mX12_layBundle) (jj := 0) dX12_layBundle_10 zk_314 rfl rfl ?_
    refine z_icmp_ge 24 dX12_layBundle_11 rfl (fun hc1 => ?_) (fun hc1 => ?_)
    · replace h := oT hc1 h
      refine z_iconst (M := mX12_layBundle) (v := -1) dX12_layBundle_24 rfl ?_
      refine z_istore_n (M := mX12_layBundle) (lv2 := [(2, .int (-1 : Int32)), (0, .ref 313), (1, .int x1)]) dX12_layBundle_25 (Nat.le_of_ble_eq_true rfl) rfl ?_
      refine z_iconst (M := mX12_layBundle) (v := 0) dX12_layBundle_26 rfl ?_
      refine z_istore_n (M := mX12_layBundle) (lv2 := [(3, .int (0 : Int32)), (2, .int (-1 : Int32)), (0, .ref 313), (1, .int x1)]) dX12_layBundle_27 (Nat.le_of_ble_eq_true rfl) rfl ?_
      refine z_lv (lv2 := [(0, .ref 313), (1, .int x1), (2, .int (-1 : Int32)), (3, .int (0 : Int32))]) [2, 3, 1, 0] rfl ?_
      exact t_Md_layBundle_28 hd0 FU x1 (-1 : Int32) (0 : Int32) ν _ h
    · replace h := oF hc1 h
      refine z_iload_n dX12_layBundle_14 1 rfl ?_
      refine z_iconst (M := mX12_layBundle) (v := 5) dX12_layBundle_15 rfl ?_
      refine z_imul dX12_layBundle_16 ?_
      refine z_istore_n (M := mX12_layBundle) (lv2 := [(1, .int (x1 * (5 : Int32))), (0, .ref 313), (2, .int x2)]) dX12_layBundle_17 (Nat.le_of_ble_eq_true rfl) rfl ?_
      refine z_iinc (M := mX12_layBundle) (v := (x2 + (1 : Int32))) (lv2 := [(2, .int (x2 + (1 : Int32))), (1, .int (x1 * (5 : Int32))), (0, .ref 313)]) dX12_layBundle_18 2 rfl rfl (Nat.le_of_ble_eq_true rfl) rfl ?_
      refine z_goto 4 dX12_layBundle_21 rfl ?_
      refine z_lv (lv2 := [(0, .ref 313), (1, .int (x1 * (5 : Int32))), (2, .int (x2 + (1 : Int32)))]) [2, 1, 0] rfl ?_
      exact ih (x1 * (5 : Int32)) (x2 + (1 : Int32)) ν _ h
def Md_layBundle (ν : Nm) : Option (Int32 × Nm) :=
  Md_layBundle_4 FU (1 : Int32) (0 : Int32) ν
set_option maxRecDepth 100000 in
set_option maxHeartbeats 4000000 in
theorem t_Md_layBundle {g : GG} {d : Nat} (hd0 : 6 ≤ d) : ∀ (ν : Nm) (r : (Int32 × Nm)), Md_layBundle ν = some r → Z g d (0, 0) mX12_layBundle 333 0 0 0 [(0, .ref 313)] [] (zem ν) (zF g (some (.int r.1), zem r.2)) := by
  intro ν r h
  unfold Md_layBundle at h
  refine z_iconst (M := mX12_layBundle) (v := 1) dX12_layBundle_0 rfl ?_
  refine z_istore_n (M := mX12_layBundle) (lv2 := [(1, .int (1 : Int32)), (0, .ref 313)]) dX12_layBundle_1 (Nat.le_of_ble_eq_true rfl) rfl ?_
  refine z_iconst (M := mX12_layBundle) (v := 0) dX12_layBundle_2 rfl ?_
  refine z_istore_n (M := mX12_layBundle) (lv2 := [(2, .int (0 : Int32)), (1, .int (1 : Int32)), (0, .ref 313)]) dX12_layBundle_3 (Nat.le_of_ble_eq_true rfl) rfl ?_
  refine z_lv (lv2 := [(0, .ref 313), (1, .int (1 : Int32)), (2, .int (0 : Int32))]) [2, 1, 0] rfl ?_
  exact t_Md_layBundle_4 hd0 FU (1 : Int32) (0 : Int32) ν _ h
theorem ct_Md_layBundle {g : GG} {d : Nat} {ν : Nm} {r : (Int32 × Nm)} (hd0 : 6 ≤ d)  (h : Md_layBundle ν = some r) : Ct g d mX12_layBundle [.ref 313] (zem ν) (some (.int r.1), zem r.2) := y_entry in_X12_layBundle (Nat.le_of_ble_eq_true rfl) rfl (t_Md_layBundle hd0 ν r h)
-- FuseMinutesModel.bundle(Z)I
theorem dX12_bundle_0 : decode cX12_bundle 0 = .ok (.aload_n 0, 1) := by decide +kernel
theorem dX12_bundle_1 : decode cX12_bundle 1 = .ok (.invokevirtual 476, 3) := by decide +kernel
theorem dX12_bundle_4 : decode cX12_bundle 4 = .ok (.istore_n 2, 1) := by decide +kernel
theorem dX12_bundle_5 : decode cX12_bundle 5 = .ok (.iload_n 2, 1) := by decide +kernel
theorem dX12_bundle_6 : decode cX12_bundle 6 = .ok (.iconst (-1), 1) := by decide +kernel
theorem dX12_bundle_7 : decode cX12_bundle 7 = .ok (.if_icmp .ne 7, 3) := by decide +kernel
theorem dX12_bundle_10 : decode cX12_bundle 10 = .ok (.iconst (-1), 1) := by decide +kernel
theorem dX12_bundle_11 : decode cX12_bundle 11 = .ok (.goto 16, 3) := by decide +kernel
theorem dX12_bundle_14 : decode cX12_bundle 14 = .ok (.iload_n 1, 1) := by decide +kernel
theorem dX12_bundle_15 : decode cX12_bundle 15 = .ok (.ifCond .eq 11, 3) := by decide +kernel
theorem dX12_bundle_18 : decode cX12_bundle 18 = .ok (.aload_n 0, 1) := by decide +kernel
theorem dX12_bundle_19 : decode cX12_bundle 19 = .ok (.iload_n 2, 1) := by decide +kernel
theorem dX12_bundle_20 : decode cX12_bundle 20 = .ok (.invokevirtual 464, 3) := by decide +kernel
theorem dX12_bundle_23 : decode cX12_bundle 23 = .ok (.goto 4, 3) := by decide +kernel
theorem dX12_bundle_26 : decode cX12_bundle 26 = .ok (.iload_n 2, 1) := by decide +kernel
theorem dX12_bundle_27 : decode cX12_bundle 27 = .ok (.ireturn, 1) := by decide +kernel
def Md_bundle (x1 : Int32) (ν : Nm) : Option (Int32 × Nm) :=
  (Md_layBundle ν).bind fun v1 =>
  (if ¬ v1.1 = (-1 : Int32) then
    (if x1 = 0 then
      some (v1.1, v1.2)
    else
      (Md_priceOf v1.2 v1.1).bind fun v4 =>
      some (v4, v1.2))
  else
    some ((-1 : Int32), v1.2))
set_option maxRecDepth 100000 in
set_option maxHeartbeats 4000000 in
theorem t_Md_bundle {g : GG} {d : Nat} (hd0 : 7 ≤ d) : ∀ (x1 : Int32) (ν : Nm) (r : (Int32 × Nm)), Md_bundle x1 ν = some r → Z g d (0, 0) mX12_bundle 333 0 0 0 [(0, .ref 313), (1, .int x1)] [] (zem ν) (zF g (some (.int r.1), zem r.2)) := by
  intro x1 ν r h
  unfold Md_bundle at h
  refine z_aload_n dX12_bundle_0 0 rfl ?_
  obtain ⟨v1, he1, h⟩ := obind h
  refine y_Vi (M := mX12_bundle) (Y := mX12_layBundle) (d2 := d - 1) (As := []) (st := []) dX12_bundle_1 mlRX12_476 cv_X12_layBundle zk_313 (ct_Md_layBundle (dle (Nat.le_of_ble_eq_true rfl) hd0) he1) (dps (Nat.le_of_ble_eq_true rfl) hd0) rfl rfl (Nat.le_of_ble_eq_true rfl) ?_
  refine z_istore_n (M := mX12_bundle) (lv2 := [(2, .int v1.1), (0, .ref 313), (1, .int x1)]) dX12_bundle_4 (Nat.le_of_ble_eq_true rfl) rfl ?_
  refine z_iload_n dX12_bundle_5 0 rfl ?_
  refine z_iconst (M := mX12_bundle) (v := -1) dX12_bundle_6 rfl ?_
  refine z_icmp_ne 14 dX12_bundle_7 rfl (fun hc2 => ?_) (fun hc2 => ?_)
  · replace h := oT hc2 h
    refine z_iload_n dX12_bundle_14 2 rfl ?_
    refine z_if_eq 26 dX12_bundle_15 rfl (fun hc3 => ?_) (fun hc3 => ?_)
    · replace h := oT hc3 h
      refine z_iload_n dX12_bundle_26 0 rfl ?_
      cases h
      exact z_iret dX12_bundle_27 rfl
    · replace h := oF hc3 h
      refine z_aload_n dX12_bundle_18 1 rfl ?_
      refine z_iload_n dX12_bundle_19 0 rfl ?_
      obtain ⟨v4, he4, h⟩ := obind h
      refine y_Vi (M := mX12_bundle) (Y := mX12_priceOf) (d2 := d - 1) (As := [.int v1.1]) (st := []) dX12_bundle_20 mlRX12_464 cv_X12_priceOf zk_313 (ct_Md_priceOf (dle (Nat.le_of_ble_eq_true rfl) hd0) he4) (dps (Nat.le_of_ble_eq_true rfl) hd0) rfl rfl (Nat.le_of_ble_eq_true rfl) ?_
      refine z_goto 27 dX12_bundle_23 rfl ?_
      cases h
      exact z_iret dX12_bundle_27 rfl
  · replace h := oFn hc2 h
    refine z_iconst (M := mX12_bundle) (v := -1) dX12_bundle_10 rfl ?_
    refine z_goto 27 dX12_bundle_11 rfl ?_
    cases h
    exact z_iret dX12_bundle_27 rfl
theorem ct_Md_bundle {g : GG} {d : Nat} {x1 : Int32} {ν : Nm} {r : (Int32 × Nm)} (hd0 : 7 ≤ d)  (h : Md_bundle x1 ν = some r) : Ct g d mX12_bundle [.ref 313, .int x1] (zem ν) (some (.int r.1), zem r.2) := y_entry in_X12_bundle (Nat.le_of_ble_eq_true rfl) rfl (t_Md_bundle hd0 x1 ν r h)
-- FuseMinutesModel.part(I)I
theorem dX12_part_0 : decode cX12_part 0 = .ok (.iload_n 1, 1) := by decide +kernel
theorem dX12_part_1 : decode cX12_part 1 = .ok (.iconst 0, 1) := by decide +kernel
theorem dX12_part_2 : decode cX12_part 2 = .ok (.aload_n 0, 1) := by decide +kernel
theorem dX12_part_3 : decode cX12_part 3 = .ok (.getfield 7, 3) := by decide +kernel
theorem dX12_part_6 : decode cX12_part 6 = .ok (.iconst 5, 1) := by decide +kernel
theorem dX12_part_7 : decode cX12_part 7 = .ok (.iaload, 1) := by decide +kernel
theorem dX12_part_8 : decode cX12_part 8 = .ok (.iconst 1, 1) := by decide +kernel
theorem dX12_part_9 : decode cX12_part 9 = .ok (.isub, 1) := by decide +kernel
theorem dX12_part_10 : decode cX12_part 10 = .ok (.invokestatic 88, 3) := by decide +kernel
theorem dX12_part_13 : decode cX12_part 13 = .ok (.ifCond .eq 11, 3) := by decide +kernel
theorem dX12_part_16 : decode cX12_part 16 = .ok (.aload_n 0, 1) := by decide +kernel
theorem dX12_part_17 : decode cX12_part 17 = .ok (.invokevirtual 476, 3) := by decide +kernel
theorem dX12_part_20 : decode cX12_part 20 = .ok (.iconst (-1), 1) := by decide +kernel
theorem dX12_part_21 : decode cX12_part 21 = .ok (.if_icmp .ne 5, 3) := by decide +kernel
theorem dX12_part_24 : decode cX12_part 24 = .ok (.iconst (-1), 1) := by decide +kernel
theorem dX12_part_25 : decode cX12_part 25 = .ok (.ireturn, 1) := by decide +kernel
theorem dX12_part_26 : decode cX12_part 26 = .ok (.aload_n 0, 1) := by decide +kernel
theorem dX12_part_27 : decode cX12_part 27 = .ok (.getfield 72, 3) := by decide +kernel
theorem dX12_part_30 : decode cX12_part 30 = .ok (.iload_n 1, 1) := by decide +kernel
theorem dX12_part_31 : decode cX12_part 31 = .ok (.iconst 1, 1) := by decide +kernel
theorem dX12_part_32 : decode cX12_part 32 = .ok (.iadd, 1) := by decide +kernel
theorem dX12_part_33 : decode cX12_part 33 = .ok (.iaload, 1) := by decide +kernel
theorem dX12_part_34 : decode cX12_part 34 = .ok (.ireturn, 1) := by decide +kernel
def Md_part (x1 : Int32) (ν : Nm) : Option (Int32 × Nm) :=
  (Md_isIn x1 (0 : Int32) ((gi ν 314 5) - (1 : Int32))).bind fun v1 =>
  (if (b2i v1) = 0 then
    some ((-1 : Int32), ν)
  else
    (Md_layBundle ν).bind fun v3 =>
    (if ¬ v3.1 = (-1 : Int32) then
      if inb (x1 + (1 : Int32)) 5 then
      some ((gi v3.2 330 (x1 + (1 : Int32)).toNatClampNeg), v3.2)
      else none
    else
      some ((-1 : Int32), v3.2)))
set_option maxRecDepth 100000 in
set_option maxHeartbeats 4000000 in
theorem t_Md_part {g : GG} {d : Nat} (hd0 : 7 ≤ d) : ∀ (x1 : Int32) (ν : Nm) (r : (Int32 × Nm)), Md_part x1 ν = some r → Z g d (0, 0) mX12_part 333 0 0 0 [(0, .ref 313), (1, .int x1)] [] (zem ν) (zF g (some (.int r.1), zem r.2)) := by
  intro x1 ν r h
  unfold Md_part at h
  refine z_iload_n dX12_part_0 1 rfl ?_
  refine z_iconst (M := mX12_part) (v := 0) dX12_part_1 rfl ?_
  refine z_aload_n dX12_part_2 0 rfl ?_
  refine y_getR (M := mX12_part) (r := 314) dX12_part_3 zk_313 flRX12_7 fr_10_0.1 (fr_10_0.2 _) ?_
  refine z_iconst (M := mX12_part) (v := 5) dX12_part_6 rfl ?_
  refine y_iald (M := mX12_part) (jj := 5) dX12_part_7 zk_314 rfl rfl ?_
  refine z_iconst (M := mX12_part) (v := 1) dX12_part_8 rfl ?_
  refine z_isub dX12_part_9 ?_
  obtain ⟨v1, he1, h⟩ := obind h
  refine y_Si (M := mX12_part) (Y := mX12_isIn) (d2 := d - 1) (As := [.int x1, .int (0 : Int32), .int ((gi ν 314 5) - (1 : Int32))]) (st := []) dX12_part_10 mlRX12_88 cv_X12_isIn (ct_Md_isIn (dle (Nat.le_of_ble_eq_true rfl) hd0) he1) (dps (Nat.le_of_ble_eq_true rfl) hd0) rfl rfl (Nat.le_of_ble_eq_true rfl) ?_
  refine z_if_eq 24 dX12_part_13 rfl (fun hc2 => ?_) (fun hc2 => ?_)
  · replace h := oT hc2 h
    refine z_iconst (M := mX12_part) (v := -1) dX12_part_24 rfl ?_
    cases h
    exact z_iret dX12_part_25 rfl
  · replace h := oF hc2 h
    refine z_aload_n dX12_part_16 0 rfl ?_
    obtain ⟨v3, he3, h⟩ := obind h
    refine y_Vi (M := mX12_part) (Y := mX12_layBundle) (d2 := d - 1) (As := []) (st := []) dX12_part_17 mlRX12_476 cv_X12_layBundle zk_313 (ct_Md_layBundle (dle (Nat.le_of_ble_eq_true rfl) hd0) he3) (dps (Nat.le_of_ble_eq_true rfl) hd0) rfl rfl (Nat.le_of_ble_eq_true rfl) ?_
    refine z_iconst (M := mX12_part) (v := -1) dX12_part_20 rfl ?_
    refine z_icmp_ne 26 dX12_part_21 rfl (fun hc4 => ?_) (fun hc4 => ?_)
    · replace h := oT hc4 h
      refine z_aload_n dX12_part_26 0 rfl ?_
      refine y_getR (M := mX12_part) (r := 330) dX12_part_27 zk_313 flRX12_72 fr_10_34.1 (fr_10_34.2 _) ?_
      refine z_iload_n dX12_part_30 1 rfl ?_
      refine z_iconst (M := mX12_part) (v := 1) dX12_part_31 rfl ?_
      refine z_iadd dX12_part_32 ?_
      obtain ⟨hi5, h⟩ := oif h
      refine y_iald (M := mX12_part) (jj := (x1 + (1 : Int32)).toNatClampNeg) dX12_part_33 zk_330 hi5 rfl ?_
      cases h
      exact z_iret dX12_part_34 rfl
    · replace h := oFn hc4 h
      refine z_iconst (M := mX12_part) (v := -1) dX12_part_24 rfl ?_
      cases h
      exact z_iret dX12_part_25 rfl
theorem ct_Md_part {g : GG} {d : Nat} {x1 : Int32} {ν : Nm} {r : (Int32 × Nm)} (hd0 : 7 ≤ d)  (h : Md_part x1 ν = some r) : Ct g d mX12_part [.ref 313, .int x1] (zem ν) (some (.int r.1), zem r.2) := y_entry in_X12_part (Nat.le_of_ble_eq_true rfl) rfl (t_Md_part hd0 x1 ν r h)
-- FuseMinutesModel.heldBy(II)I
theorem dX12_heldBy_0 : decode cX12_heldBy 0 = .ok (.iconst 0, 1) := by decide +kernel
theorem dX12_heldBy_1 : decode cX12_heldBy 1 = .ok (.istore_n 2, 1) := by decide +kernel
theorem dX12_heldBy_2 : decode cX12_heldBy 2 = .ok (.iconst 0, 1) := by decide +kernel
theorem dX12_heldBy_3 : decode cX12_heldBy 3 = .ok (.istore_n 3, 1) := by decide +kernel
theorem dX12_heldBy_4 : decode cX12_heldBy 4 = .ok (.iload_n 3, 1) := by decide +kernel
theorem dX12_heldBy_5 : decode cX12_heldBy 5 = .ok (.iconst 4, 1) := by decide +kernel
theorem dX12_heldBy_6 : decode cX12_heldBy 6 = .ok (.if_icmp .ge 30, 3) := by decide +kernel
theorem dX12_heldBy_9 : decode cX12_heldBy 9 = .ok (.iload_n 2, 1) := by decide +kernel
theorem dX12_heldBy_10 : decode cX12_heldBy 10 = .ok (.iload_n 0, 1) := by decide +kernel
theorem dX12_heldBy_11 : decode cX12_heldBy 11 = .ok (.iconst 2, 1) := by decide +kernel
theorem dX12_heldBy_12 : decode cX12_heldBy 12 = .ok (.iload_n 3, 1) := by decide +kernel
theorem dX12_heldBy_13 : decode cX12_heldBy 13 = .ok (.imul, 1) := by decide +kernel
theorem dX12_heldBy_14 : decode cX12_heldBy 14 = .ok (.ishr, 1) := by decide +kernel
theorem dX12_heldBy_15 : decode cX12_heldBy 15 = .ok (.iconst 3, 1) := by decide +kernel
theorem dX12_heldBy_16 : decode cX12_heldBy 16 = .ok (.iand, 1) := by decide +kernel
theorem dX12_heldBy_17 : decode cX12_heldBy 17 = .ok (.iload_n 1, 1) := by decide +kernel
theorem dX12_heldBy_18 : decode cX12_heldBy 18 = .ok (.if_icmp .ne 9, 3) := by decide +kernel
theorem dX12_heldBy_21 : decode cX12_heldBy 21 = .ok (.iconst 1, 1) := by decide +kernel
theorem dX12_heldBy_22 : decode cX12_heldBy 22 = .ok (.iload_n 3, 1) := by decide +kernel
theorem dX12_heldBy_23 : decode cX12_heldBy 23 = .ok (.ishl, 1) := by decide +kernel
theorem dX12_heldBy_24 : decode cX12_heldBy 24 = .ok (.goto 4, 3) := by decide +kernel
theorem dX12_heldBy_27 : decode cX12_heldBy 27 = .ok (.iconst 0, 1) := by decide +kernel
theorem dX12_heldBy_28 : decode cX12_heldBy 28 = .ok (.ior, 1) := by decide +kernel
theorem dX12_heldBy_29 : decode cX12_heldBy 29 = .ok (.istore_n 2, 1) := by decide +kernel
theorem dX12_heldBy_30 : decode cX12_heldBy 30 = .ok (.iinc 3 1, 3) := by decide +kernel
theorem dX12_heldBy_33 : decode cX12_heldBy 33 = .ok (.goto (-29), 3) := by decide +kernel
theorem dX12_heldBy_36 : decode cX12_heldBy 36 = .ok (.iload_n 2, 1) := by decide +kernel
theorem dX12_heldBy_37 : decode cX12_heldBy 37 = .ok (.ireturn, 1) := by decide +kernel
def Md_heldBy_28 (k4 : Int32 → Int32 → Int32 → Int32 → Option Int32) (x0 : Int32) (x1 : Int32) (x3 : Int32) (s0 : Int32) (s1 : Int32) : Option Int32 :=
  k4 x0 x1 (s1 ||| s0) (x3 + (1 : Int32))
set_option maxRecDepth 100000 in
set_option maxHeartbeats 4000000 in
theorem t_Md_heldBy_28 {g : GG} {d : Nat} {μ : Mm} (hd0 : 1 ≤ d) {k4 : Int32 → Int32 → Int32 → Int32 → Option Int32} (hk4 : ∀ (x0 : Int32) (x1 : Int32) (x2 : Int32) (x3 : Int32) (r : Int32), k4 x0 x1 x2 x3 = some r → Z g d (0, 0) mX12_heldBy 333 0 0 4 [(0, .int x0), (1, .int x1), (2, .int x2), (3, .int x3)] [] μ (zF g (some (.int r), μ))) : ∀ (x0 : Int32) (x1 : Int32) (x3 : Int32) (s0 : Int32) (s1 : Int32) (r : Int32), Md_heldBy_28 k4 x0 x1 x3 s0 s1 = some r → Z g d (0, 0) mX12_heldBy 333 0 0 28 [(0, .int x0), (1, .int x1), (3, .int x3)] [.int s0, .int s1] μ (zF g (some (.int r), μ)) := by
  intro x0 x1 x3 s0 s1 r h
  unfold Md_heldBy_28 at h
  refine z_ior dX12_heldBy_28 ?_
  refine z_istore_n (M := mX12_heldBy) (lv2 := [(2, .int (s1 ||| s0)), (0, .int x0), (1, .int x1), (3, .int x3)]) dX12_heldBy_29 (Nat.le_of_ble_eq_true rfl) rfl ?_
  refine z_iinc (M := mX12_heldBy) (v := (x3 + (1 : Int32))) (lv2 := [(3, .int (x3 + (1 : Int32))), (2, .int (s1 ||| s0)), (0, .int x0), (1, .int x1)]) dX12_heldBy_30 3 rfl rfl (Nat.le_of_ble_eq_true rfl) rfl ?_
  refine z_goto 4 dX12_heldBy_33 rfl ?_
  refine z_lv (lv2 := [(0, .int x0), (1, .int x1), (2, .int (s1 ||| s0)), (3, .int (x3 + (1 : Int32)))]) [2, 3, 1, 0] rfl ?_
  exact hk4 x0 x1 (s1 ||| s0) (x3 + (1 : Int32)) _ h
def Md_heldBy_4 : Nat → Int32 → Int32 → Int32 → Int32 → Option Int32
  | 0, _, _, _, _ => none
  | f + 1, x0, x1, x2, x3 =>
    (if (4 : Int32) ≤ x3 then
      some x2
    else
      (if ¬ ((x0 >>> (((2 : Int32) * x3) &&& 31)) &&& (3 : Int32)) = x1 then
        Md_heldBy_28 (Md_heldBy_4 f) x0 x1 x3 (0 : Int32) x2
      else
        Md_heldBy_28 (Md_heldBy_4 f) x0 x1 x3 ((1 : Int32) <<< (x3 &&& 31)) x2))
set_option maxRecDepth 100000 in
set_option maxHeartbeats 4000000 in
theorem t_Md_heldBy_4 {g : GG} {d : Nat} {μ : Mm} (hd0 : 1 ≤ d) : ∀ (f : Nat), ∀ (x0 : Int32) (x1 : Int32) (x2 : Int32) (x3 : Int32) (r : Int32), Md_heldBy_4 f x0 x1 x2 x3 = some r → Z g d (0, 0) mX12_heldBy 333 0 0 4 [(0, .int x0), (1, .int x1), (2, .int x2), (3, .int x3)] [] μ (zF g (some (.int r), μ)) := by
  intro f
  induction f with
  | zero =>
    intro x0 x1 x2 x3 r h
    cases h
  | succ f ih =>
    intro x0 x1 x2 x3 r h
    rw [Md_heldBy_4] at h
    refine z_iload_n dX12_heldBy_4 3 rfl ?_
    refine z_iconst (M := mX12_heldBy) (v := 4) dX12_heldBy_5 rfl ?_
    refine z_icmp_ge 36 dX12_heldBy_6 rfl (fun hc1 => ?_) (fun hc1 => ?_)
    · replace h := oT hc1 h
      refine z_iload_n dX12_heldBy_36 2 rfl ?_
      cases h
      exact z_iret dX12_heldBy_37 rfl
    · replace h := oF hc1 h
      refine z_iload_n dX12_heldBy_9 2 rfl ?_
      refine z_iload_n dX12_heldBy_10 0 rfl ?_
      refine z_iconst (M := mX12_heldBy) (v := 2) dX12_heldBy_11 rfl ?_
      refine z_iload_n dX12_heldBy_12 3 rfl ?_
      refine z_imul dX12_heldBy_13 ?_
      refine z_ishr dX12_heldBy_14 ?_
      refine z_iconst (M := mX12_heldBy) (v := 3) dX12_heldBy_15 rfl ?_
      refine z_iand dX12_heldBy_16 ?_
      refine z_iload_n dX12_heldBy_17 1 rfl ?_
      refine z_icmp_ne 27 dX12_heldBy_18 rfl (fun hc2 => ?_) (fun hc2 => ?_)
      · replace h := oT hc2 h
        refine z_iconst (M := mX12_heldBy) (v := 0) dX12_heldBy_27 rfl ?_
        refine z_lv (lv2 := [(0, .int x0), (1, .int x1), (3, .int x3)]) [0, 1, 3] rfl ?_
        exact t_Md_heldBy_28 hd0 ih x0 x1 x3 (0 : Int32) x2 _ h
      · replace h := oFn hc2 h
        refine z_iconst (M := mX12_heldBy) (v := 1) dX12_heldBy_21 rfl ?_
        refine z_iload_n dX12_heldBy_22 3 rfl ?_
        refine z_ishl dX12_heldBy_23 ?_
        refine z_goto 28 dX12_heldBy_24 rfl ?_
        refine z_lv (lv2 := [(0, .int x0), (1, .int x1), (3, .int x3)]) [0, 1, 3] rfl ?_
        exact t_Md_heldBy_28 hd0 ih x0 x1 x3 ((1 : Int32) <<< (x3 &&& 31)) x2 _ h
def Md_heldBy (x0 : Int32) (x1 : Int32) : Option Int32 :=
  Md_heldBy_4 FU x0 x1 (0 : Int32) (0 : Int32)
set_option maxRecDepth 100000 in
set_option maxHeartbeats 4000000 in
theorem t_Md_heldBy {g : GG} {d : Nat} {μ : Mm} (hd0 : 1 ≤ d) : ∀ (x0 : Int32) (x1 : Int32) (r : Int32), Md_heldBy x0 x1 = some r → Z g d (0, 0) mX12_heldBy 333 0 0 0 [(0, .int x0), (1, .int x1)] [] μ (zF g (some (.int r), μ)) := by
  intro x0 x1 r h
  unfold Md_heldBy at h
  refine z_iconst (M := mX12_heldBy) (v := 0) dX12_heldBy_0 rfl ?_
  refine z_istore_n (M := mX12_heldBy) (lv2 := [(2, .int (0 : Int32)), (0, .int x0), (1, .int x1)]) dX12_heldBy_1 (Nat.le_of_ble_eq_true rfl) rfl ?_
  refine z_iconst (M := mX12_heldBy) (v := 0) dX12_heldBy_2 rfl ?_
  refine z_istore_n (M := mX12_heldBy) (lv2 := [(3, .int (0 : Int32)), (2, .int (0 : Int32)), (0, .int x0), (1, .int x1)]) dX12_heldBy_3 (Nat.le_of_ble_eq_true rfl) rfl ?_
  refine z_lv (lv2 := [(0, .int x0), (1, .int x1), (2, .int (0 : Int32)), (3, .int (0 : Int32))]) [2, 3, 1, 0] rfl ?_
  exact t_Md_heldBy_4 hd0 FU x0 x1 (0 : Int32) (0 : Int32) _ h
theorem ct_Md_heldBy {g : GG} {d : Nat} {x0 : Int32} {x1 : Int32} {μ : Mm} {r : Int32} (hd0 : 1 ≤ d)  (h : Md_heldBy x0 x1 = some r) : Ct g d mX12_heldBy [.int x0, .int x1] μ (some (.int r), μ) := y_entry in_X12_heldBy (Nat.le_of_ble_eq_true rfl) rfl (t_Md_heldBy hd0 x0 x1 r h)
-- FuseMinutesModel.turned(I)I
theorem dX12_turned_0 : decode cX12_turned 0 = .ok (.iconst 0, 1) := by decide +kernel
theorem dX12_turned_1 : decode cX12_turned 1 = .ok (.istore_n 1, 1) := by decide +kernel
theorem dX12_turned_2 : decode cX12_turned 2 = .ok (.iconst 0, 1) := by decide +kernel
theorem dX12_turned_3 : decode cX12_turned 3 = .ok (.istore_n 2, 1) := by decide +kernel
theorem dX12_turned_4 : decode cX12_turned 4 = .ok (.iload_n 2, 1) := by decide +kernel
theorem dX12_turned_5 : decode cX12_turned 5 = .ok (.iconst 4, 1) := by decide +kernel
theorem dX12_turned_6 : decode cX12_turned 6 = .ok (.if_icmp .ge 35, 3) := by decide +kernel
theorem dX12_turned_9 : decode cX12_turned 9 = .ok (.iload_n 0, 1) := by decide +kernel
theorem dX12_turned_10 : decode cX12_turned 10 = .ok (.iconst 2, 1) := by decide +kernel
theorem dX12_turned_11 : decode cX12_turned 11 = .ok (.iload_n 2, 1) := by decide +kernel
theorem dX12_turned_12 : decode cX12_turned 12 = .ok (.imul, 1) := by decide +kernel
theorem dX12_turned_13 : decode cX12_turned 13 = .ok (.ishr, 1) := by decide +kernel
theorem dX12_turned_14 : decode cX12_turned 14 = .ok (.iconst 3, 1) := by decide +kernel
theorem dX12_turned_15 : decode cX12_turned 15 = .ok (.iand, 1) := by decide +kernel
theorem dX12_turned_16 : decode cX12_turned 16 = .ok (.istore_n 3, 1) := by decide +kernel
theorem dX12_turned_17 : decode cX12_turned 17 = .ok (.iload_n 1, 1) := by decide +kernel
theorem dX12_turned_18 : decode cX12_turned 18 = .ok (.iload_n 3, 1) := by decide +kernel
theorem dX12_turned_19 : decode cX12_turned 19 = .ok (.ifCond .ne 7, 3) := by decide +kernel
theorem dX12_turned_22 : decode cX12_turned 22 = .ok (.iconst 0, 1) := by decide +kernel
theorem dX12_turned_23 : decode cX12_turned 23 = .ok (.goto 6, 3) := by decide +kernel
theorem dX12_turned_26 : decode cX12_turned 26 = .ok (.iconst 3, 1) := by decide +kernel
theorem dX12_turned_27 : decode cX12_turned 27 = .ok (.iload_n 3, 1) := by decide +kernel
theorem dX12_turned_28 : decode cX12_turned 28 = .ok (.isub, 1) := by decide +kernel
theorem dX12_turned_29 : decode cX12_turned 29 = .ok (.iconst 2, 1) := by decide +kernel
theorem dX12_turned_30 : decode cX12_turned 30 = .ok (.iload_n 2, 1) := by decide +kernel
theorem dX12_turned_31 : decode cX12_turned 31 = .ok (.imul, 1) := by decide +kernel
theorem dX12_turned_32 : decode cX12_turned 32 = .ok (.ishl, 1) := by decide +kernel
theorem dX12_turned_33 : decode cX12_turned 33 = .ok (.ior, 1) := by decide +kernel
theorem dX12_turned_34 : decode cX12_turned 34 = .ok (.istore_n 1, 1) := by decide +kernel
theorem dX12_turned_35 : decode cX12_turned 35 = .ok (.iinc 2 1, 3) := by decide +kernel
theorem dX12_turned_38 : decode cX12_turned 38 = .ok (.goto (-34), 3) := by decide +kernel
theorem dX12_turned_41 : decode cX12_turned 41 = .ok (.iload_n 1, 1) := by decide +kernel
theorem dX12_turned_42 : decode cX12_turned 42 = .ok (.ireturn, 1) := by decide +kernel
def Md_turned_29 (k4 : Int32 → Int32 → Int32 → Option Int32) (x0 : Int32) (x2 : Int32) (s0 : Int32) (s1 : Int32) : Option Int32 :=
  k4 x0 (s1 ||| (s0 <<< (((2 : Int32) * x2) &&& 31))) (x2 + (1 : Int32))
set_option maxRecDepth 100000 in
set_option maxHeartbeats 4000000 in
theorem t_Md_turned_29 {g : GG} {d : Nat} {μ : Mm} (hd0 : 1 ≤ d) {k4 : Int32 → Int32 → Int32 → Option Int32} (hk4 : ∀ (x0 : Int32) (x1 : Int32) (x2 : Int32) (r : Int32), k4 x0 x1 x2 = some r → Z g d (0, 0) mX12_turned 333 0 0 4 [(0, .int x0), (1, .int x1), (2, .int x2)] [] μ (zF g (some (.int r), μ))) : ∀ (x0 : Int32) (x2 : Int32) (s0 : Int32) (s1 : Int32) (r : Int32), Md_turned_29 k4 x0 x2 s0 s1 = some r → Z g d (0, 0) mX12_turned 333 0 0 29 [(0, .int x0), (2, .int x2)] [.int s0, .int s1] μ (zF g (some (.int r), μ)) := by
  intro x0 x2 s0 s1 r h
  unfold Md_turned_29 at h
  refine z_iconst (M := mX12_turned) (v := 2) dX12_turned_29 rfl ?_
  refine z_iload_n dX12_turned_30 1 rfl ?_
  refine z_imul dX12_turned_31 ?_
  refine z_ishl dX12_turned_32 ?_
  refine z_ior dX12_turned_33 ?_
  refine z_istore_n (M := mX12_turned) (lv2 := [(1, .int (s1 ||| (s0 <<< (((2 : Int32) * x2) &&& 31)))), (0, .int x0), (2, .int x2)]) dX12_turned_34 (Nat.le_of_ble_eq_true rfl) rfl ?_
  refine z_iinc (M := mX12_turned) (v := (x2 + (1 : Int32))) (lv2 := [(2, .int (x2 + (1 : Int32))), (1, .int (s1 ||| (s0 <<< (((2 : Int32) * x2) &&& 31)))), (0, .int x0)]) dX12_turned_35 2 rfl rfl (Nat.le_of_ble_eq_true rfl) rfl ?_
  refine z_goto 4 dX12_turned_38 rfl ?_
  refine z_lv (lv2 := [(0, .int x0), (1, .int (s1 ||| (s0 <<< (((2 : Int32) * x2) &&& 31)))), (2, .int (x2 + (1 : Int32)))]) [2, 1, 0] rfl ?_
  exact hk4 x0 (s1 ||| (s0 <<< (((2 : Int32) * x2) &&& 31))) (x2 + (1 : Int32)) _ h
def Md_turned_4 : Nat → Int32 → Int32 → Int32 → Option Int32
  | 0, _, _, _ => none
  | f + 1, x0, x1, x2 =>
    (if (4 : Int32) ≤ x2 then
      some x1
    else
      (if ¬ ((x0 >>> (((2 : Int32) * x2) &&& 31)) &&& (3 : Int32)) = 0 then
        Md_turned_29 (Md_turned_4 f) x0 x2 ((3 : Int32) - ((x0 >>> (((2 : Int32) * x2) &&& 31)) &&& (3 : Int32))) x1
      else
        Md_turned_29 (Md_turned_4 f) x0 x2 (0 : Int32) x1))
set_option maxRecDepth 100000 in
set_option maxHeartbeats 4000000 in
theorem t_Md_turned_4 {g : GG} {d : Nat} {μ : Mm} (hd0 : 1 ≤ d) : ∀ (f : Nat), ∀ (x0 : Int32) (x1 : Int32) (x2 : Int32) (r : Int32), Md_turned_4 f x0 x1 x2 = some r → Z g d (0, 0) mX12_turned 333 0 0 4 [(0, .int x0), (1, .int x1), (2, .int x2)] [] μ (zF g (some (.int r), μ)) := by
  intro f
  induction f with
  | zero =>
    intro x0 x1 x2 r h
    cases h
  | succ f ih =>
    intro x0 x1 x2 r h
    rw [Md_turned_4] at h
    refine z_iload_n dX12_turned_4 2 rfl ?_
    refine z_iconst (M := mX12_turned) (v := 4) dX12_turned_5 rfl ?_
    refine z_icmp_ge 41 dX12_turned_6 rfl (fun hc1 => ?_) (fun hc1 => ?_)
    · replace h := oT hc1 h
      refine z_iload_n dX12_turned_41 1 rfl ?_
      cases h
      exact z_iret dX12_turned_42 rfl
    · replace h := oF hc1 h
      refine z_iload_n dX12_turned_9 0 rfl ?_
      refine z_iconst (M := mX12_turned) (v := 2) dX12_turned_10 rfl ?_
      refine z_iload_n dX12_turned_11 2 rfl ?_
      refine z_imul dX12_turned_12 ?_
      refine z_ishr dX12_turned_13 ?_
      refine z_iconst (M := mX12_turned) (v := 3) dX12_turned_14 rfl ?_
      refine z_iand dX12_turned_15 ?_
      refine z_istore_n (M := mX12_turned) (lv2 := [(3, .int ((x0 >>> (((2 : Int32) * x2) &&& 31)) &&& (3 : Int32))), (0, .int x0), (1, .int x1), (2, .int x2)]) dX12_turned_16 (Nat.le_of_ble_eq_true rfl) rfl ?_
      refine z_iload_n dX12_turned_17 2 rfl ?_
      refine z_iload_n dX12_turned_18 0 rfl ?_
      refine z_if_ne 26 dX12_turned_19 rfl (fun hc2 => ?_) (fun hc2 => ?_)
      · replace h := oT hc2 h
        refine z_iconst (M := mX12_turned) (v := 3) dX12_turned_26 rfl ?_
        refine z_iload_n dX12_turned_27 0 rfl ?_
        refine z_isub dX12_turned_28 ?_
        refine z_lv (lv2 := [(0, .int x0), (2, .int x2)]) [1, 3] rfl ?_
        exact t_Md_turned_29 hd0 ih x0 x2 ((3 : Int32) - ((x0 >>> (((2 : Int32) * x2) &&& 31)) &&& (3 : Int32))) x1 _ h
      · replace h := oFn hc2 h
        refine z_iconst (M := mX12_turned) (v := 0) dX12_turned_22 rfl ?_
        refine z_goto 29 dX12_turned_23 rfl ?_
        refine z_lv (lv2 := [(0, .int x0), (2, .int x2)]) [1, 3] rfl ?_
        exact t_Md_turned_29 hd0 ih x0 x2 (0 : Int32) x1 _ h
def Md_turned (x0 : Int32) : Option Int32 :=
  Md_turned_4 FU x0 (0 : Int32) (0 : Int32)
set_option maxRecDepth 100000 in
set_option maxHeartbeats 4000000 in
theorem t_Md_turned {g : GG} {d : Nat} {μ : Mm} (hd0 : 1 ≤ d) : ∀ (x0 : Int32) (r : Int32), Md_turned x0 = some r → Z g d (0, 0) mX12_turned 333 0 0 0 [(0, .int x0)] [] μ (zF g (some (.int r), μ)) := by
  intro x0 r h
  unfold Md_turned at h
  refine z_iconst (M := mX12_turned) (v := 0) dX12_turned_0 rfl ?_
  refine z_istore_n (M := mX12_turned) (lv2 := [(1, .int (0 : Int32)), (0, .int x0)]) dX12_turned_1 (Nat.le_of_ble_eq_true rfl) rfl ?_
  refine z_iconst (M := mX12_turned) (v := 0) dX12_turned_2 rfl ?_
  refine z_istore_n (M := mX12_turned) (lv2 := [(2, .int (0 : Int32)), (1, .int (0 : Int32)), (0, .int x0)]) dX12_turned_3 (Nat.le_of_ble_eq_true rfl) rfl ?_
  refine z_lv (lv2 := [(0, .int x0), (1, .int (0 : Int32)), (2, .int (0 : Int32))]) [2, 1, 0] rfl ?_
  exact t_Md_turned_4 hd0 FU x0 (0 : Int32) (0 : Int32) _ h
theorem ct_Md_turned {g : GG} {d : Nat} {x0 : Int32} {μ : Mm} {r : Int32} (hd0 : 1 ≤ d)  (h : Md_turned x0 = some r) : Ct g d mX12_turned [.int x0] μ (some (.int r), μ) := y_entry in_X12_turned (Nat.le_of_ble_eq_true rfl) rfl (t_Md_turned hd0 x0 r h)
-- FuseMinutesModel.takenBy(III[I)I
theorem dX12_takenBy_0 : decode cX12_takenBy 0 = .ok (.iload_n 1, 1) := by decide +kernel
theorem dX12_takenBy_1 : decode cX12_takenBy 1 = .ok (.iconst 1, 1) := by decide +kernel
theorem dX12_takenBy_2 : decode cX12_takenBy 2 = .ok (.iconst 2, 1) := by decide +kernel
theorem dX12_takenBy_3 : decode cX12_takenBy 3 = .ok (.iload_n 2, 1) := by decide +kernel
theorem dX12_takenBy_4 : decode cX12_takenBy 4 = .ok (.imul, 1) := by decide +kernel
theorem dX12_takenBy_5 : decode cX12_takenBy 5 = .ok (.ishl, 1) := by decide +kernel
theorem dX12_takenBy_6 : decode cX12_takenBy 6 = .ok (.ior, 1) := by decide +kernel
theorem dX12_takenBy_7 : decode cX12_takenBy 7 = .ok (.istore 5, 2) := by decide +kernel
theorem dX12_takenBy_9 : decode cX12_takenBy 9 = .ok (.aload_n 0, 1) := by decide +kernel
theorem dX12_takenBy_10 : decode cX12_takenBy 10 = .ok (.iload 5, 2) := by decide +kernel
theorem dX12_takenBy_12 : decode cX12_takenBy 12 = .ok (.iconst 1, 1) := by decide +kernel
theorem dX12_takenBy_13 : decode cX12_takenBy 13 = .ok (.invokestatic 479, 3) := by decide +kernel
theorem dX12_takenBy_16 : decode cX12_takenBy 16 = .ok (.iload_n 3, 1) := by decide +kernel
theorem dX12_takenBy_17 : decode cX12_takenBy 17 = .ok (.invokevirtual 443, 3) := by decide +kernel
theorem dX12_takenBy_20 : decode cX12_takenBy 20 = .ok (.ifCond .eq 7, 3) := by decide +kernel
theorem dX12_takenBy_23 : decode cX12_takenBy 23 = .ok (.iconst 1, 1) := by decide +kernel
theorem dX12_takenBy_24 : decode cX12_takenBy 24 = .ok (.goto 12, 3) := by decide +kernel
theorem dX12_takenBy_27 : decode cX12_takenBy 27 = .ok (.aload 4, 2) := by decide +kernel
theorem dX12_takenBy_29 : decode cX12_takenBy 29 = .ok (.iload 5, 2) := by decide +kernel
theorem dX12_takenBy_31 : decode cX12_takenBy 31 = .ok (.invokestatic 482, 3) := by decide +kernel
theorem dX12_takenBy_34 : decode cX12_takenBy 34 = .ok (.iaload, 1) := by decide +kernel
theorem dX12_takenBy_35 : decode cX12_takenBy 35 = .ok (.ineg, 1) := by decide +kernel
theorem dX12_takenBy_36 : decode cX12_takenBy 36 = .ok (.ireturn, 1) := by decide +kernel
def Md_takenBy (x1 : Int32) (x2 : Int32) (x3 : Int32) (x4 : Nat) (ν : Nm) : Option (Int32 × Nm) :=
  (Md_heldBy (x1 ||| ((1 : Int32) <<< (((2 : Int32) * x2) &&& 31))) (1 : Int32)).bind fun v1 =>
  (Md_isGiven v1 x3 ν).bind fun v2 =>
  (if (b2i v2.1) = 0 then
    (Md_turned (x1 ||| ((1 : Int32) <<< (((2 : Int32) * x2) &&& 31)))).bind fun v4 =>
    if inb v4 256 then
    some ((-(gi v2.2 x4 v4.toNatClampNeg)), v2.2)
    else none
  else
    some ((1 : Int32), v2.2))
set_option maxRecDepth 100000 in
set_option maxHeartbeats 4000000 in
theorem t_Md_takenBy {g : GG} {d : Nat} (hd0 : 5 ≤ d) : ∀ (x1 : Int32) (x2 : Int32) (x3 : Int32) (x4 : Nat) (ν : Nm) (r : (Int32 × Nm)), zk 333 x4 (20, 256) → Md_takenBy x1 x2 x3 x4 ν = some r → Z g d (0, 0) mX12_takenBy 333 0 0 0 [(0, .ref 313), (1, .int x1), (2, .int x2), (3, .int x3), (4, .ref x4)] [] (zem ν) (zF g (some (.int r.1), zem r.2)) := by
  intro x1 x2 x3 x4 ν r hq4 h
  unfold Md_takenBy at h
  refine z_iload_n dX12_takenBy_0 1 rfl ?_
  refine z_iconst (M := mX12_takenBy) (v := 1) dX12_takenBy_1 rfl ?_
  refine z_iconst (M := mX12_takenBy) (v := 2) dX12_takenBy_2 rfl ?_
  refine z_iload_n dX12_takenBy_3 2 rfl ?_
  refine z_imul dX12_takenBy_4 ?_
  refine z_ishl dX12_takenBy_5 ?_
  refine z_ior dX12_takenBy_6 ?_
  refine z_istore (M := mX12_takenBy) (lv2 := [(5, .int (x1 ||| ((1 : Int32) <<< (((2 : Int32) * x2) &&& 31)))), (0, .ref 313), (1, .int x1), (2, .int x2), (3, .int x3), (4, .ref x4)]) dX12_takenBy_7 (Nat.le_of_ble_eq_true rfl) rfl ?_
  refine z_aload_n dX12_takenBy_9 1 rfl ?_
  refine z_iload dX12_takenBy_10 0 rfl ?_
  refine z_iconst (M := mX12_takenBy) (v := 1) dX12_takenBy_12 rfl ?_
  obtain ⟨v1, he1, h⟩ := obind h
  refine y_Si (M := mX12_takenBy) (Y := mX12_heldBy) (d2 := d - 1) (As := [.int (x1 ||| ((1 : Int32) <<< (((2 : Int32) * x2) &&& 31))), .int (1 : Int32)]) (st := [.ref 313]) dX12_takenBy_13 mlRX12_479 cv_X12_heldBy (ct_Md_heldBy (dle (Nat.le_of_ble_eq_true rfl) hd0) he1) (dps (Nat.le_of_ble_eq_true rfl) hd0) rfl rfl (Nat.le_of_ble_eq_true rfl) ?_
  refine z_iload_n dX12_takenBy_16 4 rfl ?_
  obtain ⟨v2, he2, h⟩ := obind h
  refine y_Vi (M := mX12_takenBy) (Y := mX12_isGiven) (d2 := d - 1) (As := [.int v1, .int x3]) (st := []) dX12_takenBy_17 mlRX12_443 cv_X12_isGiven zk_313 (ct_Md_isGiven (dle (Nat.le_of_ble_eq_true rfl) hd0) he2) (dps (Nat.le_of_ble_eq_true rfl) hd0) rfl rfl (Nat.le_of_ble_eq_true rfl) ?_
  refine z_if_eq 27 dX12_takenBy_20 rfl (fun hc3 => ?_) (fun hc3 => ?_)
  · replace h := oT hc3 h
    refine z_aload dX12_takenBy_27 5 rfl ?_
    refine z_iload dX12_takenBy_29 0 rfl ?_
    obtain ⟨v4, he4, h⟩ := obind h
    refine y_Si (M := mX12_takenBy) (Y := mX12_turned) (d2 := d - 1) (As := [.int (x1 ||| ((1 : Int32) <<< (((2 : Int32) * x2) &&& 31)))]) (st := [.ref x4]) dX12_takenBy_31 mlRX12_482 cv_X12_turned (ct_Md_turned (dle (Nat.le_of_ble_eq_true rfl) hd0) he4) (dps (Nat.le_of_ble_eq_true rfl) hd0) rfl rfl (Nat.le_of_ble_eq_true rfl) ?_
    obtain ⟨hi5, h⟩ := oif h
    refine y_iald (M := mX12_takenBy) (jj := v4.toNatClampNeg) dX12_takenBy_34 hq4 hi5 rfl ?_
    refine z_ineg dX12_takenBy_35 ?_
    cases h
    exact z_iret dX12_takenBy_36 rfl
  · replace h := oF hc3 h
    refine z_iconst (M := mX12_takenBy) (v := 1) dX12_takenBy_23 rfl ?_
    refine z_goto 36 dX12_takenBy_24 rfl ?_
    cases h
    exact z_iret dX12_takenBy_36 rfl
theorem ct_Md_takenBy {g : GG} {d : Nat} {x1 : Int32} {x2 : Int32} {x3 : Int32} {x4 : Nat} {ν : Nm} {r : (Int32 × Nm)} (hd0 : 5 ≤ d) (hq4 : zk 333 x4 (20, 256)) (h : Md_takenBy x1 x2 x3 x4 ν = some r) : Ct g d mX12_takenBy [.ref 313, .int x1, .int x2, .int x3, .ref x4] (zem ν) (some (.int r.1), zem r.2) := y_entry in_X12_takenBy (Nat.le_of_ble_eq_true rfl) rfl (t_Md_takenBy hd0 x1 x2 x3 x4 ν r hq4 h)
-- FuseMinutesModel.bestOf(II[I)I
theorem dX12_bestOf_0 : decode cX12_bestOf 0 = .ok (.ldc_w 332, 3) := by decide +kernel
theorem dX12_bestOf_3 : decode cX12_bestOf 3 = .ok (.istore 4, 2) := by decide +kernel
theorem dX12_bestOf_5 : decode cX12_bestOf 5 = .ok (.iconst 0, 1) := by decide +kernel
theorem dX12_bestOf_6 : decode cX12_bestOf 6 = .ok (.istore 5, 2) := by decide +kernel
theorem dX12_bestOf_8 : decode cX12_bestOf 8 = .ok (.iload 5, 2) := by decide +kernel
theorem dX12_bestOf_10 : decode cX12_bestOf 10 = .ok (.aload_n 0, 1) := by decide +kernel
theorem dX12_bestOf_11 : decode cX12_bestOf 11 = .ok (.getfield 7, 3) := by decide +kernel
theorem dX12_bestOf_14 : decode cX12_bestOf 14 = .ok (.iconst 0, 1) := by decide +kernel
theorem dX12_bestOf_15 : decode cX12_bestOf 15 = .ok (.iaload, 1) := by decide +kernel
theorem dX12_bestOf_16 : decode cX12_bestOf 16 = .ok (.if_icmp .ge 58, 3) := by decide +kernel
theorem dX12_bestOf_19 : decode cX12_bestOf 19 = .ok (.iload_n 1, 1) := by decide +kernel
theorem dX12_bestOf_20 : decode cX12_bestOf 20 = .ok (.iconst 2, 1) := by decide +kernel
theorem dX12_bestOf_21 : decode cX12_bestOf 21 = .ok (.iload 5, 2) := by decide +kernel
theorem dX12_bestOf_23 : decode cX12_bestOf 23 = .ok (.imul, 1) := by decide +kernel
theorem dX12_bestOf_24 : decode cX12_bestOf 24 = .ok (.ishr, 1) := by decide +kernel
theorem dX12_bestOf_25 : decode cX12_bestOf 25 = .ok (.iconst 3, 1) := by decide +kernel
theorem dX12_bestOf_26 : decode cX12_bestOf 26 = .ok (.iand, 1) := by decide +kernel
theorem dX12_bestOf_27 : decode cX12_bestOf 27 = .ok (.ifCond .eq 6, 3) := by decide +kernel
theorem dX12_bestOf_30 : decode cX12_bestOf 30 = .ok (.goto 38, 3) := by decide +kernel
theorem dX12_bestOf_33 : decode cX12_bestOf 33 = .ok (.aload_n 0, 1) := by decide +kernel
theorem dX12_bestOf_34 : decode cX12_bestOf 34 = .ok (.iload_n 1, 1) := by decide +kernel
theorem dX12_bestOf_35 : decode cX12_bestOf 35 = .ok (.iload 5, 2) := by decide +kernel
theorem dX12_bestOf_37 : decode cX12_bestOf 37 = .ok (.iload_n 2, 1) := by decide +kernel
theorem dX12_bestOf_38 : decode cX12_bestOf 38 = .ok (.aload_n 3, 1) := by decide +kernel
theorem dX12_bestOf_39 : decode cX12_bestOf 39 = .ok (.invokevirtual 485, 3) := by decide +kernel
theorem dX12_bestOf_42 : decode cX12_bestOf 42 = .ok (.istore 6, 2) := by decide +kernel
theorem dX12_bestOf_44 : decode cX12_bestOf 44 = .ok (.iload 4, 2) := by decide +kernel
theorem dX12_bestOf_46 : decode cX12_bestOf 46 = .ok (.ldc_w 332, 3) := by decide +kernel
theorem dX12_bestOf_49 : decode cX12_bestOf 49 = .ok (.if_icmp .eq 10, 3) := by decide +kernel
theorem dX12_bestOf_52 : decode cX12_bestOf 52 = .ok (.iload 6, 2) := by decide +kernel
theorem dX12_bestOf_54 : decode cX12_bestOf 54 = .ok (.iload 4, 2) := by decide +kernel
theorem dX12_bestOf_56 : decode cX12_bestOf 56 = .ok (.if_icmp .le 8, 3) := by decide +kernel
theorem dX12_bestOf_59 : decode cX12_bestOf 59 = .ok (.iload 6, 2) := by decide +kernel
theorem dX12_bestOf_61 : decode cX12_bestOf 61 = .ok (.goto 5, 3) := by decide +kernel
theorem dX12_bestOf_64 : decode cX12_bestOf 64 = .ok (.iload 4, 2) := by decide +kernel
theorem dX12_bestOf_66 : decode cX12_bestOf 66 = .ok (.istore 4, 2) := by decide +kernel
theorem dX12_bestOf_68 : decode cX12_bestOf 68 = .ok (.iinc 5 1, 3) := by decide +kernel
theorem dX12_bestOf_71 : decode cX12_bestOf 71 = .ok (.goto (-63), 3) := by decide +kernel
theorem dX12_bestOf_74 : decode cX12_bestOf 74 = .ok (.iload 4, 2) := by decide +kernel
theorem dX12_bestOf_76 : decode cX12_bestOf 76 = .ok (.ldc_w 332, 3) := by decide +kernel
theorem dX12_bestOf_79 : decode cX12_bestOf 79 = .ok (.if_icmp .ne 7, 3) := by decide +kernel
theorem dX12_bestOf_82 : decode cX12_bestOf 82 = .ok (.iconst 0, 1) := by decide +kernel
theorem dX12_bestOf_83 : decode cX12_bestOf 83 = .ok (.goto 5, 3) := by decide +kernel
theorem dX12_bestOf_86 : decode cX12_bestOf 86 = .ok (.iload 4, 2) := by decide +kernel
theorem dX12_bestOf_88 : decode cX12_bestOf 88 = .ok (.ireturn, 1) := by decide +kernel
def Md_bestOf_68 (k8 : Int32 → Int32 → Nat → Int32 → Int32 → Nm → Option (Int32 × Nm)) (x1 : Int32) (x2 : Int32) (x3 : Nat) (x4 : Int32) (x5 : Int32) (ν : Nm) : Option (Int32 × Nm) :=
  k8 x1 x2 x3 x4 (x5 + (1 : Int32)) ν
set_option maxRecDepth 100000 in
set_option maxHeartbeats 4000000 in
theorem t_Md_bestOf_68 {g : GG} {d : Nat} (hd0 : 6 ≤ d) {k8 : Int32 → Int32 → Nat → Int32 → Int32 → Nm → Option (Int32 × Nm)} (hk8 : ∀ (x1 : Int32) (x2 : Int32) (x3 : Nat) (x4 : Int32) (x5 : Int32) (ν : Nm) (r : (Int32 × Nm)), zk 333 x3 (20, 256) → k8 x1 x2 x3 x4 x5 ν = some r → Z g d (0, 0) mX12_bestOf 333 0 0 8 [(0, .ref 313), (1, .int x1), (2, .int x2), (3, .ref x3), (4, .int x4), (5, .int x5)] [] (zem ν) (zF g (some (.int r.1), zem r.2))) : ∀ (x1 : Int32) (x2 : Int32) (x3 : Nat) (x4 : Int32) (x5 : Int32) (ν : Nm) (r : (Int32 × Nm)), zk 333 x3 (20, 256) → Md_bestOf_68 k8 x1 x2 x3 x4 x5 ν = some r → Z g d (0, 0) mX12_bestOf 333 0 0 68 [(0, .ref 313), (1, .int x1), (2, .int x2), (3, .ref x3), (4, .int x4), (5, .int x5)] [] (zem ν) (zF g (some (.int r.1), zem r.2)) := by
  intro x1 x2 x3 x4 x5 ν r hq3 h
  unfold Md_bestOf_68 at h
  refine z_iinc (M := mX12_bestOf) (v := (x5 + (1 : Int32))) (lv2 := [(5, .int (x5 + (1 : Int32))), (0, .ref 313), (1, .int x1), (2, .int x2), (3, .ref x3), (4, .int x4)]) dX12_bestOf_68 5 rfl rfl (Nat.le_of_ble_eq_true rfl) rfl ?_
  refine z_goto 8 dX12_bestOf_71 rfl ?_
  refine z_lv (lv2 := [(0, .ref 313), (1, .int x1), (2, .int x2), (3, .ref x3), (4, .int x4), (5, .int (x5 + (1 : Int32)))]) [1, 2, 3, 4, 5, 0] rfl ?_
  exact hk8 x1 x2 x3 x4 (x5 + (1 : Int32)) ν _ hq3 h
def Md_bestOf_66 (k8 : Int32 → Int32 → Nat → Int32 → Int32 → Nm → Option (Int32 × Nm)) (x1 : Int32) (x2 : Int32) (x3 : Nat) (x5 : Int32) (s0 : Int32) (ν : Nm) : Option (Int32 × Nm) :=
  Md_bestOf_68 k8 x1 x2 x3 s0 x5 ν
set_option maxRecDepth 100000 in
set_option maxHeartbeats 4000000 in
theorem t_Md_bestOf_66 {g : GG} {d : Nat} (hd0 : 6 ≤ d) {k8 : Int32 → Int32 → Nat → Int32 → Int32 → Nm → Option (Int32 × Nm)} (hk8 : ∀ (x1 : Int32) (x2 : Int32) (x3 : Nat) (x4 : Int32) (x5 : Int32) (ν : Nm) (r : (Int32 × Nm)), zk 333 x3 (20, 256) → k8 x1 x2 x3 x4 x5 ν = some r → Z g d (0, 0) mX12_bestOf 333 0 0 8 [(0, .ref 313), (1, .int x1), (2, .int x2), (3, .ref x3), (4, .int x4), (5, .int x5)] [] (zem ν) (zF g (some (.int r.1), zem r.2))) : ∀ (x1 : Int32) (x2 : Int32) (x3 : Nat) (x5 : Int32) (s0 : Int32) (ν : Nm) (r : (Int32 × Nm)), zk 333 x3 (20, 256) → Md_bestOf_66 k8 x1 x2 x3 x5 s0 ν = some r → Z g d (0, 0) mX12_bestOf 333 0 0 66 [(0, .ref 313), (1, .int x1), (2, .int x2), (3, .ref x3), (5, .int x5)] [.int s0] (zem ν) (zF g (some (.int r.1), zem r.2)) := by
  intro x1 x2 x3 x5 s0 ν r hq3 h
  unfold Md_bestOf_66 at h
  refine z_istore (M := mX12_bestOf) (lv2 := [(4, .int s0), (0, .ref 313), (1, .int x1), (2, .int x2), (3, .ref x3), (5, .int x5)]) dX12_bestOf_66 (Nat.le_of_ble_eq_true rfl) rfl ?_
  refine z_lv (lv2 := [(0, .ref 313), (1, .int x1), (2, .int x2), (3, .ref x3), (4, .int s0), (5, .int x5)]) [1, 2, 3, 4, 0, 5] rfl ?_
  exact t_Md_bestOf_68 hd0 hk8 x1 x2 x3 s0 x5 ν _ hq3 h
def Md_bestOf_59 (k8 : Int32 → Int32 → Nat → Int32 → Int32 → Nm → Option (Int32 × Nm)) (x1 : Int32) (x2 : Int32) (x3 : Nat) (x5 : Int32) (x6 : Int32) (ν : Nm) : Option (Int32 × Nm) :=
  Md_bestOf_66 k8 x1 x2 x3 x5 x6 ν
set_option maxRecDepth 100000 in
set_option maxHeartbeats 4000000 in
theorem t_Md_bestOf_59 {g : GG} {d : Nat} (hd0 : 6 ≤ d) {k8 : Int32 → Int32 → Nat → Int32 → Int32 → Nm → Option (Int32 × Nm)} (hk8 : ∀ (x1 : Int32) (x2 : Int32) (x3 : Nat) (x4 : Int32) (x5 : Int32) (ν : Nm) (r : (Int32 × Nm)), zk 333 x3 (20, 256) → k8 x1 x2 x3 x4 x5 ν = some r → Z g d (0, 0) mX12_bestOf 333 0 0 8 [(0, .ref 313), (1, .int x1), (2, .int x2), (3, .ref x3), (4, .int x4), (5, .int x5)] [] (zem ν) (zF g (some (.int r.1), zem r.2))) : ∀ (x1 : Int32) (x2 : Int32) (x3 : Nat) (x5 : Int32) (x6 : Int32) (ν : Nm) (r : (Int32 × Nm)), zk 333 x3 (20, 256) → Md_bestOf_59 k8 x1 x2 x3 x5 x6 ν = some r → Z g d (0, 0) mX12_bestOf 333 0 0 59 [(0, .ref 313), (1, .int x1), (2, .int x2), (3, .ref x3), (5, .int x5), (6, .int x6)] [] (zem ν) (zF g (some (.int r.1), zem r.2)) := by
  intro x1 x2 x3 x5 x6 ν r hq3 h
  unfold Md_bestOf_59 at h
  refine z_iload dX12_bestOf_59 5 rfl ?_
  refine z_goto 66 dX12_bestOf_61 rfl ?_
  refine z_lv (lv2 := [(0, .ref 313), (1, .int x1), (2, .int x2), (3, .ref x3), (5, .int x5)]) [0, 1, 2, 3, 4] rfl ?_
  exact t_Md_bestOf_66 hd0 hk8 x1 x2 x3 x5 x6 ν _ hq3 h
def Md_bestOf_8 : Nat → Int32 → Int32 → Nat → Int32 → Int32 → Nm → Option (Int32 × Nm)
  | 0, _, _, _, _, _, _ => none
  | f + 1, x1, x2, x3, x4, x5, ν =>
    (if (gi ν 314 0) ≤ x5 then
      (if ¬ x4 = (1000000 : Int32) then
        some (x4, ν)
      else
        some ((0 : Int32), ν))
    else
      (if ((x1 >>> (((2 : Int32) * x5) &&& 31)) &&& (3 : Int32)) = 0 then
        (Md_takenBy x1 x5 x2 x3 ν).bind fun v4 =>
        (if x4 = (1000000 : Int32) then
          Md_bestOf_59 (Md_bestOf_8 f) x1 x2 x3 x5 v4.1 v4.2
        else
          (if v4.1 ≤ x4 then
            Md_bestOf_66 (Md_bestOf_8 f) x1 x2 x3 x5 x4 v4.2
          else
            Md_bestOf_59 (Md_bestOf_8 f) x1 x2 x3 x5 v4.1 v4.2))
      else
        Md_bestOf_68 (Md_bestOf_8 f) x1 x2 x3 x4 x5 ν))
set_option maxRecDepth 100000 in
set_option maxHeartbeats 4000000 in
theorem t_Md_bestOf_8 {g : GG} {d : Nat} (hd0 : 6 ≤ d) : ∀ (f : Nat), ∀ (x1 : Int32) (x2 : Int32) (x3 : Nat) (x4 : Int32) (x5 : Int32) (ν : Nm) (r : (Int32 × Nm)), zk 333 x3 (20, 256) → Md_bestOf_8 f x1 x2 x3 x4 x5 ν = some r → Z g d (0, 0) mX12_bestOf 333 0 0 8 [(0, .ref 313), (1, .int x1), (2, .int x2), (3, .ref x3), (4, .int x4), (5, .int x5)] [] (zem ν) (zF g (some (.int r.1), zem r.2)) := by
  intro f
  induction f with
  | zero =>
    intro x1 x2 x3 x4 x5 ν r hq3 h
    cases h
  | succ f ih =>
    intro x1 x2 x3 x4 x5 ν r hq3 h
    rw [Md_bestOf_8] at h
    refine z_iload dX12_bestOf_8 5 rfl ?_
    refine z_aload_n dX12_bestOf_10 0 rfl ?_
    refine y_getR (M := mX12_bestOf) (r := 314) dX12_bestOf_11 zk_313 flRX12_7 fr_10_0.1 (fr_10_0.2 _) ?_
    refine z_iconst (M := mX12_bestOf) (v := 0) dX12_bestOf_14 rfl ?_
    refine y_iald (M := mX12_bestOf) (jj := 0) dX12_bestOf_15 zk_314 rfl rfl ?_
    refine z_icmp_ge 74 dX12_bestOf_16 rfl (fun hc1 => ?_) (fun hc1 => ?_)
    · replace h := oT hc1 h
      refine z_iload dX12_bestOf_74 4 rfl ?_
      refine z_ldcw dX12_bestOf_76 csRX12_332 ?_
      refine z_icmp_ne 86 dX12_bestOf_79 rfl (fun hc2 => ?_) (fun hc2 => ?_)
      · replace h := oT hc2 h
        refine z_iload dX12_bestOf_86 4 rfl ?_
        cases h
        exact z_iret dX12_bestOf_88 rfl
      · replace h := oFn hc2 h
        refine z_iconst (M := mX12_bestOf) (v := 0) dX12_bestOf_82 rfl ?_
        refine z_goto 88 dX12_bestOf_83 rfl ?_
        cases h
        exact z_iret dX12_bestOf_88 rfl
    · replace h := oF hc1 h
      refine z_iload_n dX12_bestOf_19 1 rfl ?_
      refine z_iconst (M := mX12_bestOf) (v := 2) dX12_bestOf_20 rfl ?_
      refine z_iload dX12_bestOf_21 5 rfl ?_
      refine z_imul dX12_bestOf_23 ?_
      refine z_ishr dX12_bestOf_24 ?_
      refine z_iconst (M := mX12_bestOf) (v := 3) dX12_bestOf_25 rfl ?_
      refine z_iand dX12_bestOf_26 ?_
      refine z_if_eq 33 dX12_bestOf_27 rfl (fun hc3 => ?_) (fun hc3 => ?_)
      · replace h := oT hc3 h
        refine z_aload_n dX12_bestOf_33 0 rfl ?_
        refine z_iload_n dX12_bestOf_34 1 rfl ?_
        refine z_iload dX12_bestOf_35 5 rfl ?_
        refine z_iload_n dX12_bestOf_37 2 rfl ?_
        refine z_aload_n dX12_bestOf_38 3 rfl ?_
        obtain ⟨v4, he4, h⟩ := obind h
        refine y_Vi (M := mX12_bestOf) (Y := mX12_takenBy) (d2 := d - 1) (As := [.int x1, .int x5, .int x2, .ref x3]) (st := []) dX12_bestOf_39 mlRX12_485 cv_X12_takenBy zk_313 (ct_Md_takenBy (dle (Nat.le_of_ble_eq_true rfl) hd0) hq3 he4) (dps (Nat.le_of_ble_eq_true rfl) hd0) rfl rfl (Nat.le_of_ble_eq_true rfl) ?_
        refine z_istore (M := mX12_bestOf) (lv2 := [(6, .int v4.1), (0, .ref 313), (1, .int x1), (2, .int x2), (3, .ref x3), (4, .int x4), (5, .int x5)]) dX12_bestOf_42 (Nat.le_of_ble_eq_true rfl) rfl ?_
        refine z_iload dX12_bestOf_44 5 rfl ?_
        refine z_ldcw dX12_bestOf_46 csRX12_332 ?_
        refine z_icmp_eq 59 dX12_bestOf_49 rfl (fun hc5 => ?_) (fun hc5 => ?_)
        · replace h := oT hc5 h
          refine z_lv (lv2 := [(0, .ref 313), (1, .int x1), (2, .int x2), (3, .ref x3), (5, .int x5), (6, .int v4.1)]) [1, 2, 3, 4, 6, 0] rfl ?_
          exact t_Md_bestOf_59 hd0 ih x1 x2 x3 x5 v4.1 v4.2 _ hq3 h
        · replace h := oF hc5 h
          refine z_iload dX12_bestOf_52 0 rfl ?_
          refine z_iload dX12_bestOf_54 5 rfl ?_
          refine z_icmp_le 64 dX12_bestOf_56 rfl (fun hc6 => ?_) (fun hc6 => ?_)
          · replace h := oT hc6 h
            refine z_iload dX12_bestOf_64 5 rfl ?_
            refine z_lv (lv2 := [(0, .ref 313), (1, .int x1), (2, .int x2), (3, .ref x3), (5, .int x5)]) [1, 2, 3, 4, 6] rfl ?_
            exact t_Md_bestOf_66 hd0 ih x1 x2 x3 x5 x4 v4.2 _ hq3 h
          · replace h := oF hc6 h
            refine z_lv (lv2 := [(0, .ref 313), (1, .int x1), (2, .int x2), (3, .ref x3), (5, .int x5), (6, .int v4.1)]) [1, 2, 3, 4, 6, 0] rfl ?_
            exact t_Md_bestOf_59 hd0 ih x1 x2 x3 x5 v4.1 v4.2 _ hq3 h
      · replace h := oF hc3 h
        refine z_goto 68 dX12_bestOf_30 rfl ?_
        exact t_Md_bestOf_68 hd0 ih x1 x2 x3 x4 x5 ν _ hq3 h
def Md_bestOf (x1 : Int32) (x2 : Int32) (x3 : Nat) (ν : Nm) : Option (Int32 × Nm) :=
  Md_bestOf_8 FU x1 x2 x3 (1000000 : Int32) (0 : Int32) ν
set_option maxRecDepth 100000 in
set_option maxHeartbeats 4000000 in
theorem t_Md_bestOf {g : GG} {d : Nat} (hd0 : 6 ≤ d) : ∀ (x1 : Int32) (x2 : Int32) (x3 : Nat) (ν : Nm) (r : (Int32 × Nm)), zk 333 x3 (20, 256) → Md_bestOf x1 x2 x3 ν = some r → Z g d (0, 0) mX12_bestOf 333 0 0 0 [(0, .ref 313), (1, .int x1), (2, .int x2), (3, .ref x3)] [] (zem ν) (zF g (some (.int r.1), zem r.2)) := by
  intro x1 x2 x3 ν r hq3 h
  unfold Md_bestOf at h
  refine z_ldcw dX12_bestOf_0 csRX12_332 ?_
  refine z_istore (M := mX12_bestOf) (lv2 := [(4, .int (1000000 : Int32)), (0, .ref 313), (1, .int x1), (2, .int x2), (3, .ref x3)]) dX12_bestOf_3 (Nat.le_of_ble_eq_true rfl) rfl ?_
  refine z_iconst (M := mX12_bestOf) (v := 0) dX12_bestOf_5 rfl ?_
  refine z_istore (M := mX12_bestOf) (lv2 := [(5, .int (0 : Int32)), (4, .int (1000000 : Int32)), (0, .ref 313), (1, .int x1), (2, .int x2), (3, .ref x3)]) dX12_bestOf_6 (Nat.le_of_ble_eq_true rfl) rfl ?_
  refine z_lv (lv2 := [(0, .ref 313), (1, .int x1), (2, .int x2), (3, .ref x3), (4, .int (1000000 : Int32)), (5, .int (0 : Int32))]) [2, 3, 4, 5, 1, 0] rfl ?_
  exact t_Md_bestOf_8 hd0 FU x1 x2 x3 (1000000 : Int32) (0 : Int32) ν _ hq3 h
theorem ct_Md_bestOf {g : GG} {d : Nat} {x1 : Int32} {x2 : Int32} {x3 : Nat} {ν : Nm} {r : (Int32 × Nm)} (hd0 : 6 ≤ d) (hq3 : zk 333 x3 (20, 256)) (h : Md_bestOf x1 x2 x3 ν = some r) : Ct g d mX12_bestOf [.ref 313, .int x1, .int x2, .ref x3] (zem ν) (some (.int r.1), zem r.2) := y_entry in_X12_bestOf (Nat.le_of_ble_eq_true rfl) rfl (t_Md_bestOf hd0 x1 x2 x3 ν r hq3 h)
-- FuseMinutesModel.isCode(I)Z
theorem dX12_isCode_0 : decode cX12_isCode 0 = .ok (.iconst 0, 1) := by decide +kernel
theorem dX12_isCode_1 : decode cX12_isCode 1 = .ok (.istore_n 1, 1) := by decide +kernel
theorem dX12_isCode_2 : decode cX12_isCode 2 = .ok (.iload_n 1, 1) := by decide +kernel
theorem dX12_isCode_3 : decode cX12_isCode 3 = .ok (.iconst 4, 1) := by decide +kernel
theorem dX12_isCode_4 : decode cX12_isCode 4 = .ok (.if_icmp .ge 22, 3) := by decide +kernel
theorem dX12_isCode_7 : decode cX12_isCode 7 = .ok (.iload_n 0, 1) := by decide +kernel
theorem dX12_isCode_8 : decode cX12_isCode 8 = .ok (.iconst 2, 1) := by decide +kernel
theorem dX12_isCode_9 : decode cX12_isCode 9 = .ok (.iload_n 1, 1) := by decide +kernel
theorem dX12_isCode_10 : decode cX12_isCode 10 = .ok (.imul, 1) := by decide +kernel
theorem dX12_isCode_11 : decode cX12_isCode 11 = .ok (.ishr, 1) := by decide +kernel
theorem dX12_isCode_12 : decode cX12_isCode 12 = .ok (.iconst 3, 1) := by decide +kernel
theorem dX12_isCode_13 : decode cX12_isCode 13 = .ok (.iand, 1) := by decide +kernel
theorem dX12_isCode_14 : decode cX12_isCode 14 = .ok (.iconst 3, 1) := by decide +kernel
theorem dX12_isCode_15 : decode cX12_isCode 15 = .ok (.if_icmp .ne 5, 3) := by decide +kernel
theorem dX12_isCode_18 : decode cX12_isCode 18 = .ok (.iconst 0, 1) := by decide +kernel
theorem dX12_isCode_19 : decode cX12_isCode 19 = .ok (.ireturn, 1) := by decide +kernel
theorem dX12_isCode_20 : decode cX12_isCode 20 = .ok (.iinc 1 1, 3) := by decide +kernel
theorem dX12_isCode_23 : decode cX12_isCode 23 = .ok (.goto (-21), 3) := by decide +kernel
theorem dX12_isCode_26 : decode cX12_isCode 26 = .ok (.iconst 1, 1) := by decide +kernel
theorem dX12_isCode_27 : decode cX12_isCode 27 = .ok (.ireturn, 1) := by decide +kernel
def Md_isCode_2 : Nat → Int32 → Int32 → Option Bool
  | 0, _, _ => none
  | f + 1, x0, x1 =>
    (if (4 : Int32) ≤ x1 then
      some true
    else
      (if ¬ ((x0 >>> (((2 : Int32) * x1) &&& 31)) &&& (3 : Int32)) = (3 : Int32) then
        (Md_isCode_2 f) x0 (x1 + (1 : Int32))
      else
        some false))
set_option maxRecDepth 100000 in
set_option maxHeartbeats 4000000 in
theorem t_Md_isCode_2 {g : GG} {d : Nat} {μ : Mm} (hd0 : 1 ≤ d) : ∀ (f : Nat), ∀ (x0 : Int32) (x1 : Int32) (r : Bool), Md_isCode_2 f x0 x1 = some r → Z g d (0, 0) mX12_isCode 333 0 0 2 [(0, .int x0), (1, .int x1)] [] μ (zF g (some (.int (b2i r)), μ)) := by
  intro f
  induction f with
  | zero =>
    intro x0 x1 r h
    cases h
  | succ f ih =>
    intro x0 x1 r h
    rw [Md_isCode_2] at h
    refine z_iload_n dX12_isCode_2 1 rfl ?_
    refine z_iconst (M := mX12_isCode) (v := 4) dX12_isCode_3 rfl ?_
    refine z_icmp_ge 26 dX12_isCode_4 rfl (fun hc1 => ?_) (fun hc1 => ?_)
    · replace h := oT hc1 h
      refine z_iconst (M := mX12_isCode) (v := 1) dX12_isCode_26 rfl ?_
      cases h
      exact z_zret dX12_isCode_27 rfl rfl
    · replace h := oF hc1 h
      refine z_iload_n dX12_isCode_7 0 rfl ?_
      refine z_iconst (M := mX12_isCode) (v := 2) dX12_isCode_8 rfl ?_
      refine z_iload_n dX12_isCode_9 1 rfl ?_
      refine z_imul dX12_isCode_10 ?_
      refine z_ishr dX12_isCode_11 ?_
      refine z_iconst (M := mX12_isCode) (v := 3) dX12_isCode_12 rfl ?_
      refine z_iand dX12_isCode_13 ?_
      refine z_iconst (M := mX12_isCode) (v := 3) dX12_isCode_14 rfl ?_
      refine z_icmp_ne 20 dX12_isCode_15 rfl (fun hc2 => ?_) (fun hc2 => ?_)
      · replace h := oT hc2 h
        refine z_iinc (M := mX12_isCode) (v := (x1 + (1 : Int32))) (lv2 := [(1, .int (x1 + (1 : Int32))), (0, .int x0)]) dX12_isCode_20 1 rfl rfl (Nat.le_of_ble_eq_true rfl) rfl ?_
        refine z_goto 2 dX12_isCode_23 rfl ?_
        refine z_lv (lv2 := [(0, .int x0), (1, .int (x1 + (1 : Int32)))]) [1, 0] rfl ?_
        exact ih x0 (x1 + (1 : Int32)) _ h
      · replace h := oFn hc2 h
        refine z_iconst (M := mX12_isCode) (v := 0) dX12_isCode_18 rfl ?_
        cases h
        exact z_zret dX12_isCode_19 rfl rfl
def Md_isCode (x0 : Int32) : Option Bool :=
  Md_isCode_2 FU x0 (0 : Int32)
set_option maxRecDepth 100000 in
set_option maxHeartbeats 4000000 in
theorem t_Md_isCode {g : GG} {d : Nat} {μ : Mm} (hd0 : 1 ≤ d) : ∀ (x0 : Int32) (r : Bool), Md_isCode x0 = some r → Z g d (0, 0) mX12_isCode 333 0 0 0 [(0, .int x0)] [] μ (zF g (some (.int (b2i r)), μ)) := by
  intro x0 r h
  unfold Md_isCode at h
  refine z_iconst (M := mX12_isCode) (v := 0) dX12_isCode_0 rfl ?_
  refine z_istore_n (M := mX12_isCode) (lv2 := [(1, .int (0 : Int32)), (0, .int x0)]) dX12_isCode_1 (Nat.le_of_ble_eq_true rfl) rfl ?_
  refine z_lv (lv2 := [(0, .int x0), (1, .int (0 : Int32))]) [1, 0] rfl ?_
  exact t_Md_isCode_2 hd0 FU x0 (0 : Int32) _ h
theorem ct_Md_isCode {g : GG} {d : Nat} {x0 : Int32} {μ : Mm} {r : Bool} (hd0 : 1 ≤ d)  (h : Md_isCode x0 = some r) : Ct g d mX12_isCode [.int x0] μ (some (.int (b2i r)), μ) := y_entry in_X12_isCode (Nat.le_of_ble_eq_true rfl) rfl (t_Md_isCode hd0 x0 r h)
-- FuseMinutesModel.layGames(II)V
theorem dX12_layGames_0 : decode cX12_layGames 0 = .ok (.iconst 4, 1) := by decide +kernel
theorem dX12_layGames_1 : decode cX12_layGames 1 = .ok (.istore_n 3, 1) := by decide +kernel
theorem dX12_layGames_2 : decode cX12_layGames 2 = .ok (.iload_n 3, 1) := by decide +kernel
theorem dX12_layGames_3 : decode cX12_layGames 3 = .ok (.ifCond .lt 88, 3) := by decide +kernel
theorem dX12_layGames_6 : decode cX12_layGames 6 = .ok (.iconst 0, 1) := by decide +kernel
theorem dX12_layGames_7 : decode cX12_layGames 7 = .ok (.istore 4, 2) := by decide +kernel
theorem dX12_layGames_9 : decode cX12_layGames 9 = .ok (.iload 4, 2) := by decide +kernel
theorem dX12_layGames_11 : decode cX12_layGames 11 = .ok (.sipush 256, 3) := by decide +kernel
theorem dX12_layGames_14 : decode cX12_layGames 14 = .ok (.if_icmp .ge 71, 3) := by decide +kernel
theorem dX12_layGames_17 : decode cX12_layGames 17 = .ok (.iload 4, 2) := by decide +kernel
theorem dX12_layGames_19 : decode cX12_layGames 19 = .ok (.invokestatic 489, 3) := by decide +kernel
theorem dX12_layGames_22 : decode cX12_layGames 22 = .ok (.ifCond .eq 57, 3) := by decide +kernel
theorem dX12_layGames_25 : decode cX12_layGames 25 = .ok (.iload 4, 2) := by decide +kernel
theorem dX12_layGames_27 : decode cX12_layGames 27 = .ok (.iconst 0, 1) := by decide +kernel
theorem dX12_layGames_28 : decode cX12_layGames 28 = .ok (.invokestatic 479, 3) := by decide +kernel
theorem dX12_layGames_31 : decode cX12_layGames 31 = .ok (.invokestatic 100, 3) := by decide +kernel
theorem dX12_layGames_34 : decode cX12_layGames 34 = .ok (.iconst 4, 1) := by decide +kernel
theorem dX12_layGames_35 : decode cX12_layGames 35 = .ok (.iload_n 3, 1) := by decide +kernel
theorem dX12_layGames_36 : decode cX12_layGames 36 = .ok (.isub, 1) := by decide +kernel
theorem dX12_layGames_37 : decode cX12_layGames 37 = .ok (.if_icmp .eq 6, 3) := by decide +kernel
theorem dX12_layGames_40 : decode cX12_layGames 40 = .ok (.goto 39, 3) := by decide +kernel
theorem dX12_layGames_43 : decode cX12_layGames 43 = .ok (.aload_n 0, 1) := by decide +kernel
theorem dX12_layGames_44 : decode cX12_layGames 44 = .ok (.getfield 75, 3) := by decide +kernel
theorem dX12_layGames_47 : decode cX12_layGames 47 = .ok (.iload 4, 2) := by decide +kernel
theorem dX12_layGames_49 : decode cX12_layGames 49 = .ok (.aload_n 0, 1) := by decide +kernel
theorem dX12_layGames_50 : decode cX12_layGames 50 = .ok (.iload 4, 2) := by decide +kernel
theorem dX12_layGames_52 : decode cX12_layGames 52 = .ok (.iload_n 1, 1) := by decide +kernel
theorem dX12_layGames_53 : decode cX12_layGames 53 = .ok (.aload_n 0, 1) := by decide +kernel
theorem dX12_layGames_54 : decode cX12_layGames 54 = .ok (.getfield 78, 3) := by decide +kernel
theorem dX12_layGames_57 : decode cX12_layGames 57 = .ok (.invokevirtual 492, 3) := by decide +kernel
theorem dX12_layGames_60 : decode cX12_layGames 60 = .ok (.iastore, 1) := by decide +kernel
theorem dX12_layGames_61 : decode cX12_layGames 61 = .ok (.aload_n 0, 1) := by decide +kernel
theorem dX12_layGames_62 : decode cX12_layGames 62 = .ok (.getfield 78, 3) := by decide +kernel
theorem dX12_layGames_65 : decode cX12_layGames 65 = .ok (.iload 4, 2) := by decide +kernel
theorem dX12_layGames_67 : decode cX12_layGames 67 = .ok (.aload_n 0, 1) := by decide +kernel
theorem dX12_layGames_68 : decode cX12_layGames 68 = .ok (.iload 4, 2) := by decide +kernel
theorem dX12_layGames_70 : decode cX12_layGames 70 = .ok (.iload_n 2, 1) := by decide +kernel
theorem dX12_layGames_71 : decode cX12_layGames 71 = .ok (.aload_n 0, 1) := by decide +kernel
theorem dX12_layGames_72 : decode cX12_layGames 72 = .ok (.getfield 75, 3) := by decide +kernel
theorem dX12_layGames_75 : decode cX12_layGames 75 = .ok (.invokevirtual 492, 3) := by decide +kernel
theorem dX12_layGames_78 : decode cX12_layGames 78 = .ok (.iastore, 1) := by decide +kernel
theorem dX12_layGames_79 : decode cX12_layGames 79 = .ok (.iinc 4 1, 3) := by decide +kernel
theorem dX12_layGames_82 : decode cX12_layGames 82 = .ok (.goto (-73), 3) := by decide +kernel
theorem dX12_layGames_85 : decode cX12_layGames 85 = .ok (.iinc 3 (-1), 3) := by decide +kernel
theorem dX12_layGames_88 : decode cX12_layGames 88 = .ok (.goto (-86), 3) := by decide +kernel
theorem dX12_layGames_91 : decode cX12_layGames 91 = .ok (.return_, 1) := by decide +kernel
def Md_layGames_79 (k9 : Int32 → Int32 → Int32 → Int32 → Nm → Option Nm) (x1 : Int32) (x2 : Int32) (x3 : Int32) (x4 : Int32) (ν : Nm) : Option Nm :=
  k9 x1 x2 x3 (x4 + (1 : Int32)) ν
set_option maxRecDepth 100000 in
set_option maxHeartbeats 4000000 in
theorem t_Md_layGames_79 {g : GG} {d : Nat} (hd0 : 7 ≤ d) {k9 : Int32 → Int32 → Int32 → Int32 → Nm → Option Nm} (hk9 : ∀ (x1 : Int32) (x2 : Int32) (x3 : Int32) (x4 : Int32) (ν : Nm) (r : Nm), k9 x1 x2 x3 x4 ν = some r → Z g d (0, 0) mX12_layGames 333 0 0 9 [(0, .ref 313), (1, .int x1), (2, .int x2), (3, .int x3), (4, .int x4)] [] (zem ν) (zF g (none, zem r))) : ∀ (x1 : Int32) (x2 : Int32) (x3 : Int32) (x4 : Int32) (ν : Nm) (r : Nm), Md_layGames_79 k9 x1 x2 x3 x4 ν = some r → Z g d (0, 0) mX12_layGames 333 0 0 79 [(0, .ref 313), (1, .int x1), (2, .int x2), (3, .int x3), (4, .int x4)] [] (zem ν) (zF g (none, zem r)) := by
  intro x1 x2 x3 x4 ν r h
  unfold Md_layGames_79 at h
  refine z_iinc (M := mX12_layGames) (v := (x4 + (1 : Int32))) (lv2 := [(4, .int (x4 + (1 : Int32))), (0, .ref 313), (1, .int x1), (2, .int x2), (3, .int x3)]) dX12_layGames_79 4 rfl rfl (Nat.le_of_ble_eq_true rfl) rfl ?_
  refine z_goto 9 dX12_layGames_82 rfl ?_
  refine z_lv (lv2 := [(0, .ref 313), (1, .int x1), (2, .int x2), (3, .int x3), (4, .int (x4 + (1 : Int32)))]) [1, 2, 3, 4, 0] rfl ?_
  exact hk9 x1 x2 x3 (x4 + (1 : Int32)) ν _ h
def Md_layGames_9 (k2 : Int32 → Int32 → Int32 → Nm → Option Nm) : Nat → Int32 → Int32 → Int32 → Int32 → Nm → Option Nm
  | 0, _, _, _, _, _ => none
  | f + 1, x1, x2, x3, x4, ν =>
    (if (256 : Int32) ≤ x4 then
      k2 x1 x2 (x3 + (-1 : Int32)) ν
    else
      (Md_isCode x4).bind fun v2 =>
      (if (b2i v2) = 0 then
        Md_layGames_79 (Md_layGames_9 k2 f) x1 x2 x3 x4 ν
      else
        (Md_heldBy x4 (0 : Int32)).bind fun v4 =>
        (Md_bits v4).bind fun v5 =>
        (if v5 = ((4 : Int32) - x3) then
          (Md_bestOf x4 x1 332 ν).bind fun v7 =>
          if inb x4 256 then
          (Md_bestOf x4 x2 331 (si v7.2 331 x4.toNatClampNeg v7.1)).bind fun v9 =>
          if inb x4 256 then
          Md_layGames_79 (Md_layGames_9 k2 f) x1 x2 x3 x4 (si v9.2 332 x4.toNatClampNeg v9.1)
          else none
          else none
        else
          Md_layGames_79 (Md_layGames_9 k2 f) x1 x2 x3 x4 ν)))
set_option maxRecDepth 100000 in
set_option maxHeartbeats 4000000 in
theorem t_Md_layGames_9 {g : GG} {d : Nat} (hd0 : 7 ≤ d) {k2 : Int32 → Int32 → Int32 → Nm → Option Nm} (hk2 : ∀ (x1 : Int32) (x2 : Int32) (x3 : Int32) (ν : Nm) (r : Nm), k2 x1 x2 x3 ν = some r → Z g d (0, 0) mX12_layGames 333 0 0 2 [(0, .ref 313), (1, .int x1), (2, .int x2), (3, .int x3)] [] (zem ν) (zF g (none, zem r))) : ∀ (f : Nat), ∀ (x1 : Int32) (x2 : Int32) (x3 : Int32) (x4 : Int32) (ν : Nm) (r : Nm), Md_layGames_9 k2 f x1 x2 x3 x4 ν = some r → Z g d (0, 0) mX12_layGames 333 0 0 9 [(0, .ref 313), (1, .int x1), (2, .int x2), (3, .int x3), (4, .int x4)] [] (zem ν) (zF g (none, zem r)) := by
  intro f
  induction f with
  | zero =>
    intro x1 x2 x3 x4 ν r h
    cases h
  | succ f ih =>
    intro x1 x2 x3 x4 ν r h
    rw [Md_layGames_9] at h
    refine z_iload dX12_layGames_9 4 rfl ?_
    refine z_sipush (M := mX12_layGames) (v := 256) dX12_layGames_11 rfl ?_
    refine z_icmp_ge 85 dX12_layGames_14 rfl (fun hc1 => ?_) (fun hc1 => ?_)
    · replace h := oT hc1 h
      refine z_iinc (M := mX12_layGames) (v := (x3 + (-1 : Int32))) (lv2 := [(3, .int (x3 + (-1 : Int32))), (0, .ref 313), (1, .int x1), (2, .int x2), (4, .int x4)]) dX12_layGames_85 3 rfl rfl (Nat.le_of_ble_eq_true rfl) rfl ?_
      refine z_goto 2 dX12_layGames_88 rfl ?_
      refine z_lv (lv2 := [(0, .ref 313), (1, .int x1), (2, .int x2), (3, .int (x3 + (-1 : Int32)))]) [1, 2, 3, 0] rfl ?_
      exact hk2 x1 x2 (x3 + (-1 : Int32)) ν _ h
    · replace h := oF hc1 h
      refine z_iload dX12_layGames_17 4 rfl ?_
      obtain ⟨v2, he2, h⟩ := obind h
      refine y_Si (M := mX12_layGames) (Y := mX12_isCode) (d2 := d - 1) (As := [.int x4]) (st := []) dX12_layGames_19 mlRX12_489 cv_X12_isCode (ct_Md_isCode (dle (Nat.le_of_ble_eq_true rfl) hd0) he2) (dps (Nat.le_of_ble_eq_true rfl) hd0) rfl rfl (Nat.le_of_ble_eq_true rfl) ?_
      refine z_if_eq 79 dX12_layGames_22 rfl (fun hc3 => ?_) (fun hc3 => ?_)
      · replace h := oT hc3 h
        exact t_Md_layGames_79 hd0 ih x1 x2 x3 x4 ν _ h
      · replace h := oF hc3 h
        refine z_iload dX12_layGames_25 4 rfl ?_
        refine z_iconst (M := mX12_layGames) (v := 0) dX12_layGames_27 rfl ?_
        obtain ⟨v4, he4, h⟩ := obind h
        refine y_Si (M := mX12_layGames) (Y := mX12_heldBy) (d2 := d - 1) (As := [.int x4, .int (0 : Int32)]) (st := []) dX12_layGames_28 mlRX12_479 cv_X12_heldBy (ct_Md_heldBy (dle (Nat.le_of_ble_eq_true rfl) hd0) he4) (dps (Nat.le_of_ble_eq_true rfl) hd0) rfl rfl (Nat.le_of_ble_eq_true rfl) ?_
        obtain ⟨v5, he5, h⟩ := obind h
        refine y_Si (M := mX12_layGames) (Y := mX12_bits) (d2 := d - 1) (As := [.int v4]) (st := []) dX12_layGames_31 mlRX12_100 cv_X12_bits (ct_Md_bits (dle (Nat.le_of_ble_eq_true rfl) hd0) he5) (dps (Nat.le_of_ble_eq_true rfl) hd0) rfl rfl (Nat.le_of_ble_eq_true rfl) ?_
        refine z_iconst (M := mX12_layGames) (v := 4) dX12_layGames_34 rfl ?_
        refine z_iload_n dX12_layGames_35 3 rfl ?_
        refine z_isub dX12_layGames_36 ?_
        refine z_icmp_eq 43 dX12_layGames_37 rfl (fun hc6 => ?_) (fun hc6 => ?_)
        · replace h := oT hc6 h
          refine z_aload_n dX12_layGames_43 0 rfl ?_
          refine y_getR (M := mX12_layGames) (r := 331) dX12_layGames_44 zk_313 flRX12_75 fr_10_35.1 (fr_10_35.2 _) ?_
          refine z_iload dX12_layGames_47 4 rfl ?_
          refine z_aload_n dX12_layGames_49 0 rfl ?_
          refine z_iload dX12_layGames_50 4 rfl ?_
          refine z_iload_n dX12_layGames_52 1 rfl ?_
          refine z_aload_n dX12_layGames_53 0 rfl ?_
          refine y_getR (M := mX12_layGames) (r := 332) dX12_layGames_54 zk_313 flRX12_78 fr_10_36.1 (fr_10_36.2 _) ?_
          obtain ⟨v7, he7, h⟩ := obind h
          refine y_Vi (M := mX12_layGames) (Y := mX12_bestOf) (d2 := d - 1) (As := [.int x4, .int x1, .ref 332]) (st := [.int x4, .ref 331]) dX12_layGames_57 mlRX12_492 cv_X12_bestOf zk_313 (ct_Md_bestOf (dle (Nat.le_of_ble_eq_true rfl) hd0) zk_332 he7) (dps (Nat.le_of_ble_eq_true rfl) hd0) rfl rfl (Nat.le_of_ble_eq_true rfl) ?_
          obtain ⟨hi8, h⟩ := oif h
          refine y_iast (M := mX12_layGames) (jj := x4.toNatClampNeg) dX12_layGames_60 zk_331 hi8 rfl ?_
          refine z_aload_n dX12_layGames_61 0 rfl ?_
          refine y_getR (M := mX12_layGames) (r := 332) dX12_layGames_62 zk_313 flRX12_78 fr_10_36.1 (fr_10_36.2 _) ?_
          refine z_iload dX12_layGames_65 4 rfl ?_
          refine z_aload_n dX12_layGames_67 0 rfl ?_
          refine z_iload dX12_layGames_68 4 rfl ?_
          refine z_iload_n dX12_layGames_70 2 rfl ?_
          refine z_aload_n dX12_layGames_71 0 rfl ?_
          refine y_getR (M := mX12_layGames) (r := 331) dX12_layGames_72 zk_313 flRX12_75 fr_10_35.1 (fr_10_35.2 _) ?_
          obtain ⟨v9, he9, h⟩ := obind h
          refine y_Vi (M := mX12_layGames) (Y := mX12_bestOf) (d2 := d - 1) (As := [.int x4, .int x2, .ref 331]) (st := [.int x4, .ref 332]) dX12_layGames_75 mlRX12_492 cv_X12_bestOf zk_313 (ct_Md_bestOf (dle (Nat.le_of_ble_eq_true rfl) hd0) zk_331 he9) (dps (Nat.le_of_ble_eq_true rfl) hd0) rfl rfl (Nat.le_of_ble_eq_true rfl) ?_
          obtain ⟨hi10, h⟩ := oif h
          refine y_iast (M := mX12_layGames) (jj := x4.toNatClampNeg) dX12_layGames_78 zk_332 hi10 rfl ?_
          exact t_Md_layGames_79 hd0 ih x1 x2 x3 x4 (si v9.2 332 x4.toNatClampNeg v9.1) _ h
        · replace h := oF hc6 h
          refine z_goto 79 dX12_layGames_40 rfl ?_
          exact t_Md_layGames_79 hd0 ih x1 x2 x3 x4 ν _ h
def Md_layGames_2 : Nat → Int32 → Int32 → Int32 → Nm → Option Nm
  | 0, _, _, _, _ => none
  | f + 1, x1, x2, x3, ν =>
    (if x3 < 0 then
      some ν
    else
      Md_layGames_9 (Md_layGames_2 f) FU x1 x2 x3 (0 : Int32) ν)
set_option maxRecDepth 100000 in
set_option maxHeartbeats 4000000 in
theorem t_Md_layGames_2 {g : GG} {d : Nat} (hd0 : 7 ≤ d) : ∀ (f : Nat), ∀ (x1 : Int32) (x2 : Int32) (x3 : Int32) (ν : Nm) (r : Nm), Md_layGames_2 f x1 x2 x3 ν = some r → Z g d (0, 0) mX12_layGames 333 0 0 2 [(0, .ref 313), (1, .int x1), (2, .int x2), (3, .int x3)] [] (zem ν) (zF g (none, zem r)) := by
  intro f
  induction f with
  | zero =>
    intro x1 x2 x3 ν r h
    cases h
  | succ f ih =>
    intro x1 x2 x3 ν r h
    rw [Md_layGames_2] at h
    refine z_iload_n dX12_layGames_2 3 rfl ?_
    refine z_if_lt 91 dX12_layGames_3 rfl (fun hc1 => ?_) (fun hc1 => ?_)
    · replace h := oT hc1 h
      cases h
      exact z_vret dX12_layGames_91 rfl
    · replace h := oF hc1 h
      refine z_iconst (M := mX12_layGames) (v := 0) dX12_layGames_6 rfl ?_
      refine z_istore (M := mX12_layGames) (lv2 := [(4, .int (0 : Int32)), (0, .ref 313), (1, .int x1), (2, .int x2), (3, .int x3)]) dX12_layGames_7 (Nat.le_of_ble_eq_true rfl) rfl ?_
      refine z_lv (lv2 := [(0, .ref 313), (1, .int x1), (2, .int x2), (3, .int x3), (4, .int (0 : Int32))]) [1, 2, 3, 4, 0] rfl ?_
      exact t_Md_layGames_9 hd0 ih FU x1 x2 x3 (0 : Int32) ν _ h
def Md_layGames (x1 : Int32) (x2 : Int32) (ν : Nm) : Option Nm :=
  Md_layGames_2 FU x1 x2 (4 : Int32) ν
set_option maxRecDepth 100000 in
set_option maxHeartbeats 4000000 in
theorem t_Md_layGames {g : GG} {d : Nat} (hd0 : 7 ≤ d) : ∀ (x1 : Int32) (x2 : Int32) (ν : Nm) (r : Nm), Md_layGames x1 x2 ν = some r → Z g d (0, 0) mX12_layGames 333 0 0 0 [(0, .ref 313), (1, .int x1), (2, .int x2)] [] (zem ν) (zF g (none, zem r)) := by
  intro x1 x2 ν r h
  unfold Md_layGames at h
  refine z_iconst (M := mX12_layGames) (v := 4) dX12_layGames_0 rfl ?_
  refine z_istore_n (M := mX12_layGames) (lv2 := [(3, .int (4 : Int32)), (0, .ref 313), (1, .int x1), (2, .int x2)]) dX12_layGames_1 (Nat.le_of_ble_eq_true rfl) rfl ?_
  refine z_lv (lv2 := [(0, .ref 313), (1, .int x1), (2, .int x2), (3, .int (4 : Int32))]) [1, 2, 3, 0] rfl ?_
  exact t_Md_layGames_2 hd0 FU x1 x2 (4 : Int32) ν _ h
theorem ct_Md_layGames {g : GG} {d : Nat} {x1 : Int32} {x2 : Int32} {ν : Nm} {r : Nm} (hd0 : 7 ≤ d)  (h : Md_layGames x1 x2 ν = some r) : Ct g d mX12_layGames [.ref 313, .int x1, .int x2] (zem ν) (none, zem r) := y_entry in_X12_layGames (Nat.le_of_ble_eq_true rfl) rfl (t_Md_layGames hd0 x1 x2 ν r h)
-- FuseMinutesModel.crews(II)I
theorem dX12_crews_0 : decode cX12_crews 0 = .ok (.iload_n 1, 1) := by decide +kernel
theorem dX12_crews_1 : decode cX12_crews 1 = .ok (.invokestatic 446, 3) := by decide +kernel
theorem dX12_crews_4 : decode cX12_crews 4 = .ok (.ifCond .eq 10, 3) := by decide +kernel
theorem dX12_crews_7 : decode cX12_crews 7 = .ok (.iload_n 2, 1) := by decide +kernel
theorem dX12_crews_8 : decode cX12_crews 8 = .ok (.invokestatic 446, 3) := by decide +kernel
theorem dX12_crews_11 : decode cX12_crews 11 = .ok (.ifCond .ne 6, 3) := by decide +kernel
theorem dX12_crews_14 : decode cX12_crews 14 = .ok (.bipush (-2), 2) := by decide +kernel
theorem dX12_crews_16 : decode cX12_crews 16 = .ok (.ireturn, 1) := by decide +kernel
theorem dX12_crews_17 : decode cX12_crews 17 = .ok (.aload_n 0, 1) := by decide +kernel
theorem dX12_crews_18 : decode cX12_crews 18 = .ok (.iload_n 1, 1) := by decide +kernel
theorem dX12_crews_19 : decode cX12_crews 19 = .ok (.iload_n 2, 1) := by decide +kernel
theorem dX12_crews_20 : decode cX12_crews 20 = .ok (.invokevirtual 496, 3) := by decide +kernel
theorem dX12_crews_23 : decode cX12_crews 23 = .ok (.aload_n 0, 1) := by decide +kernel
theorem dX12_crews_24 : decode cX12_crews 24 = .ok (.getfield 75, 3) := by decide +kernel
theorem dX12_crews_27 : decode cX12_crews 27 = .ok (.iconst 0, 1) := by decide +kernel
theorem dX12_crews_28 : decode cX12_crews 28 = .ok (.iaload, 1) := by decide +kernel
theorem dX12_crews_29 : decode cX12_crews 29 = .ok (.ireturn, 1) := by decide +kernel
def Md_crews (x1 : Int32) (x2 : Int32) (ν : Nm) : Option (Int32 × Nm) :=
  (Md_isSpan x1).bind fun v1 =>
  (if (b2i v1) = 0 then
    some ((-2 : Int32), ν)
  else
    (Md_isSpan x2).bind fun v3 =>
    (if ¬ (b2i v3) = 0 then
      (Md_layGames x1 x2 ν).bind fun v5 =>
      some ((gi v5 331 0), v5)
    else
      some ((-2 : Int32), ν)))
set_option maxRecDepth 100000 in
set_option maxHeartbeats 4000000 in
theorem t_Md_crews {g : GG} {d : Nat} (hd0 : 8 ≤ d) : ∀ (x1 : Int32) (x2 : Int32) (ν : Nm) (r : (Int32 × Nm)), Md_crews x1 x2 ν = some r → Z g d (0, 0) mX12_crews 333 0 0 0 [(0, .ref 313), (1, .int x1), (2, .int x2)] [] (zem ν) (zF g (some (.int r.1), zem r.2)) := by
  intro x1 x2 ν r h
  unfold Md_crews at h
  refine z_iload_n dX12_crews_0 1 rfl ?_
  obtain ⟨v1, he1, h⟩ := obind h
  refine y_Si (M := mX12_crews) (Y := mX12_isSpan) (d2 := d - 1) (As := [.int x1]) (st := []) dX12_crews_1 mlRX12_446 cv_X12_isSpan (ct_Md_isSpan (dle (Nat.le_of_ble_eq_true rfl) hd0) he1) (dps (Nat.le_of_ble_eq_true rfl) hd0) rfl rfl (Nat.le_of_ble_eq_true rfl) ?_
  refine z_if_eq 14 dX12_crews_4 rfl (fun hc2 => ?_) (fun hc2 => ?_)
  · replace h := oT hc2 h
    refine z_bipush (M := mX12_crews) (v := -2) dX12_crews_14 rfl ?_
    cases h
    exact z_iret dX12_crews_16 rfl
  · replace h := oF hc2 h
    refine z_iload_n dX12_crews_7 2 rfl ?_
    obtain ⟨v3, he3, h⟩ := obind h
    refine y_Si (M := mX12_crews) (Y := mX12_isSpan) (d2 := d - 1) (As := [.int x2]) (st := []) dX12_crews_8 mlRX12_446 cv_X12_isSpan (ct_Md_isSpan (dle (Nat.le_of_ble_eq_true rfl) hd0) he3) (dps (Nat.le_of_ble_eq_true rfl) hd0) rfl rfl (Nat.le_of_ble_eq_true rfl) ?_
    refine z_if_ne 17 dX12_crews_11 rfl (fun hc4 => ?_) (fun hc4 => ?_)
    · replace h := oT hc4 h
      refine z_aload_n dX12_crews_17 0 rfl ?_
      refine z_iload_n dX12_crews_18 1 rfl ?_
      refine z_iload_n dX12_crews_19 2 rfl ?_
      obtain ⟨v5, he5, h⟩ := obind h
      refine y_Vv (M := mX12_crews) (Y := mX12_layGames) (d2 := d - 1) (As := [.int x1, .int x2]) (st := []) dX12_crews_20 mlRX12_496 cv_X12_layGames zk_313 (ct_Md_layGames (dle (Nat.le_of_ble_eq_true rfl) hd0) he5) (dps (Nat.le_of_ble_eq_true rfl) hd0) rfl rfl (Nat.le_of_ble_eq_true rfl) ?_
      refine z_aload_n dX12_crews_23 0 rfl ?_
      refine y_getR (M := mX12_crews) (r := 331) dX12_crews_24 zk_313 flRX12_75 fr_10_35.1 (fr_10_35.2 _) ?_
      refine z_iconst (M := mX12_crews) (v := 0) dX12_crews_27 rfl ?_
      refine y_iald (M := mX12_crews) (jj := 0) dX12_crews_28 zk_331 rfl rfl ?_
      cases h
      exact z_iret dX12_crews_29 rfl
    · replace h := oFn hc4 h
      refine z_bipush (M := mX12_crews) (v := -2) dX12_crews_14 rfl ?_
      cases h
      exact z_iret dX12_crews_16 rfl
theorem ct_Md_crews {g : GG} {d : Nat} {x1 : Int32} {x2 : Int32} {ν : Nm} {r : (Int32 × Nm)} (hd0 : 8 ≤ d)  (h : Md_crews x1 x2 ν = some r) : Ct g d mX12_crews [.ref 313, .int x1, .int x2] (zem ν) (some (.int r.1), zem r.2) := y_entry in_X12_crews (Nat.le_of_ble_eq_true rfl) rfl (t_Md_crews hd0 x1 x2 ν r h)
-- FuseMinutesModel.take(II)I
theorem dX12_take_0 : decode cX12_take 0 = .ok (.iload_n 1, 1) := by decide +kernel
theorem dX12_take_1 : decode cX12_take 1 = .ok (.invokestatic 446, 3) := by decide +kernel
theorem dX12_take_4 : decode cX12_take 4 = .ok (.ifCond .eq 10, 3) := by decide +kernel
theorem dX12_take_7 : decode cX12_take 7 = .ok (.iload_n 2, 1) := by decide +kernel
theorem dX12_take_8 : decode cX12_take 8 = .ok (.invokestatic 446, 3) := by decide +kernel
theorem dX12_take_11 : decode cX12_take 11 = .ok (.ifCond .ne 5, 3) := by decide +kernel
theorem dX12_take_14 : decode cX12_take 14 = .ok (.iconst (-1), 1) := by decide +kernel
theorem dX12_take_15 : decode cX12_take 15 = .ok (.ireturn, 1) := by decide +kernel
theorem dX12_take_16 : decode cX12_take 16 = .ok (.aload_n 0, 1) := by decide +kernel
theorem dX12_take_17 : decode cX12_take 17 = .ok (.iload_n 1, 1) := by decide +kernel
theorem dX12_take_18 : decode cX12_take 18 = .ok (.iload_n 2, 1) := by decide +kernel
theorem dX12_take_19 : decode cX12_take 19 = .ok (.invokevirtual 496, 3) := by decide +kernel
theorem dX12_take_22 : decode cX12_take 22 = .ok (.iconst 0, 1) := by decide +kernel
theorem dX12_take_23 : decode cX12_take 23 = .ok (.istore_n 3, 1) := by decide +kernel
theorem dX12_take_24 : decode cX12_take 24 = .ok (.iload_n 3, 1) := by decide +kernel
theorem dX12_take_25 : decode cX12_take 25 = .ok (.aload_n 0, 1) := by decide +kernel
theorem dX12_take_26 : decode cX12_take 26 = .ok (.getfield 7, 3) := by decide +kernel
theorem dX12_take_29 : decode cX12_take 29 = .ok (.iconst 0, 1) := by decide +kernel
theorem dX12_take_30 : decode cX12_take 30 = .ok (.iaload, 1) := by decide +kernel
theorem dX12_take_31 : decode cX12_take 31 = .ok (.if_icmp .ge 31, 3) := by decide +kernel
theorem dX12_take_34 : decode cX12_take 34 = .ok (.aload_n 0, 1) := by decide +kernel
theorem dX12_take_35 : decode cX12_take 35 = .ok (.iconst 0, 1) := by decide +kernel
theorem dX12_take_36 : decode cX12_take 36 = .ok (.iload_n 3, 1) := by decide +kernel
theorem dX12_take_37 : decode cX12_take 37 = .ok (.iload_n 1, 1) := by decide +kernel
theorem dX12_take_38 : decode cX12_take 38 = .ok (.aload_n 0, 1) := by decide +kernel
theorem dX12_take_39 : decode cX12_take 39 = .ok (.getfield 78, 3) := by decide +kernel
theorem dX12_take_42 : decode cX12_take 42 = .ok (.invokevirtual 485, 3) := by decide +kernel
theorem dX12_take_45 : decode cX12_take 45 = .ok (.aload_n 0, 1) := by decide +kernel
theorem dX12_take_46 : decode cX12_take 46 = .ok (.getfield 75, 3) := by decide +kernel
theorem dX12_take_49 : decode cX12_take 49 = .ok (.iconst 0, 1) := by decide +kernel
theorem dX12_take_50 : decode cX12_take 50 = .ok (.iaload, 1) := by decide +kernel
theorem dX12_take_51 : decode cX12_take 51 = .ok (.if_icmp .ne 5, 3) := by decide +kernel
theorem dX12_take_54 : decode cX12_take 54 = .ok (.iload_n 3, 1) := by decide +kernel
theorem dX12_take_55 : decode cX12_take 55 = .ok (.ireturn, 1) := by decide +kernel
theorem dX12_take_56 : decode cX12_take 56 = .ok (.iinc 3 1, 3) := by decide +kernel
theorem dX12_take_59 : decode cX12_take 59 = .ok (.goto (-35), 3) := by decide +kernel
theorem dX12_take_62 : decode cX12_take 62 = .ok (.iconst (-1), 1) := by decide +kernel
theorem dX12_take_63 : decode cX12_take 63 = .ok (.ireturn, 1) := by decide +kernel
def Md_take_24 : Nat → Int32 → Int32 → Nm → Option (Int32 × Nm)
  | 0, _, _, _ => none
  | f + 1, x1, x3, ν =>
    (if (gi ν 314 0) ≤ x3 then
      some ((-1 : Int32), ν)
    else
      (Md_takenBy (0 : Int32) x3 x1 332 ν).bind fun v2 =>
      (if ¬ v2.1 = (gi v2.2 331 0) then
        (Md_take_24 f) x1 (x3 + (1 : Int32)) v2.2
      else
        some (x3, v2.2)))
set_option maxRecDepth 100000 in
set_option maxHeartbeats 4000000 in
theorem t_Md_take_24 {g : GG} {d : Nat} (hd0 : 8 ≤ d) : ∀ (f : Nat), ∀ (x1 : Int32) (x3 : Int32) (ν : Nm) (r : (Int32 × Nm)), Md_take_24 f x1 x3 ν = some r → Z g d (0, 0) mX12_take 333 0 0 24 [(0, .ref 313), (1, .int x1), (3, .int x3)] [] (zem ν) (zF g (some (.int r.1), zem r.2)) := by
  intro f
  induction f with
  | zero =>
    intro x1 x3 ν r h
    cases h
  | succ f ih =>
    intro x1 x3 ν r h
    rw [Md_take_24] at h
    refine z_iload_n dX12_take_24 2 rfl ?_
    refine z_aload_n dX12_take_25 0 rfl ?_
    refine y_getR (M := mX12_take) (r := 314) dX12_take_26 zk_313 flRX12_7 fr_10_0.1 (fr_10_0.2 _) ?_
    refine z_iconst (M := mX12_take) (v := 0) dX12_take_29 rfl ?_
    refine y_iald (M := mX12_take) (jj := 0) dX12_take_30 zk_314 rfl rfl ?_
    refine z_icmp_ge 62 dX12_take_31 rfl (fun hc1 => ?_) (fun hc1 => ?_)
    · replace h := oT hc1 h
      refine z_iconst (M := mX12_take) (v := -1) dX12_take_62 rfl ?_
      cases h
      exact z_iret dX12_take_63 rfl
    · replace h := oF hc1 h
      refine z_aload_n dX12_take_34 0 rfl ?_
      refine z_iconst (M := mX12_take) (v := 0) dX12_take_35 rfl ?_
      refine z_iload_n dX12_take_36 2 rfl ?_
      refine z_iload_n dX12_take_37 1 rfl ?_
      refine z_aload_n dX12_take_38 0 rfl ?_
      refine y_getR (M := mX12_take) (r := 332) dX12_take_39 zk_313 flRX12_78 fr_10_36.1 (fr_10_36.2 _) ?_
      obtain ⟨v2, he2, h⟩ := obind h
      refine y_Vi (M := mX12_take) (Y := mX12_takenBy) (d2 := d - 1) (As := [.int (0 : Int32), .int x3, .int x1, .ref 332]) (st := []) dX12_take_42 mlRX12_485 cv_X12_takenBy zk_313 (ct_Md_takenBy (dle (Nat.le_of_ble_eq_true rfl) hd0) zk_332 he2) (dps (Nat.le_of_ble_eq_true rfl) hd0) rfl rfl (Nat.le_of_ble_eq_true rfl) ?_
      refine z_aload_n dX12_take_45 0 rfl ?_
      refine y_getR (M := mX12_take) (r := 331) dX12_take_46 zk_313 flRX12_75 fr_10_35.1 (fr_10_35.2 _) ?_
      refine z_iconst (M := mX12_take) (v := 0) dX12_take_49 rfl ?_
      refine y_iald (M := mX12_take) (jj := 0) dX12_take_50 zk_331 rfl rfl ?_
      refine z_icmp_ne 56 dX12_take_51 rfl (fun hc3 => ?_) (fun hc3 => ?_)
      · replace h := oT hc3 h
        refine z_iinc (M := mX12_take) (v := (x3 + (1 : Int32))) (lv2 := [(3, .int (x3 + (1 : Int32))), (0, .ref 313), (1, .int x1)]) dX12_take_56 2 rfl rfl (Nat.le_of_ble_eq_true rfl) rfl ?_
        refine z_goto 24 dX12_take_59 rfl ?_
        refine z_lv (lv2 := [(0, .ref 313), (1, .int x1), (3, .int (x3 + (1 : Int32)))]) [1, 2, 0] rfl ?_
        exact ih x1 (x3 + (1 : Int32)) v2.2 _ h
      · replace h := oFn hc3 h
        refine z_iload_n dX12_take_54 2 rfl ?_
        cases h
        exact z_iret dX12_take_55 rfl
def Md_take (x1 : Int32) (x2 : Int32) (ν : Nm) : Option (Int32 × Nm) :=
  (Md_isSpan x1).bind fun v1 =>
  (if (b2i v1) = 0 then
    some ((-1 : Int32), ν)
  else
    (Md_isSpan x2).bind fun v3 =>
    (if ¬ (b2i v3) = 0 then
      (Md_layGames x1 x2 ν).bind fun v5 =>
      Md_take_24 FU x1 (0 : Int32) v5
    else
      some ((-1 : Int32), ν)))
set_option maxRecDepth 100000 in
set_option maxHeartbeats 4000000 in
theorem t_Md_take {g : GG} {d : Nat} (hd0 : 8 ≤ d) : ∀ (x1 : Int32) (x2 : Int32) (ν : Nm) (r : (Int32 × Nm)), Md_take x1 x2 ν = some r → Z g d (0, 0) mX12_take 333 0 0 0 [(0, .ref 313), (1, .int x1), (2, .int x2)] [] (zem ν) (zF g (some (.int r.1), zem r.2)) := by
  intro x1 x2 ν r h
  unfold Md_take at h
  refine z_iload_n dX12_take_0 1 rfl ?_
  obtain ⟨v1, he1, h⟩ := obind h
  refine y_Si (M := mX12_take) (Y := mX12_isSpan) (d2 := d - 1) (As := [.int x1]) (st := []) dX12_take_1 mlRX12_446 cv_X12_isSpan (ct_Md_isSpan (dle (Nat.le_of_ble_eq_true rfl) hd0) he1) (dps (Nat.le_of_ble_eq_true rfl) hd0) rfl rfl (Nat.le_of_ble_eq_true rfl) ?_
  refine z_if_eq 14 dX12_take_4 rfl (fun hc2 => ?_) (fun hc2 => ?_)
  · replace h := oT hc2 h
    refine z_iconst (M := mX12_take) (v := -1) dX12_take_14 rfl ?_
    cases h
    exact z_iret dX12_take_15 rfl
  · replace h := oF hc2 h
    refine z_iload_n dX12_take_7 2 rfl ?_
    obtain ⟨v3, he3, h⟩ := obind h
    refine y_Si (M := mX12_take) (Y := mX12_isSpan) (d2 := d - 1) (As := [.int x2]) (st := []) dX12_take_8 mlRX12_446 cv_X12_isSpan (ct_Md_isSpan (dle (Nat.le_of_ble_eq_true rfl) hd0) he3) (dps (Nat.le_of_ble_eq_true rfl) hd0) rfl rfl (Nat.le_of_ble_eq_true rfl) ?_
    refine z_if_ne 16 dX12_take_11 rfl (fun hc4 => ?_) (fun hc4 => ?_)
    · replace h := oT hc4 h
      refine z_aload_n dX12_take_16 0 rfl ?_
      refine z_iload_n dX12_take_17 1 rfl ?_
      refine z_iload_n dX12_take_18 2 rfl ?_
      obtain ⟨v5, he5, h⟩ := obind h
      refine y_Vv (M := mX12_take) (Y := mX12_layGames) (d2 := d - 1) (As := [.int x1, .int x2]) (st := []) dX12_take_19 mlRX12_496 cv_X12_layGames zk_313 (ct_Md_layGames (dle (Nat.le_of_ble_eq_true rfl) hd0) he5) (dps (Nat.le_of_ble_eq_true rfl) hd0) rfl rfl (Nat.le_of_ble_eq_true rfl) ?_
      refine z_iconst (M := mX12_take) (v := 0) dX12_take_22 rfl ?_
      refine z_istore_n (M := mX12_take) (lv2 := [(3, .int (0 : Int32)), (0, .ref 313), (1, .int x1), (2, .int x2)]) dX12_take_23 (Nat.le_of_ble_eq_true rfl) rfl ?_
      refine z_lv (lv2 := [(0, .ref 313), (1, .int x1), (3, .int (0 : Int32))]) [1, 2, 0] rfl ?_
      exact t_Md_take_24 hd0 FU x1 (0 : Int32) v5 _ h
    · replace h := oFn hc4 h
      refine z_iconst (M := mX12_take) (v := -1) dX12_take_14 rfl ?_
      cases h
      exact z_iret dX12_take_15 rfl
theorem ct_Md_take {g : GG} {d : Nat} {x1 : Int32} {x2 : Int32} {ν : Nm} {r : (Int32 × Nm)} (hd0 : 8 ≤ d)  (h : Md_take x1 x2 ν = some r) : Ct g d mX12_take [.ref 313, .int x1, .int x2] (zem ν) (some (.int r.1), zem r.2) := y_entry in_X12_take (Nat.le_of_ble_eq_true rfl) rfl (t_Md_take hd0 x1 x2 ν r h)
-- FuseMinutesModel.tried(IZ)I
theorem dX12_tried_0 : decode cX12_tried 0 = .ok (.iload_n 1, 1) := by decide +kernel
theorem dX12_tried_1 : decode cX12_tried 1 = .ok (.iconst (-1), 1) := by decide +kernel
theorem dX12_tried_2 : decode cX12_tried 2 = .ok (.if_icmp .ne 13, 3) := by decide +kernel
theorem dX12_tried_5 : decode cX12_tried 5 = .ok (.aload_n 0, 1) := by decide +kernel
theorem dX12_tried_6 : decode cX12_tried 6 = .ok (.getfield 7, 3) := by decide +kernel
theorem dX12_tried_9 : decode cX12_tried 9 = .ok (.bipush 6, 2) := by decide +kernel
theorem dX12_tried_11 : decode cX12_tried 11 = .ok (.iconst 0, 1) := by decide +kernel
theorem dX12_tried_12 : decode cX12_tried 12 = .ok (.iastore, 1) := by decide +kernel
theorem dX12_tried_13 : decode cX12_tried 13 = .ok (.iconst 0, 1) := by decide +kernel
theorem dX12_tried_14 : decode cX12_tried 14 = .ok (.ireturn, 1) := by decide +kernel
theorem dX12_tried_15 : decode cX12_tried 15 = .ok (.aload_n 0, 1) := by decide +kernel
theorem dX12_tried_16 : decode cX12_tried 16 = .ok (.iload_n 1, 1) := by decide +kernel
theorem dX12_tried_17 : decode cX12_tried 17 = .ok (.invokevirtual 440, 3) := by decide +kernel
theorem dX12_tried_20 : decode cX12_tried 20 = .ok (.ifCond .eq 15, 3) := by decide +kernel
theorem dX12_tried_23 : decode cX12_tried 23 = .ok (.aload_n 0, 1) := by decide +kernel
theorem dX12_tried_24 : decode cX12_tried 24 = .ok (.getfield 7, 3) := by decide +kernel
theorem dX12_tried_27 : decode cX12_tried 27 = .ok (.bipush 6, 2) := by decide +kernel
theorem dX12_tried_29 : decode cX12_tried 29 = .ok (.iaload, 1) := by decide +kernel
theorem dX12_tried_30 : decode cX12_tried 30 = .ok (.bipush 8, 2) := by decide +kernel
theorem dX12_tried_32 : decode cX12_tried 32 = .ok (.if_icmp .ne 6, 3) := by decide +kernel
theorem dX12_tried_35 : decode cX12_tried 35 = .ok (.bipush (-2), 2) := by decide +kernel
theorem dX12_tried_37 : decode cX12_tried 37 = .ok (.ireturn, 1) := by decide +kernel
theorem dX12_tried_38 : decode cX12_tried 38 = .ok (.aload_n 0, 1) := by decide +kernel
theorem dX12_tried_39 : decode cX12_tried 39 = .ok (.getfield 7, 3) := by decide +kernel
theorem dX12_tried_42 : decode cX12_tried 42 = .ok (.bipush 33, 2) := by decide +kernel
theorem dX12_tried_44 : decode cX12_tried 44 = .ok (.iconst 2, 1) := by decide +kernel
theorem dX12_tried_45 : decode cX12_tried 45 = .ok (.aload_n 0, 1) := by decide +kernel
theorem dX12_tried_46 : decode cX12_tried 46 = .ok (.getfield 7, 3) := by decide +kernel
theorem dX12_tried_49 : decode cX12_tried 49 = .ok (.bipush 6, 2) := by decide +kernel
theorem dX12_tried_51 : decode cX12_tried 51 = .ok (.iaload, 1) := by decide +kernel
theorem dX12_tried_52 : decode cX12_tried 52 = .ok (.imul, 1) := by decide +kernel
theorem dX12_tried_53 : decode cX12_tried 53 = .ok (.iadd, 1) := by decide +kernel
theorem dX12_tried_54 : decode cX12_tried 54 = .ok (.iload_n 1, 1) := by decide +kernel
theorem dX12_tried_55 : decode cX12_tried 55 = .ok (.iastore, 1) := by decide +kernel
theorem dX12_tried_56 : decode cX12_tried 56 = .ok (.aload_n 0, 1) := by decide +kernel
theorem dX12_tried_57 : decode cX12_tried 57 = .ok (.getfield 7, 3) := by decide +kernel
theorem dX12_tried_60 : decode cX12_tried 60 = .ok (.bipush 33, 2) := by decide +kernel
theorem dX12_tried_62 : decode cX12_tried 62 = .ok (.iconst 2, 1) := by decide +kernel
theorem dX12_tried_63 : decode cX12_tried 63 = .ok (.aload_n 0, 1) := by decide +kernel
theorem dX12_tried_64 : decode cX12_tried 64 = .ok (.getfield 7, 3) := by decide +kernel
theorem dX12_tried_67 : decode cX12_tried 67 = .ok (.bipush 6, 2) := by decide +kernel
theorem dX12_tried_69 : decode cX12_tried 69 = .ok (.iaload, 1) := by decide +kernel
theorem dX12_tried_70 : decode cX12_tried 70 = .ok (.imul, 1) := by decide +kernel
theorem dX12_tried_71 : decode cX12_tried 71 = .ok (.iadd, 1) := by decide +kernel
theorem dX12_tried_72 : decode cX12_tried 72 = .ok (.iconst 1, 1) := by decide +kernel
theorem dX12_tried_73 : decode cX12_tried 73 = .ok (.iadd, 1) := by decide +kernel
theorem dX12_tried_74 : decode cX12_tried 74 = .ok (.iload_n 2, 1) := by decide +kernel
theorem dX12_tried_75 : decode cX12_tried 75 = .ok (.ifCond .eq 7, 3) := by decide +kernel
theorem dX12_tried_78 : decode cX12_tried 78 = .ok (.iconst 1, 1) := by decide +kernel
theorem dX12_tried_79 : decode cX12_tried 79 = .ok (.goto 4, 3) := by decide +kernel
theorem dX12_tried_82 : decode cX12_tried 82 = .ok (.iconst 0, 1) := by decide +kernel
theorem dX12_tried_83 : decode cX12_tried 83 = .ok (.iastore, 1) := by decide +kernel
theorem dX12_tried_84 : decode cX12_tried 84 = .ok (.aload_n 0, 1) := by decide +kernel
theorem dX12_tried_85 : decode cX12_tried 85 = .ok (.getfield 7, 3) := by decide +kernel
theorem dX12_tried_88 : decode cX12_tried 88 = .ok (.bipush 6, 2) := by decide +kernel
theorem dX12_tried_90 : decode cX12_tried 90 = .ok (.dup2, 1) := by decide +kernel
theorem dX12_tried_91 : decode cX12_tried 91 = .ok (.iaload, 1) := by decide +kernel
theorem dX12_tried_92 : decode cX12_tried 92 = .ok (.iconst 1, 1) := by decide +kernel
theorem dX12_tried_93 : decode cX12_tried 93 = .ok (.iadd, 1) := by decide +kernel
theorem dX12_tried_94 : decode cX12_tried 94 = .ok (.iastore, 1) := by decide +kernel
theorem dX12_tried_95 : decode cX12_tried 95 = .ok (.aload_n 0, 1) := by decide +kernel
theorem dX12_tried_96 : decode cX12_tried 96 = .ok (.getfield 7, 3) := by decide +kernel
theorem dX12_tried_99 : decode cX12_tried 99 = .ok (.bipush 6, 2) := by decide +kernel
theorem dX12_tried_101 : decode cX12_tried 101 = .ok (.iaload, 1) := by decide +kernel
theorem dX12_tried_102 : decode cX12_tried 102 = .ok (.ireturn, 1) := by decide +kernel
def Md_tried_83 (s0 : Int32) (s1 : Int32) (ν : Nm) : Option (Int32 × Nm) :=
  if inb s1 1385 then
  some ((gi (si (si ν 314 s1.toNatClampNeg s0) 314 6 ((gi (si ν 314 s1.toNatClampNeg s0) 314 6) + (1 : Int32))) 314 6), (si (si ν 314 s1.toNatClampNeg s0) 314 6 ((gi (si ν 314 s1.toNatClampNeg s0) 314 6) + (1 : Int32))))
  else none
set_option maxRecDepth 100000 in
set_option maxHeartbeats 4000000 in
theorem t_Md_tried_83 {g : GG} {d : Nat} (hd0 : 3 ≤ d) : ∀ (s0 : Int32) (s1 : Int32) (ν : Nm) (r : (Int32 × Nm)), Md_tried_83 s0 s1 ν = some r → Z g d (0, 0) mX12_tried 333 0 0 83 [(0, .ref 313)] [.int s0, .int s1, .ref 314] (zem ν) (zF g (some (.int r.1), zem r.2)) := by
  intro s0 s1 ν r h
  unfold Md_tried_83 at h
  obtain ⟨hi1, h⟩ := oif h
  refine y_iast (M := mX12_tried) (jj := s1.toNatClampNeg) dX12_tried_83 zk_314 hi1 rfl ?_
  refine z_aload_n dX12_tried_84 0 rfl ?_
  refine y_getR (M := mX12_tried) (r := 314) dX12_tried_85 zk_313 flRX12_7 fr_10_0.1 (fr_10_0.2 _) ?_
  refine z_bipush (M := mX12_tried) (v := 6) dX12_tried_88 rfl ?_
  refine z_dup2 dX12_tried_90 rfl rfl ?_
  refine y_iald (M := mX12_tried) (jj := 6) dX12_tried_91 zk_314 rfl rfl ?_
  refine z_iconst (M := mX12_tried) (v := 1) dX12_tried_92 rfl ?_
  refine z_iadd dX12_tried_93 ?_
  refine y_iast (M := mX12_tried) (jj := 6) dX12_tried_94 zk_314 rfl rfl ?_
  refine z_aload_n dX12_tried_95 0 rfl ?_
  refine y_getR (M := mX12_tried) (r := 314) dX12_tried_96 zk_313 flRX12_7 fr_10_0.1 (fr_10_0.2 _) ?_
  refine z_bipush (M := mX12_tried) (v := 6) dX12_tried_99 rfl ?_
  refine y_iald (M := mX12_tried) (jj := 6) dX12_tried_101 zk_314 rfl rfl ?_
  cases h
  exact z_iret dX12_tried_102 rfl
def Md_tried (x1 : Int32) (x2 : Int32) (ν : Nm) : Option (Int32 × Nm) :=
  (if ¬ x1 = (-1 : Int32) then
    (Md_areCords ν x1).bind fun v2 =>
    (if (b2i v2) = 0 then
      some ((-2 : Int32), ν)
    else
      (if ¬ (gi ν 314 6) = (8 : Int32) then
        if inb ((33 : Int32) + ((2 : Int32) * (gi ν 314 6))) 1385 then
        (if x2 = 0 then
          Md_tried_83 (0 : Int32) (((33 : Int32) + ((2 : Int32) * (gi (si ν 314 ((33 : Int32) + ((2 : Int32) * (gi ν 314 6))).toNatClampNeg x1) 314 6))) + (1 : Int32)) (si ν 314 ((33 : Int32) + ((2 : Int32) * (gi ν 314 6))).toNatClampNeg x1)
        else
          Md_tried_83 (1 : Int32) (((33 : Int32) + ((2 : Int32) * (gi (si ν 314 ((33 : Int32) + ((2 : Int32) * (gi ν 314 6))).toNatClampNeg x1) 314 6))) + (1 : Int32)) (si ν 314 ((33 : Int32) + ((2 : Int32) * (gi ν 314 6))).toNatClampNeg x1))
        else none
      else
        some ((-2 : Int32), ν)))
  else
    some ((0 : Int32), (si ν 314 6 (0 : Int32))))
set_option maxRecDepth 100000 in
set_option maxHeartbeats 4000000 in
theorem t_Md_tried {g : GG} {d : Nat} (hd0 : 3 ≤ d) : ∀ (x1 : Int32) (x2 : Int32) (ν : Nm) (r : (Int32 × Nm)), Md_tried x1 x2 ν = some r → Z g d (0, 0) mX12_tried 333 0 0 0 [(0, .ref 313), (1, .int x1), (2, .int x2)] [] (zem ν) (zF g (some (.int r.1), zem r.2)) := by
  intro x1 x2 ν r h
  unfold Md_tried at h
  refine z_iload_n dX12_tried_0 1 rfl ?_
  refine z_iconst (M := mX12_tried) (v := -1) dX12_tried_1 rfl ?_
  refine z_icmp_ne 15 dX12_tried_2 rfl (fun hc1 => ?_) (fun hc1 => ?_)
  · replace h := oT hc1 h
    refine z_aload_n dX12_tried_15 0 rfl ?_
    refine z_iload_n dX12_tried_16 1 rfl ?_
    obtain ⟨v2, he2, h⟩ := obind h
    refine y_Vi (M := mX12_tried) (Y := mX12_areCords) (d2 := d - 1) (As := [.int x1]) (st := []) dX12_tried_17 mlRX12_440 cv_X12_areCords zk_313 (ct_Md_areCords (dle (Nat.le_of_ble_eq_true rfl) hd0) he2) (dps (Nat.le_of_ble_eq_true rfl) hd0) rfl rfl (Nat.le_of_ble_eq_true rfl) ?_
    refine z_if_eq 35 dX12_tried_20 rfl (fun hc3 => ?_) (fun hc3 => ?_)
    · replace h := oT hc3 h
      refine z_bipush (M := mX12_tried) (v := -2) dX12_tried_35 rfl ?_
      cases h
      exact z_iret dX12_tried_37 rfl
    · replace h := oF hc3 h
      refine z_aload_n dX12_tried_23 0 rfl ?_
      refine y_getR (M := mX12_tried) (r := 314) dX12_tried_24 zk_313 flRX12_7 fr_10_0.1 (fr_10_0.2 _) ?_
      refine z_bipush (M := mX12_tried) (v := 6) dX12_tried_27 rfl ?_
      refine y_iald (M := mX12_tried) (jj := 6) dX12_tried_29 zk_314 rfl rfl ?_
      refine z_bipush (M := mX12_tried) (v := 8) dX12_tried_30 rfl ?_
      refine z_icmp_ne 38 dX12_tried_32 rfl (fun hc4 => ?_) (fun hc4 => ?_)
      · replace h := oT hc4 h
        refine z_aload_n dX12_tried_38 0 rfl ?_
        refine y_getR (M := mX12_tried) (r := 314) dX12_tried_39 zk_313 flRX12_7 fr_10_0.1 (fr_10_0.2 _) ?_
        refine z_bipush (M := mX12_tried) (v := 33) dX12_tried_42 rfl ?_
        refine z_iconst (M := mX12_tried) (v := 2) dX12_tried_44 rfl ?_
        refine z_aload_n dX12_tried_45 0 rfl ?_
        refine y_getR (M := mX12_tried) (r := 314) dX12_tried_46 zk_313 flRX12_7 fr_10_0.1 (fr_10_0.2 _) ?_
        refine z_bipush (M := mX12_tried) (v := 6) dX12_tried_49 rfl ?_
        refine y_iald (M := mX12_tried) (jj := 6) dX12_tried_51 zk_314 rfl rfl ?_
        refine z_imul dX12_tried_52 ?_
        refine z_iadd dX12_tried_53 ?_
        refine z_iload_n dX12_tried_54 1 rfl ?_
        obtain ⟨hi5, h⟩ := oif h
        refine y_iast (M := mX12_tried) (jj := ((33 : Int32) + ((2 : Int32) * (gi ν 314 6))).toNatClampNeg) dX12_tried_55 zk_314 hi5 rfl ?_
        refine z_aload_n dX12_tried_56 0 rfl ?_
        refine y_getR (M := mX12_tried) (r := 314) dX12_tried_57 zk_313 flRX12_7 fr_10_0.1 (fr_10_0.2 _) ?_
        refine z_bipush (M := mX12_tried) (v := 33) dX12_tried_60 rfl ?_
        refine z_iconst (M := mX12_tried) (v := 2) dX12_tried_62 rfl ?_
        refine z_aload_n dX12_tried_63 0 rfl ?_
        refine y_getR (M := mX12_tried) (r := 314) dX12_tried_64 zk_313 flRX12_7 fr_10_0.1 (fr_10_0.2 _) ?_
        refine z_bipush (M := mX12_tried) (v := 6) dX12_tried_67 rfl ?_
        refine y_iald (M := mX12_tried) (jj := 6) dX12_tried_69 zk_314 rfl rfl ?_
        refine z_imul dX12_tried_70 ?_
        refine z_iadd dX12_tried_71 ?_
        refine z_iconst (M := mX12_tried) (v := 1) dX12_tried_72 rfl ?_
        refine z_iadd dX12_tried_73 ?_
        refine z_iload_n dX12_tried_74 2 rfl ?_
        refine z_if_eq 82 dX12_tried_75 rfl (fun hc6 => ?_) (fun hc6 => ?_)
        · replace h := oT hc6 h
          refine z_iconst (M := mX12_tried) (v := 0) dX12_tried_82 rfl ?_
          refine z_lv (lv2 := [(0, .ref 313)]) [0] rfl ?_
          exact t_Md_tried_83 hd0  (0 : Int32) (((33 : Int32) + ((2 : Int32) * (gi (si ν 314 ((33 : Int32) + ((2 : Int32) * (gi ν 314 6))).toNatClampNeg x1) 314 6))) + (1 : Int32)) (si ν 314 ((33 : Int32) + ((2 : Int32) * (gi ν 314 6))).toNatClampNeg x1) _ h
        · replace h := oF hc6 h
          refine z_iconst (M := mX12_tried) (v := 1) dX12_tried_78 rfl ?_
          refine z_goto 83 dX12_tried_79 rfl ?_
          refine z_lv (lv2 := [(0, .ref 313)]) [0] rfl ?_
          exact t_Md_tried_83 hd0  (1 : Int32) (((33 : Int32) + ((2 : Int32) * (gi (si ν 314 ((33 : Int32) + ((2 : Int32) * (gi ν 314 6))).toNatClampNeg x1) 314 6))) + (1 : Int32)) (si ν 314 ((33 : Int32) + ((2 : Int32) * (gi ν 314 6))).toNatClampNeg x1) _ h
      · replace h := oFn hc4 h
        refine z_bipush (M := mX12_tried) (v := -2) dX12_tried_35 rfl ?_
        cases h
        exact z_iret dX12_tried_37 rfl
  · replace h := oFn hc1 h
    refine z_aload_n dX12_tried_5 0 rfl ?_
    refine y_getR (M := mX12_tried) (r := 314) dX12_tried_6 zk_313 flRX12_7 fr_10_0.1 (fr_10_0.2 _) ?_
    refine z_bipush (M := mX12_tried) (v := 6) dX12_tried_9 rfl ?_
    refine z_iconst (M := mX12_tried) (v := 0) dX12_tried_11 rfl ?_
    refine y_iast (M := mX12_tried) (jj := 6) dX12_tried_12 zk_314 rfl rfl ?_
    refine z_iconst (M := mX12_tried) (v := 0) dX12_tried_13 rfl ?_
    cases h
    exact z_iret dX12_tried_14 rfl
theorem ct_Md_tried {g : GG} {d : Nat} {x1 : Int32} {x2 : Int32} {ν : Nm} {r : (Int32 × Nm)} (hd0 : 3 ≤ d)  (h : Md_tried x1 x2 ν = some r) : Ct g d mX12_tried [.ref 313, .int x1, .int x2] (zem ν) (some (.int r.1), zem r.2) := y_entry in_X12_tried (Nat.le_of_ble_eq_true rfl) rfl (t_Md_tried hd0 x1 x2 ν r h)
-- FuseMinutesModel.isSuspect(I)Z
theorem dX12_isSuspect_0 : decode cX12_isSuspect 0 = .ok (.bipush 33, 2) := by decide +kernel
theorem dX12_isSuspect_2 : decode cX12_isSuspect 2 = .ok (.istore_n 2, 1) := by decide +kernel
theorem dX12_isSuspect_3 : decode cX12_isSuspect 3 = .ok (.iload_n 2, 1) := by decide +kernel
theorem dX12_isSuspect_4 : decode cX12_isSuspect 4 = .ok (.bipush 33, 2) := by decide +kernel
theorem dX12_isSuspect_6 : decode cX12_isSuspect 6 = .ok (.iconst 2, 1) := by decide +kernel
theorem dX12_isSuspect_7 : decode cX12_isSuspect 7 = .ok (.aload_n 0, 1) := by decide +kernel
theorem dX12_isSuspect_8 : decode cX12_isSuspect 8 = .ok (.getfield 7, 3) := by decide +kernel
theorem dX12_isSuspect_11 : decode cX12_isSuspect 11 = .ok (.bipush 6, 2) := by decide +kernel
theorem dX12_isSuspect_13 : decode cX12_isSuspect 13 = .ok (.iaload, 1) := by decide +kernel
theorem dX12_isSuspect_14 : decode cX12_isSuspect 14 = .ok (.imul, 1) := by decide +kernel
theorem dX12_isSuspect_15 : decode cX12_isSuspect 15 = .ok (.iadd, 1) := by decide +kernel
theorem dX12_isSuspect_16 : decode cX12_isSuspect 16 = .ok (.if_icmp .ge 47, 3) := by decide +kernel
theorem dX12_isSuspect_19 : decode cX12_isSuspect 19 = .ok (.aload_n 0, 1) := by decide +kernel
theorem dX12_isSuspect_20 : decode cX12_isSuspect 20 = .ok (.getfield 7, 3) := by decide +kernel
theorem dX12_isSuspect_23 : decode cX12_isSuspect 23 = .ok (.iload_n 2, 1) := by decide +kernel
theorem dX12_isSuspect_24 : decode cX12_isSuspect 24 = .ok (.iaload, 1) := by decide +kernel
theorem dX12_isSuspect_25 : decode cX12_isSuspect 25 = .ok (.iload_n 1, 1) := by decide +kernel
theorem dX12_isSuspect_26 : decode cX12_isSuspect 26 = .ok (.iand, 1) := by decide +kernel
theorem dX12_isSuspect_27 : decode cX12_isSuspect 27 = .ok (.ifCond .eq 7, 3) := by decide +kernel
theorem dX12_isSuspect_30 : decode cX12_isSuspect 30 = .ok (.iconst 1, 1) := by decide +kernel
theorem dX12_isSuspect_31 : decode cX12_isSuspect 31 = .ok (.goto 4, 3) := by decide +kernel
theorem dX12_isSuspect_34 : decode cX12_isSuspect 34 = .ok (.iconst 0, 1) := by decide +kernel
theorem dX12_isSuspect_35 : decode cX12_isSuspect 35 = .ok (.aload_n 0, 1) := by decide +kernel
theorem dX12_isSuspect_36 : decode cX12_isSuspect 36 = .ok (.getfield 7, 3) := by decide +kernel
theorem dX12_isSuspect_39 : decode cX12_isSuspect 39 = .ok (.iload_n 2, 1) := by decide +kernel
theorem dX12_isSuspect_40 : decode cX12_isSuspect 40 = .ok (.iconst 1, 1) := by decide +kernel
theorem dX12_isSuspect_41 : decode cX12_isSuspect 41 = .ok (.iadd, 1) := by decide +kernel
theorem dX12_isSuspect_42 : decode cX12_isSuspect 42 = .ok (.iaload, 1) := by decide +kernel
theorem dX12_isSuspect_43 : decode cX12_isSuspect 43 = .ok (.iconst 1, 1) := by decide +kernel
theorem dX12_isSuspect_44 : decode cX12_isSuspect 44 = .ok (.if_icmp .ne 7, 3) := by decide +kernel
theorem dX12_isSuspect_47 : decode cX12_isSuspect 47 = .ok (.iconst 1, 1) := by decide +kernel
theorem dX12_isSuspect_48 : decode cX12_isSuspect 48 = .ok (.goto 4, 3) := by decide +kernel
theorem dX12_isSuspect_51 : decode cX12_isSuspect 51 = .ok (.iconst 0, 1) := by decide +kernel
theorem dX12_isSuspect_52 : decode cX12_isSuspect 52 = .ok (.if_icmp .eq 5, 3) := by decide +kernel
theorem dX12_isSuspect_55 : decode cX12_isSuspect 55 = .ok (.iconst 0, 1) := by decide +kernel
theorem dX12_isSuspect_56 : decode cX12_isSuspect 56 = .ok (.ireturn, 1) := by decide +kernel
theorem dX12_isSuspect_57 : decode cX12_isSuspect 57 = .ok (.iinc 2 2, 3) := by decide +kernel
theorem dX12_isSuspect_60 : decode cX12_isSuspect 60 = .ok (.goto (-57), 3) := by decide +kernel
theorem dX12_isSuspect_63 : decode cX12_isSuspect 63 = .ok (.iconst 1, 1) := by decide +kernel
theorem dX12_isSuspect_64 : decode cX12_isSuspect 64 = .ok (.ireturn, 1) := by decide +kernel
def Md_isSuspect_52 (ν : Nm) (k3 : Int32 → Int32 → Option Bool) (x1 : Int32) (x2 : Int32) (s0 : Int32) (s1 : Int32) : Option Bool :=
  (if s1 = s0 then
    k3 x1 (x2 + (2 : Int32))
  else
    some false)
set_option maxRecDepth 100000 in
set_option maxHeartbeats 4000000 in
theorem t_Md_isSuspect_52 {g : GG} {d : Nat} {ν : Nm} (hd0 : 1 ≤ d) {k3 : Int32 → Int32 → Option Bool} (hk3 : ∀ (x1 : Int32) (x2 : Int32) (r : Bool), k3 x1 x2 = some r → Z g d (0, 0) mX12_isSuspect 333 0 0 3 [(0, .ref 313), (1, .int x1), (2, .int x2)] [] (zem ν) (zF g (some (.int (b2i r)), zem ν))) : ∀ (x1 : Int32) (x2 : Int32) (s0 : Int32) (s1 : Int32) (r : Bool), Md_isSuspect_52 ν k3 x1 x2 s0 s1 = some r → Z g d (0, 0) mX12_isSuspect 333 0 0 52 [(0, .ref 313), (1, .int x1), (2, .int x2)] [.int s0, .int s1] (zem ν) (zF g (some (.int (b2i r)), zem ν)) := by
  intro x1 x2 s0 s1 r h
  unfold Md_isSuspect_52 at h
  refine z_icmp_eq 57 dX12_isSuspect_52 rfl (fun hc1 => ?_) (fun hc1 => ?_)
  · replace h := oT hc1 h
    refine z_iinc (M := mX12_isSuspect) (v := (x2 + (2 : Int32))) (lv2 := [(2, .int (x2 + (2 : Int32))), (0, .ref 313), (1, .int x1)]) dX12_isSuspect_57 2 rfl rfl (Nat.le_of_ble_eq_true rfl) rfl ?_
    refine z_goto 3 dX12_isSuspect_60 rfl ?_
    refine z_lv (lv2 := [(0, .ref 313), (1, .int x1), (2, .int (x2 + (2 : Int32)))]) [1, 2, 0] rfl ?_
    exact hk3 x1 (x2 + (2 : Int32)) _ h
  · replace h := oF hc1 h
    refine z_iconst (M := mX12_isSuspect) (v := 0) dX12_isSuspect_55 rfl ?_
    cases h
    exact z_zret dX12_isSuspect_56 rfl rfl
def Md_isSuspect_35 (ν : Nm) (k3 : Int32 → Int32 → Option Bool) (x1 : Int32) (x2 : Int32) (s0 : Int32) : Option Bool :=
  if inb (x2 + (1 : Int32)) 1385 then
  (if ¬ (gi ν 314 (x2 + (1 : Int32)).toNatClampNeg) = (1 : Int32) then
    Md_isSuspect_52 ν k3 x1 x2 (0 : Int32) s0
  else
    Md_isSuspect_52 ν k3 x1 x2 (1 : Int32) s0)
  else none
set_option maxRecDepth 100000 in
set_option maxHeartbeats 4000000 in
theorem t_Md_isSuspect_35 {g : GG} {d : Nat} {ν : Nm} (hd0 : 1 ≤ d) {k3 : Int32 → Int32 → Option Bool} (hk3 : ∀ (x1 : Int32) (x2 : Int32) (r : Bool), k3 x1 x2 = some r → Z g d (0, 0) mX12_isSuspect 333 0 0 3 [(0, .ref 313), (1, .int x1), (2, .int x2)] [] (zem ν) (zF g (some (.int (b2i r)), zem ν))) : ∀ (x1 : Int32) (x2 : Int32) (s0 : Int32) (r : Bool), Md_isSuspect_35 ν k3 x1 x2 s0 = some r → Z g d (0, 0) mX12_isSuspect 333 0 0 35 [(0, .ref 313), (1, .int x1), (2, .int x2)] [.int s0] (zem ν) (zF g (some (.int (b2i r)), zem ν)) := by
  intro x1 x2 s0 r h
  unfold Md_isSuspect_35 at h
  refine z_aload_n dX12_isSuspect_35 0 rfl ?_
  refine y_getR (M := mX12_isSuspect) (r := 314) dX12_isSuspect_36 zk_313 flRX12_7 fr_10_0.1 (fr_10_0.2 _) ?_
  refine z_iload_n dX12_isSuspect_39 2 rfl ?_
  refine z_iconst (M := mX12_isSuspect) (v := 1) dX12_isSuspect_40 rfl ?_
  refine z_iadd dX12_isSuspect_41 ?_
  obtain ⟨hi1, h⟩ := oif h
  refine y_iald (M := mX12_isSuspect) (jj := (x2 + (1 : Int32)).toNatClampNeg) dX12_isSuspect_42 zk_314 hi1 rfl ?_
  refine z_iconst (M := mX12_isSuspect) (v := 1) dX12_isSuspect_43 rfl ?_
  refine z_icmp_ne 51 dX12_isSuspect_44 rfl (fun hc2 => ?_) (fun hc2 => ?_)
  · replace h := oT hc2 h
    refine z_iconst (M := mX12_isSuspect) (v := 0) dX12_isSuspect_51 rfl ?_
    exact t_Md_isSuspect_52 hd0 hk3 x1 x2 (0 : Int32) s0 _ h
  · replace h := oFn hc2 h
    refine z_iconst (M := mX12_isSuspect) (v := 1) dX12_isSuspect_47 rfl ?_
    refine z_goto 52 dX12_isSuspect_48 rfl ?_
    exact t_Md_isSuspect_52 hd0 hk3 x1 x2 (1 : Int32) s0 _ h
def Md_isSuspect_3 (ν : Nm) : Nat → Int32 → Int32 → Option Bool
  | 0, _, _ => none
  | f + 1, x1, x2 =>
    (if ((33 : Int32) + ((2 : Int32) * (gi ν 314 6))) ≤ x2 then
      some true
    else
      if inb x2 1385 then
      (if ((gi ν 314 x2.toNatClampNeg) &&& x1) = 0 then
        Md_isSuspect_35 ν (Md_isSuspect_3 ν f) x1 x2 (0 : Int32)
      else
        Md_isSuspect_35 ν (Md_isSuspect_3 ν f) x1 x2 (1 : Int32))
      else none)
set_option maxRecDepth 100000 in
set_option maxHeartbeats 4000000 in
theorem t_Md_isSuspect_3 {g : GG} {d : Nat} {ν : Nm} (hd0 : 1 ≤ d) : ∀ (f : Nat), ∀ (x1 : Int32) (x2 : Int32) (r : Bool), Md_isSuspect_3 ν f x1 x2 = some r → Z g d (0, 0) mX12_isSuspect 333 0 0 3 [(0, .ref 313), (1, .int x1), (2, .int x2)] [] (zem ν) (zF g (some (.int (b2i r)), zem ν)) := by
  intro f
  induction f with
  | zero =>
    intro x1 x2 r h
    cases h
  | succ f ih =>
    intro x1 x2 r h
    rw [Md_isSuspect_3] at h
    refine z_iload_n dX12_isSuspect_3 2 rfl ?_
    refine z_bipush (M := mX12_isSuspect) (v := 33) dX12_isSuspect_4 rfl ?_
    refine z_iconst (M := mX12_isSuspect) (v := 2) dX12_isSuspect_6 rfl ?_
    refine z_aload_n dX12_isSuspect_7 0 rfl ?_
    refine y_getR (M := mX12_isSuspect) (r := 314) dX12_isSuspect_8 zk_313 flRX12_7 fr_10_0.1 (fr_10_0.2 _) ?_
    refine z_bipush (M := mX12_isSuspect) (v := 6) dX12_isSuspect_11 rfl ?_
    refine y_iald (M := mX12_isSuspect) (jj := 6) dX12_isSuspect_13 zk_314 rfl rfl ?_
    refine z_imul dX12_isSuspect_14 ?_
    refine z_iadd dX12_isSuspect_15 ?_
    refine z_icmp_ge 63 dX12_isSuspect_16 rfl (fun hc1 => ?_) (fun hc1 => ?_)
    · replace h := oT hc1 h
      refine z_iconst (M := mX12_isSuspect) (v := 1) dX12_isSuspect_63 rfl ?_
      cases h
      exact z_zret dX12_isSuspect_64 rfl rfl
    · replace h := oF hc1 h
      refine z_aload_n dX12_isSuspect_19 0 rfl ?_
      refine y_getR (M := mX12_isSuspect) (r := 314) dX12_isSuspect_20 zk_313 flRX12_7 fr_10_0.1 (fr_10_0.2 _) ?_
      refine z_iload_n dX12_isSuspect_23 2 rfl ?_
      obtain ⟨hi2, h⟩ := oif h
      refine y_iald (M := mX12_isSuspect) (jj := x2.toNatClampNeg) dX12_isSuspect_24 zk_314 hi2 rfl ?_
      refine z_iload_n dX12_isSuspect_25 1 rfl ?_
      refine z_iand dX12_isSuspect_26 ?_
      refine z_if_eq 34 dX12_isSuspect_27 rfl (fun hc3 => ?_) (fun hc3 => ?_)
      · replace h := oT hc3 h
        refine z_iconst (M := mX12_isSuspect) (v := 0) dX12_isSuspect_34 rfl ?_
        exact t_Md_isSuspect_35 hd0 ih x1 x2 (0 : Int32) _ h
      · replace h := oF hc3 h
        refine z_iconst (M := mX12_isSuspect) (v := 1) dX12_isSuspect_30 rfl ?_
        refine z_goto 35 dX12_isSuspect_31 rfl ?_
        exact t_Md_isSuspect_35 hd0 ih x1 x2 (1 : Int32) _ h
def Md_isSuspect (ν : Nm) (x1 : Int32) : Option Bool :=
  Md_isSuspect_3 ν FU x1 (33 : Int32)
set_option maxRecDepth 100000 in
set_option maxHeartbeats 4000000 in
theorem t_Md_isSuspect {g : GG} {d : Nat} {ν : Nm} (hd0 : 1 ≤ d) : ∀ (x1 : Int32) (r : Bool), Md_isSuspect ν x1 = some r → Z g d (0, 0) mX12_isSuspect 333 0 0 0 [(0, .ref 313), (1, .int x1)] [] (zem ν) (zF g (some (.int (b2i r)), zem ν)) := by
  intro x1 r h
  unfold Md_isSuspect at h
  refine z_bipush (M := mX12_isSuspect) (v := 33) dX12_isSuspect_0 rfl ?_
  refine z_istore_n (M := mX12_isSuspect) (lv2 := [(2, .int (33 : Int32)), (0, .ref 313), (1, .int x1)]) dX12_isSuspect_2 (Nat.le_of_ble_eq_true rfl) rfl ?_
  refine z_lv (lv2 := [(0, .ref 313), (1, .int x1), (2, .int (33 : Int32))]) [1, 2, 0] rfl ?_
  exact t_Md_isSuspect_3 hd0 FU x1 (33 : Int32) _ h
theorem ct_Md_isSuspect {g : GG} {d : Nat} {x1 : Int32} {ν : Nm} {r : Bool} (hd0 : 1 ≤ d)  (h : Md_isSuspect ν x1 = some r) : Ct g d mX12_isSuspect [.ref 313, .int x1] (zem ν) (some (.int (b2i r)), zem ν) := y_entry in_X12_isSuspect (Nat.le_of_ble_eq_true rfl) rfl (t_Md_isSuspect hd0 x1 r h)
-- FuseMinutesModel.suspects(I)I
theorem dX12_suspects_0 : decode cX12_suspects 0 = .ok (.iload_n 1, 1) := by decide +kernel
theorem dX12_suspects_1 : decode cX12_suspects 1 = .ok (.iconst 0, 1) := by decide +kernel
theorem dX12_suspects_2 : decode cX12_suspects 2 = .ok (.iconst 3, 1) := by decide +kernel
theorem dX12_suspects_3 : decode cX12_suspects 3 = .ok (.invokestatic 88, 3) := by decide +kernel
theorem dX12_suspects_6 : decode cX12_suspects 6 = .ok (.ifCond .ne 5, 3) := by decide +kernel
theorem dX12_suspects_9 : decode cX12_suspects 9 = .ok (.iconst (-1), 1) := by decide +kernel
theorem dX12_suspects_10 : decode cX12_suspects 10 = .ok (.ireturn, 1) := by decide +kernel
theorem dX12_suspects_11 : decode cX12_suspects 11 = .ok (.iconst 0, 1) := by decide +kernel
theorem dX12_suspects_12 : decode cX12_suspects 12 = .ok (.istore_n 2, 1) := by decide +kernel
theorem dX12_suspects_13 : decode cX12_suspects 13 = .ok (.iconst 1, 1) := by decide +kernel
theorem dX12_suspects_14 : decode cX12_suspects 14 = .ok (.aload_n 0, 1) := by decide +kernel
theorem dX12_suspects_15 : decode cX12_suspects 15 = .ok (.getfield 7, 3) := by decide +kernel
theorem dX12_suspects_18 : decode cX12_suspects 18 = .ok (.iconst 0, 1) := by decide +kernel
theorem dX12_suspects_19 : decode cX12_suspects 19 = .ok (.iaload, 1) := by decide +kernel
theorem dX12_suspects_20 : decode cX12_suspects 20 = .ok (.ishl, 1) := by decide +kernel
theorem dX12_suspects_21 : decode cX12_suspects 21 = .ok (.iconst 1, 1) := by decide +kernel
theorem dX12_suspects_22 : decode cX12_suspects 22 = .ok (.isub, 1) := by decide +kernel
theorem dX12_suspects_23 : decode cX12_suspects 23 = .ok (.istore_n 3, 1) := by decide +kernel
theorem dX12_suspects_24 : decode cX12_suspects 24 = .ok (.iload_n 3, 1) := by decide +kernel
theorem dX12_suspects_25 : decode cX12_suspects 25 = .ok (.istore 4, 2) := by decide +kernel
theorem dX12_suspects_27 : decode cX12_suspects 27 = .ok (.iconst (-1), 1) := by decide +kernel
theorem dX12_suspects_28 : decode cX12_suspects 28 = .ok (.istore 5, 2) := by decide +kernel
theorem dX12_suspects_30 : decode cX12_suspects 30 = .ok (.iconst 1, 1) := by decide +kernel
theorem dX12_suspects_31 : decode cX12_suspects 31 = .ok (.aload_n 0, 1) := by decide +kernel
theorem dX12_suspects_32 : decode cX12_suspects 32 = .ok (.getfield 7, 3) := by decide +kernel
theorem dX12_suspects_35 : decode cX12_suspects 35 = .ok (.iconst 0, 1) := by decide +kernel
theorem dX12_suspects_36 : decode cX12_suspects 36 = .ok (.iaload, 1) := by decide +kernel
theorem dX12_suspects_37 : decode cX12_suspects 37 = .ok (.ishl, 1) := by decide +kernel
theorem dX12_suspects_38 : decode cX12_suspects 38 = .ok (.iconst 1, 1) := by decide +kernel
theorem dX12_suspects_39 : decode cX12_suspects 39 = .ok (.isub, 1) := by decide +kernel
theorem dX12_suspects_40 : decode cX12_suspects 40 = .ok (.istore 6, 2) := by decide +kernel
theorem dX12_suspects_42 : decode cX12_suspects 42 = .ok (.iload 6, 2) := by decide +kernel
theorem dX12_suspects_44 : decode cX12_suspects 44 = .ok (.ifCond .lt 42, 3) := by decide +kernel
theorem dX12_suspects_47 : decode cX12_suspects 47 = .ok (.aload_n 0, 1) := by decide +kernel
theorem dX12_suspects_48 : decode cX12_suspects 48 = .ok (.iload 6, 2) := by decide +kernel
theorem dX12_suspects_50 : decode cX12_suspects 50 = .ok (.invokevirtual 499, 3) := by decide +kernel
theorem dX12_suspects_53 : decode cX12_suspects 53 = .ok (.ifCond .ne 6, 3) := by decide +kernel
theorem dX12_suspects_56 : decode cX12_suspects 56 = .ok (.goto 24, 3) := by decide +kernel
theorem dX12_suspects_59 : decode cX12_suspects 59 = .ok (.iinc 2 1, 3) := by decide +kernel
theorem dX12_suspects_62 : decode cX12_suspects 62 = .ok (.iload_n 3, 1) := by decide +kernel
theorem dX12_suspects_63 : decode cX12_suspects 63 = .ok (.iload 6, 2) := by decide +kernel
theorem dX12_suspects_65 : decode cX12_suspects 65 = .ok (.iand, 1) := by decide +kernel
theorem dX12_suspects_66 : decode cX12_suspects 66 = .ok (.istore_n 3, 1) := by decide +kernel
theorem dX12_suspects_67 : decode cX12_suspects 67 = .ok (.iload 4, 2) := by decide +kernel
theorem dX12_suspects_69 : decode cX12_suspects 69 = .ok (.iload 6, 2) := by decide +kernel
theorem dX12_suspects_71 : decode cX12_suspects 71 = .ok (.iconst (-1), 1) := by decide +kernel
theorem dX12_suspects_72 : decode cX12_suspects 72 = .ok (.ixor, 1) := by decide +kernel
theorem dX12_suspects_73 : decode cX12_suspects 73 = .ok (.iand, 1) := by decide +kernel
theorem dX12_suspects_74 : decode cX12_suspects 74 = .ok (.istore 4, 2) := by decide +kernel
theorem dX12_suspects_76 : decode cX12_suspects 76 = .ok (.iload 6, 2) := by decide +kernel
theorem dX12_suspects_78 : decode cX12_suspects 78 = .ok (.istore 5, 2) := by decide +kernel
theorem dX12_suspects_80 : decode cX12_suspects 80 = .ok (.iinc 6 (-1), 3) := by decide +kernel
theorem dX12_suspects_83 : decode cX12_suspects 83 = .ok (.goto (-41), 3) := by decide +kernel
theorem dX12_suspects_86 : decode cX12_suspects 86 = .ok (.iload_n 1, 1) := by decide +kernel
theorem dX12_suspects_87 : decode cX12_suspects 87 = .ok (.ifCond .ne 7, 3) := by decide +kernel
theorem dX12_suspects_90 : decode cX12_suspects 90 = .ok (.iload_n 2, 1) := by decide +kernel
theorem dX12_suspects_91 : decode cX12_suspects 91 = .ok (.goto 32, 3) := by decide +kernel
theorem dX12_suspects_94 : decode cX12_suspects 94 = .ok (.iload_n 2, 1) := by decide +kernel
theorem dX12_suspects_95 : decode cX12_suspects 95 = .ok (.ifCond .ne 7, 3) := by decide +kernel
theorem dX12_suspects_98 : decode cX12_suspects 98 = .ok (.iconst (-1), 1) := by decide +kernel
theorem dX12_suspects_99 : decode cX12_suspects 99 = .ok (.goto 24, 3) := by decide +kernel
theorem dX12_suspects_102 : decode cX12_suspects 102 = .ok (.iload_n 1, 1) := by decide +kernel
theorem dX12_suspects_103 : decode cX12_suspects 103 = .ok (.iconst 1, 1) := by decide +kernel
theorem dX12_suspects_104 : decode cX12_suspects 104 = .ok (.if_icmp .ne 7, 3) := by decide +kernel
theorem dX12_suspects_107 : decode cX12_suspects 107 = .ok (.iload_n 3, 1) := by decide +kernel
theorem dX12_suspects_108 : decode cX12_suspects 108 = .ok (.goto 15, 3) := by decide +kernel
theorem dX12_suspects_111 : decode cX12_suspects 111 = .ok (.iload_n 1, 1) := by decide +kernel
theorem dX12_suspects_112 : decode cX12_suspects 112 = .ok (.iconst 2, 1) := by decide +kernel
theorem dX12_suspects_113 : decode cX12_suspects 113 = .ok (.if_icmp .ne 8, 3) := by decide +kernel
theorem dX12_suspects_116 : decode cX12_suspects 116 = .ok (.iload 4, 2) := by decide +kernel
theorem dX12_suspects_118 : decode cX12_suspects 118 = .ok (.goto 5, 3) := by decide +kernel
theorem dX12_suspects_121 : decode cX12_suspects 121 = .ok (.iload 5, 2) := by decide +kernel
theorem dX12_suspects_123 : decode cX12_suspects 123 = .ok (.ireturn, 1) := by decide +kernel
def Md_suspects_80 (ν : Nm) (k42 : Int32 → Int32 → Int32 → Int32 → Int32 → Int32 → Option Int32) (x1 : Int32) (x2 : Int32) (x3 : Int32) (x4 : Int32) (x5 : Int32) (x6 : Int32) : Option Int32 :=
  k42 x1 x2 x3 x4 x5 (x6 + (-1 : Int32))
set_option maxRecDepth 100000 in
set_option maxHeartbeats 4000000 in
theorem t_Md_suspects_80 {g : GG} {d : Nat} {ν : Nm} (hd0 : 2 ≤ d) {k42 : Int32 → Int32 → Int32 → Int32 → Int32 → Int32 → Option Int32} (hk42 : ∀ (x1 : Int32) (x2 : Int32) (x3 : Int32) (x4 : Int32) (x5 : Int32) (x6 : Int32) (r : Int32), k42 x1 x2 x3 x4 x5 x6 = some r → Z g d (0, 0) mX12_suspects 333 0 0 42 [(0, .ref 313), (1, .int x1), (2, .int x2), (3, .int x3), (4, .int x4), (5, .int x5), (6, .int x6)] [] (zem ν) (zF g (some (.int r), zem ν))) : ∀ (x1 : Int32) (x2 : Int32) (x3 : Int32) (x4 : Int32) (x5 : Int32) (x6 : Int32) (r : Int32), Md_suspects_80 ν k42 x1 x2 x3 x4 x5 x6 = some r → Z g d (0, 0) mX12_suspects 333 0 0 80 [(0, .ref 313), (1, .int x1), (2, .int x2), (3, .int x3), (4, .int x4), (5, .int x5), (6, .int x6)] [] (zem ν) (zF g (some (.int r), zem ν)) := by
  intro x1 x2 x3 x4 x5 x6 r h
  unfold Md_suspects_80 at h
  refine z_iinc (M := mX12_suspects) (v := (x6 + (-1 : Int32))) (lv2 := [(6, .int (x6 + (-1 : Int32))), (0, .ref 313), (1, .int x1), (2, .int x2), (3, .int x3), (4, .int x4), (5, .int x5)]) dX12_suspects_80 6 rfl rfl (Nat.le_of_ble_eq_true rfl) rfl ?_
  refine z_goto 42 dX12_suspects_83 rfl ?_
  refine z_lv (lv2 := [(0, .ref 313), (1, .int x1), (2, .int x2), (3, .int x3), (4, .int x4), (5, .int x5), (6, .int (x6 + (-1 : Int32)))]) [1, 2, 3, 4, 5, 6, 0] rfl ?_
  exact hk42 x1 x2 x3 x4 x5 (x6 + (-1 : Int32)) _ h
def Md_suspects_42 (ν : Nm) : Nat → Int32 → Int32 → Int32 → Int32 → Int32 → Int32 → Option Int32
  | 0, _, _, _, _, _, _ => none
  | f + 1, x1, x2, x3, x4, x5, x6 =>
    (if x6 < 0 then
      (if ¬ x1 = 0 then
        (if ¬ x2 = 0 then
          (if ¬ x1 = (1 : Int32) then
            (if ¬ x1 = (2 : Int32) then
              some x5
            else
              some x4)
          else
            some x3)
        else
          some (-1 : Int32))
      else
        some x2)
    else
      (Md_isSuspect ν x6).bind fun v6 =>
      (if ¬ (b2i v6) = 0 then
        Md_suspects_80 ν (Md_suspects_42 ν f) x1 (x2 + (1 : Int32)) (x3 &&& x6) (x4 &&& (x6 ^^^ (-1 : Int32))) x6 x6
      else
        Md_suspects_80 ν (Md_suspects_42 ν f) x1 x2 x3 x4 x5 x6))
set_option maxRecDepth 100000 in
set_option maxHeartbeats 4000000 in
theorem t_Md_suspects_42 {g : GG} {d : Nat} {ν : Nm} (hd0 : 2 ≤ d) : ∀ (f : Nat), ∀ (x1 : Int32) (x2 : Int32) (x3 : Int32) (x4 : Int32) (x5 : Int32) (x6 : Int32) (r : Int32), Md_suspects_42 ν f x1 x2 x3 x4 x5 x6 = some r → Z g d (0, 0) mX12_suspects 333 0 0 42 [(0, .ref 313), (1, .int x1), (2, .int x2), (3, .int x3), (4, .int x4), (5, .int x5), (6, .int x6)] [] (zem ν) (zF g (some (.int r), zem ν)) := by
  intro f
  induction f with
  | zero =>
    intro x1 x2 x3 x4 x5 x6 r h
    cases h
  | succ f ih =>
    intro x1 x2 x3 x4 x5 x6 r h
    rw [Md_suspects_42] at h
    refine z_iload dX12_suspects_42 6 rfl ?_
    refine z_if_lt 86 dX12_suspects_44 rfl (fun hc1 => ?_) (fun hc1 => ?_)
    · replace h := oT hc1 h
      refine z_iload_n dX12_suspects_86 1 rfl ?_
      refine z_if_ne 94 dX12_suspects_87 rfl (fun hc2 => ?_) (fun hc2 => ?_)
      · replace h := oT hc2 h
        refine z_iload_n dX12_suspects_94 2 rfl ?_
        refine z_if_ne 102 dX12_suspects_95 rfl (fun hc3 => ?_) (fun hc3 => ?_)
        · replace h := oT hc3 h
          refine z_iload_n dX12_suspects_102 1 rfl ?_
          refine z_iconst (M := mX12_suspects) (v := 1) dX12_suspects_103 rfl ?_
          refine z_icmp_ne 111 dX12_suspects_104 rfl (fun hc4 => ?_) (fun hc4 => ?_)
          · replace h := oT hc4 h
            refine z_iload_n dX12_suspects_111 1 rfl ?_
            refine z_iconst (M := mX12_suspects) (v := 2) dX12_suspects_112 rfl ?_
            refine z_icmp_ne 121 dX12_suspects_113 rfl (fun hc5 => ?_) (fun hc5 => ?_)
            · replace h := oT hc5 h
              refine z_iload dX12_suspects_121 5 rfl ?_
              cases h
              exact z_iret dX12_suspects_123 rfl
            · replace h := oFn hc5 h
              refine z_iload dX12_suspects_116 4 rfl ?_
              refine z_goto 123 dX12_suspects_118 rfl ?_
              cases h
              exact z_iret dX12_suspects_123 rfl
          · replace h := oFn hc4 h
            refine z_iload_n dX12_suspects_107 3 rfl ?_
            refine z_goto 123 dX12_suspects_108 rfl ?_
            cases h
            exact z_iret dX12_suspects_123 rfl
        · replace h := oFn hc3 h
          refine z_iconst (M := mX12_suspects) (v := -1) dX12_suspects_98 rfl ?_
          refine z_goto 123 dX12_suspects_99 rfl ?_
          cases h
          exact z_iret dX12_suspects_123 rfl
      · replace h := oFn hc2 h
        refine z_iload_n dX12_suspects_90 2 rfl ?_
        refine z_goto 123 dX12_suspects_91 rfl ?_
        cases h
        exact z_iret dX12_suspects_123 rfl
    · replace h := oF hc1 h
      refine z_aload_n dX12_suspects_47 0 rfl ?_
      refine z_iload dX12_suspects_48 6 rfl ?_
      obtain ⟨v6, he6, h⟩ := obind h
      refine y_Vi (M := mX12_suspects) (Y := mX12_isSuspect) (d2 := d - 1) (As := [.int x6]) (st := []) dX12_suspects_50 mlRX12_499 cv_X12_isSuspect zk_313 (ct_Md_isSuspect (dle (Nat.le_of_ble_eq_true rfl) hd0) he6) (dps (Nat.le_of_ble_eq_true rfl) hd0) rfl rfl (Nat.le_of_ble_eq_true rfl) ?_
      refine z_if_ne 59 dX12_suspects_53 rfl (fun hc7 => ?_) (fun hc7 => ?_)
      · replace h := oT hc7 h
        refine z_iinc (M := mX12_suspects) (v := (x2 + (1 : Int32))) (lv2 := [(2, .int (x2 + (1 : Int32))), (0, .ref 313), (1, .int x1), (3, .int x3), (4, .int x4), (5, .int x5), (6, .int x6)]) dX12_suspects_59 2 rfl rfl (Nat.le_of_ble_eq_true rfl) rfl ?_
        refine z_iload_n dX12_suspects_62 3 rfl ?_
        refine z_iload dX12_suspects_63 6 rfl ?_
        refine z_iand dX12_suspects_65 ?_
        refine z_istore_n (M := mX12_suspects) (lv2 := [(3, .int (x3 &&& x6)), (2, .int (x2 + (1 : Int32))), (0, .ref 313), (1, .int x1), (4, .int x4), (5, .int x5), (6, .int x6)]) dX12_suspects_66 (Nat.le_of_ble_eq_true rfl) rfl ?_
        refine z_iload dX12_suspects_67 4 rfl ?_
        refine z_iload dX12_suspects_69 6 rfl ?_
        refine z_iconst (M := mX12_suspects) (v := -1) dX12_suspects_71 rfl ?_
        refine z_ixor dX12_suspects_72 ?_
        refine z_iand dX12_suspects_73 ?_
        refine z_istore (M := mX12_suspects) (lv2 := [(4, .int (x4 &&& (x6 ^^^ (-1 : Int32)))), (3, .int (x3 &&& x6)), (2, .int (x2 + (1 : Int32))), (0, .ref 313), (1, .int x1), (5, .int x5), (6, .int x6)]) dX12_suspects_74 (Nat.le_of_ble_eq_true rfl) rfl ?_
        refine z_iload dX12_suspects_76 6 rfl ?_
        refine z_istore (M := mX12_suspects) (lv2 := [(5, .int x6), (4, .int (x4 &&& (x6 ^^^ (-1 : Int32)))), (3, .int (x3 &&& x6)), (2, .int (x2 + (1 : Int32))), (0, .ref 313), (1, .int x1), (6, .int x6)]) dX12_suspects_78 (Nat.le_of_ble_eq_true rfl) rfl ?_
        refine z_lv (lv2 := [(0, .ref 313), (1, .int x1), (2, .int (x2 + (1 : Int32))), (3, .int (x3 &&& x6)), (4, .int (x4 &&& (x6 ^^^ (-1 : Int32)))), (5, .int x6), (6, .int x6)]) [4, 5, 3, 2, 1, 0, 6] rfl ?_
        exact t_Md_suspects_80 hd0 ih x1 (x2 + (1 : Int32)) (x3 &&& x6) (x4 &&& (x6 ^^^ (-1 : Int32))) x6 x6 _ h
      · replace h := oFn hc7 h
        refine z_goto 80 dX12_suspects_56 rfl ?_
        exact t_Md_suspects_80 hd0 ih x1 x2 x3 x4 x5 x6 _ h
def Md_suspects (ν : Nm) (x1 : Int32) : Option Int32 :=
  (Md_isIn x1 (0 : Int32) (3 : Int32)).bind fun v1 =>
  (if ¬ (b2i v1) = 0 then
    Md_suspects_42 ν FU x1 (0 : Int32) (((1 : Int32) <<< ((gi ν 314 0) &&& 31)) - (1 : Int32)) (((1 : Int32) <<< ((gi ν 314 0) &&& 31)) - (1 : Int32)) (-1 : Int32) (((1 : Int32) <<< ((gi ν 314 0) &&& 31)) - (1 : Int32))
  else
    some (-1 : Int32))
set_option maxRecDepth 100000 in
set_option maxHeartbeats 4000000 in
theorem t_Md_suspects {g : GG} {d : Nat} {ν : Nm} (hd0 : 2 ≤ d) : ∀ (x1 : Int32) (r : Int32), Md_suspects ν x1 = some r → Z g d (0, 0) mX12_suspects 333 0 0 0 [(0, .ref 313), (1, .int x1)] [] (zem ν) (zF g (some (.int r), zem ν)) := by
  intro x1 r h
  unfold Md_suspects at h
  refine z_iload_n dX12_suspects_0 1 rfl ?_
  refine z_iconst (M := mX12_suspects) (v := 0) dX12_suspects_1 rfl ?_
  refine z_iconst (M := mX12_suspects) (v := 3) dX12_suspects_2 rfl ?_
  obtain ⟨v1, he1, h⟩ := obind h
  refine y_Si (M := mX12_suspects) (Y := mX12_isIn) (d2 := d - 1) (As := [.int x1, .int (0 : Int32), .int (3 : Int32)]) (st := []) dX12_suspects_3 mlRX12_88 cv_X12_isIn (ct_Md_isIn (dle (Nat.le_of_ble_eq_true rfl) hd0) he1) (dps (Nat.le_of_ble_eq_true rfl) hd0) rfl rfl (Nat.le_of_ble_eq_true rfl) ?_
  refine z_if_ne 11 dX12_suspects_6 rfl (fun hc2 => ?_) (fun hc2 => ?_)
  · replace h := oT hc2 h
    refine z_iconst (M := mX12_suspects) (v := 0) dX12_suspects_11 rfl ?_
    refine z_istore_n (M := mX12_suspects) (lv2 := [(2, .int (0 : Int32)), (0, .ref 313), (1, .int x1)]) dX12_suspects_12 (Nat.le_of_ble_eq_true rfl) rfl ?_
    refine z_iconst (M := mX12_suspects) (v := 1) dX12_suspects_13 rfl ?_
    refine z_aload_n dX12_suspects_14 1 rfl ?_
    refine y_getR (M := mX12_suspects) (r := 314) dX12_suspects_15 zk_313 flRX12_7 fr_10_0.1 (fr_10_0.2 _) ?_
    refine z_iconst (M := mX12_suspects) (v := 0) dX12_suspects_18 rfl ?_
    refine y_iald (M := mX12_suspects) (jj := 0) dX12_suspects_19 zk_314 rfl rfl ?_
    refine z_ishl dX12_suspects_20 ?_
    refine z_iconst (M := mX12_suspects) (v := 1) dX12_suspects_21 rfl ?_
    refine z_isub dX12_suspects_22 ?_
    refine z_istore_n (M := mX12_suspects) (lv2 := [(3, .int (((1 : Int32) <<< ((gi ν 314 0) &&& 31)) - (1 : Int32))), (2, .int (0 : Int32)), (0, .ref 313), (1, .int x1)]) dX12_suspects_23 (Nat.le_of_ble_eq_true rfl) rfl ?_
    refine z_iload_n dX12_suspects_24 0 rfl ?_
    refine z_istore (M := mX12_suspects) (lv2 := [(4, .int (((1 : Int32) <<< ((gi ν 314 0) &&& 31)) - (1 : Int32))), (3, .int (((1 : Int32) <<< ((gi ν 314 0) &&& 31)) - (1 : Int32))), (2, .int (0 : Int32)), (0, .ref 313), (1, .int x1)]) dX12_suspects_25 (Nat.le_of_ble_eq_true rfl) rfl ?_
    refine z_iconst (M := mX12_suspects) (v := -1) dX12_suspects_27 rfl ?_
    refine z_istore (M := mX12_suspects) (lv2 := [(5, .int (-1 : Int32)), (4, .int (((1 : Int32) <<< ((gi ν 314 0) &&& 31)) - (1 : Int32))), (3, .int (((1 : Int32) <<< ((gi ν 314 0) &&& 31)) - (1 : Int32))), (2, .int (0 : Int32)), (0, .ref 313), (1, .int x1)]) dX12_suspects_28 (Nat.le_of_ble_eq_true rfl) rfl ?_
    refine z_iconst (M := mX12_suspects) (v := 1) dX12_suspects_30 rfl ?_
    refine z_aload_n dX12_suspects_31 4 rfl ?_
    refine y_getR (M := mX12_suspects) (r := 314) dX12_suspects_32 zk_313 flRX12_7 fr_10_0.1 (fr_10_0.2 _) ?_
    refine z_iconst (M := mX12_suspects) (v := 0) dX12_suspects_35 rfl ?_
    refine y_iald (M := mX12_suspects) (jj := 0) dX12_suspects_36 zk_314 rfl rfl ?_
    refine z_ishl dX12_suspects_37 ?_
    refine z_iconst (M := mX12_suspects) (v := 1) dX12_suspects_38 rfl ?_
    refine z_isub dX12_suspects_39 ?_
    refine z_istore (M := mX12_suspects) (lv2 := [(6, .int (((1 : Int32) <<< ((gi ν 314 0) &&& 31)) - (1 : Int32))), (5, .int (-1 : Int32)), (4, .int (((1 : Int32) <<< ((gi ν 314 0) &&& 31)) - (1 : Int32))), (3, .int (((1 : Int32) <<< ((gi ν 314 0) &&& 31)) - (1 : Int32))), (2, .int (0 : Int32)), (0, .ref 313), (1, .int x1)]) dX12_suspects_40 (Nat.le_of_ble_eq_true rfl) rfl ?_
    refine z_lv (lv2 := [(0, .ref 313), (1, .int x1), (2, .int (0 : Int32)), (3, .int (((1 : Int32) <<< ((gi ν 314 0) &&& 31)) - (1 : Int32))), (4, .int (((1 : Int32) <<< ((gi ν 314 0) &&& 31)) - (1 : Int32))), (5, .int (-1 : Int32)), (6, .int (((1 : Int32) <<< ((gi ν 314 0) &&& 31)) - (1 : Int32)))]) [5, 6, 4, 3, 2, 1, 0] rfl ?_
    exact t_Md_suspects_42 hd0 FU x1 (0 : Int32) (((1 : Int32) <<< ((gi ν 314 0) &&& 31)) - (1 : Int32)) (((1 : Int32) <<< ((gi ν 314 0) &&& 31)) - (1 : Int32)) (-1 : Int32) (((1 : Int32) <<< ((gi ν 314 0) &&& 31)) - (1 : Int32)) _ h
  · replace h := oFn hc2 h
    refine z_iconst (M := mX12_suspects) (v := -1) dX12_suspects_9 rfl ?_
    cases h
    exact z_iret dX12_suspects_10 rfl
theorem ct_Md_suspects {g : GG} {d : Nat} {x1 : Int32} {ν : Nm} {r : Int32} (hd0 : 2 ≤ d)  (h : Md_suspects ν x1 = some r) : Ct g d mX12_suspects [.ref 313, .int x1] (zem ν) (some (.int r), zem ν) := y_entry in_X12_suspects (Nat.le_of_ble_eq_true rfl) rfl (t_Md_suspects hd0 x1 r h)
-- FuseMinutesModel.test()I
theorem dX12_test_0 : decode cX12_test 0 = .ok (.aload_n 0, 1) := by decide +kernel
theorem dX12_test_1 : decode cX12_test 1 = .ok (.iconst 0, 1) := by decide +kernel
theorem dX12_test_2 : decode cX12_test 2 = .ok (.invokevirtual 502, 3) := by decide +kernel
theorem dX12_test_5 : decode cX12_test 5 = .ok (.istore_n 1, 1) := by decide +kernel
theorem dX12_test_6 : decode cX12_test 6 = .ok (.iconst (-1), 1) := by decide +kernel
theorem dX12_test_7 : decode cX12_test 7 = .ok (.istore_n 2, 1) := by decide +kernel
theorem dX12_test_8 : decode cX12_test 8 = .ok (.ldc_w 332, 3) := by decide +kernel
theorem dX12_test_11 : decode cX12_test 11 = .ok (.istore_n 3, 1) := by decide +kernel
theorem dX12_test_12 : decode cX12_test 12 = .ok (.iconst 1, 1) := by decide +kernel
theorem dX12_test_13 : decode cX12_test 13 = .ok (.istore 4, 2) := by decide +kernel
theorem dX12_test_15 : decode cX12_test 15 = .ok (.iload 4, 2) := by decide +kernel
theorem dX12_test_17 : decode cX12_test 17 = .ok (.iconst 1, 1) := by decide +kernel
theorem dX12_test_18 : decode cX12_test 18 = .ok (.aload_n 0, 1) := by decide +kernel
theorem dX12_test_19 : decode cX12_test 19 = .ok (.getfield 7, 3) := by decide +kernel
theorem dX12_test_22 : decode cX12_test 22 = .ok (.iconst 0, 1) := by decide +kernel
theorem dX12_test_23 : decode cX12_test 23 = .ok (.iaload, 1) := by decide +kernel
theorem dX12_test_24 : decode cX12_test 24 = .ok (.ishl, 1) := by decide +kernel
theorem dX12_test_25 : decode cX12_test 25 = .ok (.if_icmp .ge 101, 3) := by decide +kernel
theorem dX12_test_28 : decode cX12_test 28 = .ok (.iload_n 1, 1) := by decide +kernel
theorem dX12_test_29 : decode cX12_test 29 = .ok (.iconst 1, 1) := by decide +kernel
theorem dX12_test_30 : decode cX12_test 30 = .ok (.if_icmp .le 96, 3) := by decide +kernel
theorem dX12_test_33 : decode cX12_test 33 = .ok (.iconst 0, 1) := by decide +kernel
theorem dX12_test_34 : decode cX12_test 34 = .ok (.istore 5, 2) := by decide +kernel
theorem dX12_test_36 : decode cX12_test 36 = .ok (.iconst 0, 1) := by decide +kernel
theorem dX12_test_37 : decode cX12_test 37 = .ok (.istore 6, 2) := by decide +kernel
theorem dX12_test_39 : decode cX12_test 39 = .ok (.iload 6, 2) := by decide +kernel
theorem dX12_test_41 : decode cX12_test 41 = .ok (.iconst 1, 1) := by decide +kernel
theorem dX12_test_42 : decode cX12_test 42 = .ok (.aload_n 0, 1) := by decide +kernel
theorem dX12_test_43 : decode cX12_test 43 = .ok (.getfield 7, 3) := by decide +kernel
theorem dX12_test_46 : decode cX12_test 46 = .ok (.iconst 0, 1) := by decide +kernel
theorem dX12_test_47 : decode cX12_test 47 = .ok (.iaload, 1) := by decide +kernel
theorem dX12_test_48 : decode cX12_test 48 = .ok (.ishl, 1) := by decide +kernel
theorem dX12_test_49 : decode cX12_test 49 = .ok (.if_icmp .ge 36, 3) := by decide +kernel
theorem dX12_test_52 : decode cX12_test 52 = .ok (.iload 5, 2) := by decide +kernel
theorem dX12_test_54 : decode cX12_test 54 = .ok (.aload_n 0, 1) := by decide +kernel
theorem dX12_test_55 : decode cX12_test 55 = .ok (.iload 6, 2) := by decide +kernel
theorem dX12_test_57 : decode cX12_test 57 = .ok (.invokevirtual 499, 3) := by decide +kernel
theorem dX12_test_60 : decode cX12_test 60 = .ok (.ifCond .eq 15, 3) := by decide +kernel
theorem dX12_test_63 : decode cX12_test 63 = .ok (.iload 6, 2) := by decide +kernel
theorem dX12_test_65 : decode cX12_test 65 = .ok (.iload 4, 2) := by decide +kernel
theorem dX12_test_67 : decode cX12_test 67 = .ok (.iand, 1) := by decide +kernel
theorem dX12_test_68 : decode cX12_test 68 = .ok (.ifCond .eq 7, 3) := by decide +kernel
theorem dX12_test_71 : decode cX12_test 71 = .ok (.iconst 1, 1) := by decide +kernel
theorem dX12_test_72 : decode cX12_test 72 = .ok (.goto 4, 3) := by decide +kernel
theorem dX12_test_75 : decode cX12_test 75 = .ok (.iconst 0, 1) := by decide +kernel
theorem dX12_test_76 : decode cX12_test 76 = .ok (.iadd, 1) := by decide +kernel
theorem dX12_test_77 : decode cX12_test 77 = .ok (.istore 5, 2) := by decide +kernel
theorem dX12_test_79 : decode cX12_test 79 = .ok (.iinc 6 1, 3) := by decide +kernel
theorem dX12_test_82 : decode cX12_test 82 = .ok (.goto (-43), 3) := by decide +kernel
theorem dX12_test_85 : decode cX12_test 85 = .ok (.iload 5, 2) := by decide +kernel
theorem dX12_test_87 : decode cX12_test 87 = .ok (.iload_n 1, 1) := by decide +kernel
theorem dX12_test_88 : decode cX12_test 88 = .ok (.iload 5, 2) := by decide +kernel
theorem dX12_test_90 : decode cX12_test 90 = .ok (.isub, 1) := by decide +kernel
theorem dX12_test_91 : decode cX12_test 91 = .ok (.if_icmp .le 8, 3) := by decide +kernel
theorem dX12_test_94 : decode cX12_test 94 = .ok (.iload 5, 2) := by decide +kernel
theorem dX12_test_96 : decode cX12_test 96 = .ok (.goto 7, 3) := by decide +kernel
theorem dX12_test_99 : decode cX12_test 99 = .ok (.iload_n 1, 1) := by decide +kernel
theorem dX12_test_100 : decode cX12_test 100 = .ok (.iload 5, 2) := by decide +kernel
theorem dX12_test_102 : decode cX12_test 102 = .ok (.isub, 1) := by decide +kernel
theorem dX12_test_103 : decode cX12_test 103 = .ok (.istore 6, 2) := by decide +kernel
theorem dX12_test_105 : decode cX12_test 105 = .ok (.iload 6, 2) := by decide +kernel
theorem dX12_test_107 : decode cX12_test 107 = .ok (.iload_n 3, 1) := by decide +kernel
theorem dX12_test_108 : decode cX12_test 108 = .ok (.if_icmp .lt 6, 3) := by decide +kernel
theorem dX12_test_111 : decode cX12_test 111 = .ok (.goto 9, 3) := by decide +kernel
theorem dX12_test_114 : decode cX12_test 114 = .ok (.iload 6, 2) := by decide +kernel
theorem dX12_test_116 : decode cX12_test 116 = .ok (.istore_n 3, 1) := by decide +kernel
theorem dX12_test_117 : decode cX12_test 117 = .ok (.iload 4, 2) := by decide +kernel
theorem dX12_test_119 : decode cX12_test 119 = .ok (.istore_n 2, 1) := by decide +kernel
theorem dX12_test_120 : decode cX12_test 120 = .ok (.iinc 4 1, 3) := by decide +kernel
theorem dX12_test_123 : decode cX12_test 123 = .ok (.goto (-108), 3) := by decide +kernel
theorem dX12_test_126 : decode cX12_test 126 = .ok (.iload_n 2, 1) := by decide +kernel
theorem dX12_test_127 : decode cX12_test 127 = .ok (.ireturn, 1) := by decide +kernel
def Md_test_76 (ν : Nm) (k39 : Int32 → Int32 → Int32 → Int32 → Int32 → Int32 → Option Int32) (x1 : Int32) (x2 : Int32) (x3 : Int32) (x4 : Int32) (x6 : Int32) (s0 : Int32) (s1 : Int32) : Option Int32 :=
  k39 x1 x2 x3 x4 (s1 + s0) (x6 + (1 : Int32))
set_option maxRecDepth 100000 in
set_option maxHeartbeats 4000000 in
theorem t_Md_test_76 {g : GG} {d : Nat} {ν : Nm} (hd0 : 3 ≤ d) {k39 : Int32 → Int32 → Int32 → Int32 → Int32 → Int32 → Option Int32} (hk39 : ∀ (x1 : Int32) (x2 : Int32) (x3 : Int32) (x4 : Int32) (x5 : Int32) (x6 : Int32) (r : Int32), k39 x1 x2 x3 x4 x5 x6 = some r → Z g d (0, 0) mX12_test 333 0 0 39 [(0, .ref 313), (1, .int x1), (2, .int x2), (3, .int x3), (4, .int x4), (5, .int x5), (6, .int x6)] [] (zem ν) (zF g (some (.int r), zem ν))) : ∀ (x1 : Int32) (x2 : Int32) (x3 : Int32) (x4 : Int32) (x6 : Int32) (s0 : Int32) (s1 : Int32) (r : Int32), Md_test_76 ν k39 x1 x2 x3 x4 x6 s0 s1 = some r → Z g d (0, 0) mX12_test 333 0 0 76 [(0, .ref 313), (1, .int x1), (2, .int x2), (3, .int x3), (4, .int x4), (6, .int x6)] [.int s0, .int s1] (zem ν) (zF g (some (.int r), zem ν)) := by
  intro x1 x2 x3 x4 x6 s0 s1 r h
  unfold Md_test_76 at h
  refine z_iadd dX12_test_76 ?_
  refine z_istore (M := mX12_test) (lv2 := [(5, .int (s1 + s0)), (0, .ref 313), (1, .int x1), (2, .int x2), (3, .int x3), (4, .int x4), (6, .int x6)]) dX12_test_77 (Nat.le_of_ble_eq_true rfl) rfl ?_
  refine z_iinc (M := mX12_test) (v := (x6 + (1 : Int32))) (lv2 := [(6, .int (x6 + (1 : Int32))), (5, .int (s1 + s0)), (0, .ref 313), (1, .int x1), (2, .int x2), (3, .int x3), (4, .int x4)]) dX12_test_79 6 rfl rfl (Nat.le_of_ble_eq_true rfl) rfl ?_
  refine z_goto 39 dX12_test_82 rfl ?_
  refine z_lv (lv2 := [(0, .ref 313), (1, .int x1), (2, .int x2), (3, .int x3), (4, .int x4), (5, .int (s1 + s0)), (6, .int (x6 + (1 : Int32)))]) [2, 3, 4, 5, 6, 1, 0] rfl ?_
  exact hk39 x1 x2 x3 x4 (s1 + s0) (x6 + (1 : Int32)) _ h
def Md_test_75 (ν : Nm) (k39 : Int32 → Int32 → Int32 → Int32 → Int32 → Int32 → Option Int32) (x1 : Int32) (x2 : Int32) (x3 : Int32) (x4 : Int32) (x6 : Int32) (s0 : Int32) : Option Int32 :=
  Md_test_76 ν k39 x1 x2 x3 x4 x6 (0 : Int32) s0
set_option maxRecDepth 100000 in
set_option maxHeartbeats 4000000 in
theorem t_Md_test_75 {g : GG} {d : Nat} {ν : Nm} (hd0 : 3 ≤ d) {k39 : Int32 → Int32 → Int32 → Int32 → Int32 → Int32 → Option Int32} (hk39 : ∀ (x1 : Int32) (x2 : Int32) (x3 : Int32) (x4 : Int32) (x5 : Int32) (x6 : Int32) (r : Int32), k39 x1 x2 x3 x4 x5 x6 = some r → Z g d (0, 0) mX12_test 333 0 0 39 [(0, .ref 313), (1, .int x1), (2, .int x2), (3, .int x3), (4, .int x4), (5, .int x5), (6, .int x6)] [] (zem ν) (zF g (some (.int r), zem ν))) : ∀ (x1 : Int32) (x2 : Int32) (x3 : Int32) (x4 : Int32) (x6 : Int32) (s0 : Int32) (r : Int32), Md_test_75 ν k39 x1 x2 x3 x4 x6 s0 = some r → Z g d (0, 0) mX12_test 333 0 0 75 [(0, .ref 313), (1, .int x1), (2, .int x2), (3, .int x3), (4, .int x4), (6, .int x6)] [.int s0] (zem ν) (zF g (some (.int r), zem ν)) := by
  intro x1 x2 x3 x4 x6 s0 r h
  unfold Md_test_75 at h
  refine z_iconst (M := mX12_test) (v := 0) dX12_test_75 rfl ?_
  exact t_Md_test_76 hd0 hk39 x1 x2 x3 x4 x6 (0 : Int32) s0 _ h
def Md_test_120 (ν : Nm) (k15 : Int32 → Int32 → Int32 → Int32 → Option Int32) (x1 : Int32) (x2 : Int32) (x3 : Int32) (x4 : Int32) : Option Int32 :=
  k15 x1 x2 x3 (x4 + (1 : Int32))
set_option maxRecDepth 100000 in
set_option maxHeartbeats 4000000 in
theorem t_Md_test_120 {g : GG} {d : Nat} {ν : Nm} (hd0 : 3 ≤ d) {k15 : Int32 → Int32 → Int32 → Int32 → Option Int32} (hk15 : ∀ (x1 : Int32) (x2 : Int32) (x3 : Int32) (x4 : Int32) (r : Int32), k15 x1 x2 x3 x4 = some r → Z g d (0, 0) mX12_test 333 0 0 15 [(0, .ref 313), (1, .int x1), (2, .int x2), (3, .int x3), (4, .int x4)] [] (zem ν) (zF g (some (.int r), zem ν))) : ∀ (x1 : Int32) (x2 : Int32) (x3 : Int32) (x4 : Int32) (r : Int32), Md_test_120 ν k15 x1 x2 x3 x4 = some r → Z g d (0, 0) mX12_test 333 0 0 120 [(0, .ref 313), (1, .int x1), (2, .int x2), (3, .int x3), (4, .int x4)] [] (zem ν) (zF g (some (.int r), zem ν)) := by
  intro x1 x2 x3 x4 r h
  unfold Md_test_120 at h
  refine z_iinc (M := mX12_test) (v := (x4 + (1 : Int32))) (lv2 := [(4, .int (x4 + (1 : Int32))), (0, .ref 313), (1, .int x1), (2, .int x2), (3, .int x3)]) dX12_test_120 4 rfl rfl (Nat.le_of_ble_eq_true rfl) rfl ?_
  refine z_goto 15 dX12_test_123 rfl ?_
  refine z_lv (lv2 := [(0, .ref 313), (1, .int x1), (2, .int x2), (3, .int x3), (4, .int (x4 + (1 : Int32)))]) [1, 2, 3, 4, 0] rfl ?_
  exact hk15 x1 x2 x3 (x4 + (1 : Int32)) _ h
def Md_test_103 (ν : Nm) (k15 : Int32 → Int32 → Int32 → Int32 → Option Int32) (x1 : Int32) (x2 : Int32) (x3 : Int32) (x4 : Int32) (s0 : Int32) : Option Int32 :=
  (if s0 < x3 then
    Md_test_120 ν k15 x1 x4 s0 x4
  else
    Md_test_120 ν k15 x1 x2 x3 x4)
set_option maxRecDepth 100000 in
set_option maxHeartbeats 4000000 in
theorem t_Md_test_103 {g : GG} {d : Nat} {ν : Nm} (hd0 : 3 ≤ d) {k15 : Int32 → Int32 → Int32 → Int32 → Option Int32} (hk15 : ∀ (x1 : Int32) (x2 : Int32) (x3 : Int32) (x4 : Int32) (r : Int32), k15 x1 x2 x3 x4 = some r → Z g d (0, 0) mX12_test 333 0 0 15 [(0, .ref 313), (1, .int x1), (2, .int x2), (3, .int x3), (4, .int x4)] [] (zem ν) (zF g (some (.int r), zem ν))) : ∀ (x1 : Int32) (x2 : Int32) (x3 : Int32) (x4 : Int32) (s0 : Int32) (r : Int32), Md_test_103 ν k15 x1 x2 x3 x4 s0 = some r → Z g d (0, 0) mX12_test 333 0 0 103 [(0, .ref 313), (1, .int x1), (2, .int x2), (3, .int x3), (4, .int x4)] [.int s0] (zem ν) (zF g (some (.int r), zem ν)) := by
  intro x1 x2 x3 x4 s0 r h
  unfold Md_test_103 at h
  refine z_istore (M := mX12_test) (lv2 := [(6, .int s0), (0, .ref 313), (1, .int x1), (2, .int x2), (3, .int x3), (4, .int x4)]) dX12_test_103 (Nat.le_of_ble_eq_true rfl) rfl ?_
  refine z_iload dX12_test_105 0 rfl ?_
  refine z_iload_n dX12_test_107 4 rfl ?_
  refine z_icmp_lt 114 dX12_test_108 rfl (fun hc1 => ?_) (fun hc1 => ?_)
  · replace h := oT hc1 h
    refine z_iload dX12_test_114 0 rfl ?_
    refine z_istore_n (M := mX12_test) (lv2 := [(3, .int s0), (6, .int s0), (0, .ref 313), (1, .int x1), (2, .int x2), (4, .int x4)]) dX12_test_116 (Nat.le_of_ble_eq_true rfl) rfl ?_
    refine z_iload dX12_test_117 5 rfl ?_
    refine z_istore_n (M := mX12_test) (lv2 := [(2, .int x4), (3, .int s0), (6, .int s0), (0, .ref 313), (1, .int x1), (4, .int x4)]) dX12_test_119 (Nat.le_of_ble_eq_true rfl) rfl ?_
    refine z_lv (lv2 := [(0, .ref 313), (1, .int x1), (2, .int x4), (3, .int s0), (4, .int x4)]) [3, 4, 0, 1, 5] rfl ?_
    exact t_Md_test_120 hd0 hk15 x1 x4 s0 x4 _ h
  · replace h := oF hc1 h
    refine z_goto 120 dX12_test_111 rfl ?_
    refine z_lv (lv2 := [(0, .ref 313), (1, .int x1), (2, .int x2), (3, .int x3), (4, .int x4)]) [1, 2, 3, 4, 5] rfl ?_
    exact t_Md_test_120 hd0 hk15 x1 x2 x3 x4 _ h
def Md_test_39 (ν : Nm) (k15 : Int32 → Int32 → Int32 → Int32 → Option Int32) : Nat → Int32 → Int32 → Int32 → Int32 → Int32 → Int32 → Option Int32
  | 0, _, _, _, _, _, _ => none
  | f + 1, x1, x2, x3, x4, x5, x6 =>
    (if ((1 : Int32) <<< ((gi ν 314 0) &&& 31)) ≤ x6 then
      (if x5 ≤ (x1 - x5) then
        Md_test_103 ν k15 x1 x2 x3 x4 (x1 - x5)
      else
        Md_test_103 ν k15 x1 x2 x3 x4 x5)
    else
      (Md_isSuspect ν x6).bind fun v3 =>
      (if (b2i v3) = 0 then
        Md_test_75 ν (Md_test_39 ν k15 f) x1 x2 x3 x4 x6 x5
      else
        (if (x6 &&& x4) = 0 then
          Md_test_75 ν (Md_test_39 ν k15 f) x1 x2 x3 x4 x6 x5
        else
          Md_test_76 ν (Md_test_39 ν k15 f) x1 x2 x3 x4 x6 (1 : Int32) x5)))
set_option maxRecDepth 100000 in
set_option maxHeartbeats 4000000 in
theorem t_Md_test_39 {g : GG} {d : Nat} {ν : Nm} (hd0 : 3 ≤ d) {k15 : Int32 → Int32 → Int32 → Int32 → Option Int32} (hk15 : ∀ (x1 : Int32) (x2 : Int32) (x3 : Int32) (x4 : Int32) (r : Int32), k15 x1 x2 x3 x4 = some r → Z g d (0, 0) mX12_test 333 0 0 15 [(0, .ref 313), (1, .int x1), (2, .int x2), (3, .int x3), (4, .int x4)] [] (zem ν) (zF g (some (.int r), zem ν))) : ∀ (f : Nat), ∀ (x1 : Int32) (x2 : Int32) (x3 : Int32) (x4 : Int32) (x5 : Int32) (x6 : Int32) (r : Int32), Md_test_39 ν k15 f x1 x2 x3 x4 x5 x6 = some r → Z g d (0, 0) mX12_test 333 0 0 39 [(0, .ref 313), (1, .int x1), (2, .int x2), (3, .int x3), (4, .int x4), (5, .int x5), (6, .int x6)] [] (zem ν) (zF g (some (.int r), zem ν)) := by
  intro f
  induction f with
  | zero =>
    intro x1 x2 x3 x4 x5 x6 r h
    cases h
  | succ f ih =>
    intro x1 x2 x3 x4 x5 x6 r h
    rw [Md_test_39] at h
    refine z_iload dX12_test_39 6 rfl ?_
    refine z_iconst (M := mX12_test) (v := 1) dX12_test_41 rfl ?_
    refine z_aload_n dX12_test_42 0 rfl ?_
    refine y_getR (M := mX12_test) (r := 314) dX12_test_43 zk_313 flRX12_7 fr_10_0.1 (fr_10_0.2 _) ?_
    refine z_iconst (M := mX12_test) (v := 0) dX12_test_46 rfl ?_
    refine y_iald (M := mX12_test) (jj := 0) dX12_test_47 zk_314 rfl rfl ?_
    refine z_ishl dX12_test_48 ?_
    refine z_icmp_ge 85 dX12_test_49 rfl (fun hc1 => ?_) (fun hc1 => ?_)
    · replace h := oT hc1 h
      refine z_iload dX12_test_85 5 rfl ?_
      refine z_iload_n dX12_test_87 1 rfl ?_
      refine z_iload dX12_test_88 5 rfl ?_
      refine z_isub dX12_test_90 ?_
      refine z_icmp_le 99 dX12_test_91 rfl (fun hc2 => ?_) (fun hc2 => ?_)
      · replace h := oT hc2 h
        refine z_iload_n dX12_test_99 1 rfl ?_
        refine z_iload dX12_test_100 5 rfl ?_
        refine z_isub dX12_test_102 ?_
        refine z_lv (lv2 := [(0, .ref 313), (1, .int x1), (2, .int x2), (3, .int x3), (4, .int x4)]) [0, 1, 2, 3, 4] rfl ?_
        exact t_Md_test_103 hd0 hk15 x1 x2 x3 x4 (x1 - x5) _ h
      · replace h := oF hc2 h
        refine z_iload dX12_test_94 5 rfl ?_
        refine z_goto 103 dX12_test_96 rfl ?_
        refine z_lv (lv2 := [(0, .ref 313), (1, .int x1), (2, .int x2), (3, .int x3), (4, .int x4)]) [0, 1, 2, 3, 4] rfl ?_
        exact t_Md_test_103 hd0 hk15 x1 x2 x3 x4 x5 _ h
    · replace h := oF hc1 h
      refine z_iload dX12_test_52 5 rfl ?_
      refine z_aload_n dX12_test_54 0 rfl ?_
      refine z_iload dX12_test_55 6 rfl ?_
      obtain ⟨v3, he3, h⟩ := obind h
      refine y_Vi (M := mX12_test) (Y := mX12_isSuspect) (d2 := d - 1) (As := [.int x6]) (st := [.int x5]) dX12_test_57 mlRX12_499 cv_X12_isSuspect zk_313 (ct_Md_isSuspect (dle (Nat.le_of_ble_eq_true rfl) hd0) he3) (dps (Nat.le_of_ble_eq_true rfl) hd0) rfl rfl (Nat.le_of_ble_eq_true rfl) ?_
      refine z_if_eq 75 dX12_test_60 rfl (fun hc4 => ?_) (fun hc4 => ?_)
      · replace h := oT hc4 h
        refine z_lv (lv2 := [(0, .ref 313), (1, .int x1), (2, .int x2), (3, .int x3), (4, .int x4), (6, .int x6)]) [0, 1, 2, 3, 4, 6] rfl ?_
        exact t_Md_test_75 hd0 ih x1 x2 x3 x4 x6 x5 _ h
      · replace h := oF hc4 h
        refine z_iload dX12_test_63 6 rfl ?_
        refine z_iload dX12_test_65 4 rfl ?_
        refine z_iand dX12_test_67 ?_
        refine z_if_eq 75 dX12_test_68 rfl (fun hc5 => ?_) (fun hc5 => ?_)
        · replace h := oT hc5 h
          refine z_lv (lv2 := [(0, .ref 313), (1, .int x1), (2, .int x2), (3, .int x3), (4, .int x4), (6, .int x6)]) [0, 1, 2, 3, 4, 6] rfl ?_
          exact t_Md_test_75 hd0 ih x1 x2 x3 x4 x6 x5 _ h
        · replace h := oF hc5 h
          refine z_iconst (M := mX12_test) (v := 1) dX12_test_71 rfl ?_
          refine z_goto 76 dX12_test_72 rfl ?_
          refine z_lv (lv2 := [(0, .ref 313), (1, .int x1), (2, .int x2), (3, .int x3), (4, .int x4), (6, .int x6)]) [0, 1, 2, 3, 4, 6] rfl ?_
          exact t_Md_test_76 hd0 ih x1 x2 x3 x4 x6 (1 : Int32) x5 _ h
def Md_test_15 (ν : Nm) : Nat → Int32 → Int32 → Int32 → Int32 → Option Int32
  | 0, _, _, _, _ => none
  | f + 1, x1, x2, x3, x4 =>
    (if ((1 : Int32) <<< ((gi ν 314 0) &&& 31)) ≤ x4 then
      some x2
    else
      (if x1 ≤ (1 : Int32) then
        some x2
      else
        Md_test_39 ν (Md_test_15 ν f) FU x1 x2 x3 x4 (0 : Int32) (0 : Int32)))
set_option maxRecDepth 100000 in
set_option maxHeartbeats 4000000 in
theorem t_Md_test_15 {g : GG} {d : Nat} {ν : Nm} (hd0 : 3 ≤ d) : ∀ (f : Nat), ∀ (x1 : Int32) (x2 : Int32) (x3 : Int32) (x4 : Int32) (r : Int32), Md_test_15 ν f x1 x2 x3 x4 = some r → Z g d (0, 0) mX12_test 333 0 0 15 [(0, .ref 313), (1, .int x1), (2, .int x2), (3, .int x3), (4, .int x4)] [] (zem ν) (zF g (some (.int r), zem ν)) := by
  intro f
  induction f with
  | zero =>
    intro x1 x2 x3 x4 r h
    cases h
  | succ f ih =>
    intro x1 x2 x3 x4 r h
    rw [Md_test_15] at h
    refine z_iload dX12_test_15 4 rfl ?_
    refine z_iconst (M := mX12_test) (v := 1) dX12_test_17 rfl ?_
    refine z_aload_n dX12_test_18 0 rfl ?_
    refine y_getR (M := mX12_test) (r := 314) dX12_test_19 zk_313 flRX12_7 fr_10_0.1 (fr_10_0.2 _) ?_
    refine z_iconst (M := mX12_test) (v := 0) dX12_test_22 rfl ?_
    refine y_iald (M := mX12_test) (jj := 0) dX12_test_23 zk_314 rfl rfl ?_
    refine z_ishl dX12_test_24 ?_
    refine z_icmp_ge 126 dX12_test_25 rfl (fun hc1 => ?_) (fun hc1 => ?_)
    · replace h := oT hc1 h
      refine z_iload_n dX12_test_126 2 rfl ?_
      cases h
      exact z_iret dX12_test_127 rfl
    · replace h := oF hc1 h
      refine z_iload_n dX12_test_28 1 rfl ?_
      refine z_iconst (M := mX12_test) (v := 1) dX12_test_29 rfl ?_
      refine z_icmp_le 126 dX12_test_30 rfl (fun hc2 => ?_) (fun hc2 => ?_)
      · replace h := oT hc2 h
        refine z_iload_n dX12_test_126 2 rfl ?_
        cases h
        exact z_iret dX12_test_127 rfl
      · replace h := oF hc2 h
        refine z_iconst (M := mX12_test) (v := 0) dX12_test_33 rfl ?_
        refine z_istore (M := mX12_test) (lv2 := [(5, .int (0 : Int32)), (0, .ref 313), (1, .int x1), (2, .int x2), (3, .int x3), (4, .int x4)]) dX12_test_34 (Nat.le_of_ble_eq_true rfl) rfl ?_
        refine z_iconst (M := mX12_test) (v := 0) dX12_test_36 rfl ?_
        refine z_istore (M := mX12_test) (lv2 := [(6, .int (0 : Int32)), (5, .int (0 : Int32)), (0, .ref 313), (1, .int x1), (2, .int x2), (3, .int x3), (4, .int x4)]) dX12_test_37 (Nat.le_of_ble_eq_true rfl) rfl ?_
        refine z_lv (lv2 := [(0, .ref 313), (1, .int x1), (2, .int x2), (3, .int x3), (4, .int x4), (5, .int (0 : Int32)), (6, .int (0 : Int32))]) [2, 3, 4, 5, 6, 1, 0] rfl ?_
        exact t_Md_test_39 hd0 ih FU x1 x2 x3 x4 (0 : Int32) (0 : Int32) _ h
def Md_test (ν : Nm) : Option Int32 :=
  (Md_suspects ν (0 : Int32)).bind fun v1 =>
  Md_test_15 ν FU v1 (-1 : Int32) (1000000 : Int32) (1 : Int32)
set_option maxRecDepth 100000 in
set_option maxHeartbeats 4000000 in
theorem t_Md_test {g : GG} {d : Nat} {ν : Nm} (hd0 : 3 ≤ d) : ∀ (r : Int32), Md_test ν = some r → Z g d (0, 0) mX12_test 333 0 0 0 [(0, .ref 313)] [] (zem ν) (zF g (some (.int r), zem ν)) := by
  intro r h
  unfold Md_test at h
  refine z_aload_n dX12_test_0 0 rfl ?_
  refine z_iconst (M := mX12_test) (v := 0) dX12_test_1 rfl ?_
  obtain ⟨v1, he1, h⟩ := obind h
  refine y_Vi (M := mX12_test) (Y := mX12_suspects) (d2 := d - 1) (As := [.int (0 : Int32)]) (st := []) dX12_test_2 mlRX12_502 cv_X12_suspects zk_313 (ct_Md_suspects (dle (Nat.le_of_ble_eq_true rfl) hd0) he1) (dps (Nat.le_of_ble_eq_true rfl) hd0) rfl rfl (Nat.le_of_ble_eq_true rfl) ?_
  refine z_istore_n (M := mX12_test) (lv2 := [(1, .int v1), (0, .ref 313)]) dX12_test_5 (Nat.le_of_ble_eq_true rfl) rfl ?_
  refine z_iconst (M := mX12_test) (v := -1) dX12_test_6 rfl ?_
  refine z_istore_n (M := mX12_test) (lv2 := [(2, .int (-1 : Int32)), (1, .int v1), (0, .ref 313)]) dX12_test_7 (Nat.le_of_ble_eq_true rfl) rfl ?_
  refine z_ldcw dX12_test_8 csRX12_332 ?_
  refine z_istore_n (M := mX12_test) (lv2 := [(3, .int (1000000 : Int32)), (2, .int (-1 : Int32)), (1, .int v1), (0, .ref 313)]) dX12_test_11 (Nat.le_of_ble_eq_true rfl) rfl ?_
  refine z_iconst (M := mX12_test) (v := 1) dX12_test_12 rfl ?_
  refine z_istore (M := mX12_test) (lv2 := [(4, .int (1 : Int32)), (3, .int (1000000 : Int32)), (2, .int (-1 : Int32)), (1, .int v1), (0, .ref 313)]) dX12_test_13 (Nat.le_of_ble_eq_true rfl) rfl ?_
  refine z_lv (lv2 := [(0, .ref 313), (1, .int v1), (2, .int (-1 : Int32)), (3, .int (1000000 : Int32)), (4, .int (1 : Int32))]) [4, 3, 2, 1, 0] rfl ?_
  exact t_Md_test_15 hd0 FU v1 (-1 : Int32) (1000000 : Int32) (1 : Int32) _ h
theorem ct_Md_test {g : GG} {d : Nat} {ν : Nm} {r : Int32} (hd0 : 3 ≤ d)  (h : Md_test ν = some r) : Ct g d mX12_test [.ref 313] (zem ν) (some (.int r), zem ν) := y_entry in_X12_test (Nat.le_of_ble_eq_true rfl) rfl (t_Md_test hd0 r h)
-- FuseMinutesModel.divisor(JJ)J
theorem dX12_divisor_0 : decode cX12_divisor 0 = .ok (.lload_n 0, 1) := by decide +kernel
theorem dX12_divisor_1 : decode cX12_divisor 1 = .ok (.lstore 4, 2) := by decide +kernel
theorem dX12_divisor_3 : decode cX12_divisor 3 = .ok (.lload_n 2, 1) := by decide +kernel
theorem dX12_divisor_4 : decode cX12_divisor 4 = .ok (.lstore 6, 2) := by decide +kernel
theorem dX12_divisor_6 : decode cX12_divisor 6 = .ok (.lload 6, 2) := by decide +kernel
theorem dX12_divisor_8 : decode cX12_divisor 8 = .ok (.lconst 0, 1) := by decide +kernel
theorem dX12_divisor_9 : decode cX12_divisor 9 = .ok (.lcmp, 1) := by decide +kernel
theorem dX12_divisor_10 : decode cX12_divisor 10 = .ok (.ifCond .eq 21, 3) := by decide +kernel
theorem dX12_divisor_13 : decode cX12_divisor 13 = .ok (.lload 4, 2) := by decide +kernel
theorem dX12_divisor_15 : decode cX12_divisor 15 = .ok (.lload 6, 2) := by decide +kernel
theorem dX12_divisor_17 : decode cX12_divisor 17 = .ok (.lrem, 1) := by decide +kernel
theorem dX12_divisor_18 : decode cX12_divisor 18 = .ok (.lstore 8, 2) := by decide +kernel
theorem dX12_divisor_20 : decode cX12_divisor 20 = .ok (.lload 6, 2) := by decide +kernel
theorem dX12_divisor_22 : decode cX12_divisor 22 = .ok (.lstore 4, 2) := by decide +kernel
theorem dX12_divisor_24 : decode cX12_divisor 24 = .ok (.lload 8, 2) := by decide +kernel
theorem dX12_divisor_26 : decode cX12_divisor 26 = .ok (.lstore 6, 2) := by decide +kernel
theorem dX12_divisor_28 : decode cX12_divisor 28 = .ok (.goto (-22), 3) := by decide +kernel
theorem dX12_divisor_31 : decode cX12_divisor 31 = .ok (.lload 4, 2) := by decide +kernel
theorem dX12_divisor_33 : decode cX12_divisor 33 = .ok (.lreturn, 1) := by decide +kernel
def Md_divisor_6 : Nat → Int64 → Int64 → Option Int64
  | 0, _, _ => none
  | f + 1, x4, x6 =>
    (if (lg_cmp x6 (0 : Int64)) = 0 then
      some x4
    else
      if x6 = 0 then none else
      (Md_divisor_6 f) x6 (x4 - x4 / x6 * x6))
set_option maxRecDepth 100000 in
set_option maxHeartbeats 4000000 in
theorem t_Md_divisor_6 {g : GG} {d : Nat} {μ : Mm} (hd0 : 1 ≤ d) : ∀ (f : Nat), ∀ (x4 : Int64) (x6 : Int64) (r : Int64), Md_divisor_6 f x4 x6 = some r → Z g d (0, 0) mX12_divisor 333 0 0 6 [(4, .long x4), (6, .long x6)] [] μ (zF g (some (.long r), μ)) := by
  intro f
  induction f with
  | zero =>
    intro x4 x6 r h
    cases h
  | succ f ih =>
    intro x4 x6 r h
    rw [Md_divisor_6] at h
    refine z_lload dX12_divisor_6 1 rfl ?_
    refine z_lconst (M := mX12_divisor) (v := 0) dX12_divisor_8 rfl ?_
    refine z_lcmp dX12_divisor_9 ?_
    refine z_if_eq 31 dX12_divisor_10 rfl (fun hc1 => ?_) (fun hc1 => ?_)
    · replace h := oT hc1 h
      refine z_lload dX12_divisor_31 0 rfl ?_
      cases h
      exact z_lret dX12_divisor_33 rfl
    · replace h := oF hc1 h
      refine z_lload dX12_divisor_13 0 rfl ?_
      refine z_lload dX12_divisor_15 1 rfl ?_
      obtain ⟨hz2, h⟩ := oifn h
      refine z_lrem dX12_divisor_17 hz2 ?_
      refine z_lstore (M := mX12_divisor) (lv2 := [(8, .long (x4 - x4 / x6 * x6)), (4, .long x4), (6, .long x6)]) dX12_divisor_18 (Nat.le_of_ble_eq_true rfl) rfl ?_
      refine z_lload dX12_divisor_20 2 rfl ?_
      refine z_lstore (M := mX12_divisor) (lv2 := [(4, .long x6), (8, .long (x4 - x4 / x6 * x6)), (6, .long x6)]) dX12_divisor_22 (Nat.le_of_ble_eq_true rfl) rfl ?_
      refine z_lload dX12_divisor_24 1 rfl ?_
      refine z_lstore (M := mX12_divisor) (lv2 := [(6, .long (x4 - x4 / x6 * x6)), (4, .long x6), (8, .long (x4 - x4 / x6 * x6))]) dX12_divisor_26 (Nat.le_of_ble_eq_true rfl) rfl ?_
      refine z_goto 6 dX12_divisor_28 rfl ?_
      refine z_lv (lv2 := [(4, .long x6), (6, .long (x4 - x4 / x6 * x6))]) [1, 0] rfl ?_
      exact ih x6 (x4 - x4 / x6 * x6) _ h
def Md_divisor (x0 : Int64) (x2 : Int64) : Option Int64 :=
  Md_divisor_6 FU x0 x2
set_option maxRecDepth 100000 in
set_option maxHeartbeats 4000000 in
theorem t_Md_divisor {g : GG} {d : Nat} {μ : Mm} (hd0 : 1 ≤ d) : ∀ (x0 : Int64) (x2 : Int64) (r : Int64), Md_divisor x0 x2 = some r → Z g d (0, 0) mX12_divisor 333 0 0 0 [(0, .long x0), (2, .long x2)] [] μ (zF g (some (.long r), μ)) := by
  intro x0 x2 r h
  unfold Md_divisor at h
  refine z_lload_n dX12_divisor_0 0 rfl ?_
  refine z_lstore (M := mX12_divisor) (lv2 := [(4, .long x0), (0, .long x0), (2, .long x2)]) dX12_divisor_1 (Nat.le_of_ble_eq_true rfl) rfl ?_
  refine z_lload_n dX12_divisor_3 2 rfl ?_
  refine z_lstore (M := mX12_divisor) (lv2 := [(6, .long x2), (4, .long x0), (0, .long x0), (2, .long x2)]) dX12_divisor_4 (Nat.le_of_ble_eq_true rfl) rfl ?_
  refine z_lv (lv2 := [(4, .long x0), (6, .long x2)]) [1, 0] rfl ?_
  exact t_Md_divisor_6 hd0 FU x0 x2 _ h
theorem ct_Md_divisor {g : GG} {d : Nat} {x0 : Int64} {x2 : Int64} {μ : Mm} {r : Int64} (hd0 : 1 ≤ d)  (h : Md_divisor x0 x2 = some r) : Ct g d mX12_divisor [.long x0, .long x2] μ (some (.long r), μ) := y_entry in_X12_divisor (Nat.le_of_ble_eq_true rfl) rfl (t_Md_divisor hd0 x0 x2 r h)
-- FuseMinutesModel.power(JI)J
theorem dX12_power_0 : decode cX12_power 0 = .ok (.lconst 1, 1) := by decide +kernel
theorem dX12_power_1 : decode cX12_power 1 = .ok (.lstore_n 3, 1) := by decide +kernel
theorem dX12_power_2 : decode cX12_power 2 = .ok (.iconst 0, 1) := by decide +kernel
theorem dX12_power_3 : decode cX12_power 3 = .ok (.istore 5, 2) := by decide +kernel
theorem dX12_power_5 : decode cX12_power 5 = .ok (.iload 5, 2) := by decide +kernel
theorem dX12_power_7 : decode cX12_power 7 = .ok (.iload_n 2, 1) := by decide +kernel
theorem dX12_power_8 : decode cX12_power 8 = .ok (.if_icmp .ge 13, 3) := by decide +kernel
theorem dX12_power_11 : decode cX12_power 11 = .ok (.lload_n 3, 1) := by decide +kernel
theorem dX12_power_12 : decode cX12_power 12 = .ok (.lload_n 0, 1) := by decide +kernel
theorem dX12_power_13 : decode cX12_power 13 = .ok (.lmul, 1) := by decide +kernel
theorem dX12_power_14 : decode cX12_power 14 = .ok (.lstore_n 3, 1) := by decide +kernel
theorem dX12_power_15 : decode cX12_power 15 = .ok (.iinc 5 1, 3) := by decide +kernel
theorem dX12_power_18 : decode cX12_power 18 = .ok (.goto (-13), 3) := by decide +kernel
theorem dX12_power_21 : decode cX12_power 21 = .ok (.lload_n 3, 1) := by decide +kernel
theorem dX12_power_22 : decode cX12_power 22 = .ok (.lreturn, 1) := by decide +kernel
def Md_power_5 : Nat → Int64 → Int32 → Int64 → Int32 → Option Int64
  | 0, _, _, _, _ => none
  | f + 1, x0, x2, x3, x5 =>
    (if x2 ≤ x5 then
      some x3
    else
      (Md_power_5 f) x0 x2 (x3 * x0) (x5 + (1 : Int32)))
set_option maxRecDepth 100000 in
set_option maxHeartbeats 4000000 in
theorem t_Md_power_5 {g : GG} {d : Nat} {μ : Mm} (hd0 : 1 ≤ d) : ∀ (f : Nat), ∀ (x0 : Int64) (x2 : Int32) (x3 : Int64) (x5 : Int32) (r : Int64), Md_power_5 f x0 x2 x3 x5 = some r → Z g d (0, 0) mX12_power 333 0 0 5 [(0, .long x0), (2, .int x2), (3, .long x3), (5, .int x5)] [] μ (zF g (some (.long r), μ)) := by
  intro f
  induction f with
  | zero =>
    intro x0 x2 x3 x5 r h
    cases h
  | succ f ih =>
    intro x0 x2 x3 x5 r h
    rw [Md_power_5] at h
    refine z_iload dX12_power_5 3 rfl ?_
    refine z_iload_n dX12_power_7 1 rfl ?_
    refine z_icmp_ge 21 dX12_power_8 rfl (fun hc1 => ?_) (fun hc1 => ?_)
    · replace h := oT hc1 h
      refine z_lload_n dX12_power_21 2 rfl ?_
      cases h
      exact z_lret dX12_power_22 rfl
    · replace h := oF hc1 h
      refine z_lload_n dX12_power_11 2 rfl ?_
      refine z_lload_n dX12_power_12 0 rfl ?_
      refine z_lmul dX12_power_13 ?_
      refine z_lstore_n (M := mX12_power) (lv2 := [(3, .long (x3 * x0)), (0, .long x0), (2, .int x2), (5, .int x5)]) dX12_power_14 (Nat.le_of_ble_eq_true rfl) rfl ?_
      refine z_iinc (M := mX12_power) (v := (x5 + (1 : Int32))) (lv2 := [(5, .int (x5 + (1 : Int32))), (3, .long (x3 * x0)), (0, .long x0), (2, .int x2)]) dX12_power_15 3 rfl rfl (Nat.le_of_ble_eq_true rfl) rfl ?_
      refine z_goto 5 dX12_power_18 rfl ?_
      refine z_lv (lv2 := [(0, .long x0), (2, .int x2), (3, .long (x3 * x0)), (5, .int (x5 + (1 : Int32)))]) [2, 3, 1, 0] rfl ?_
      exact ih x0 x2 (x3 * x0) (x5 + (1 : Int32)) _ h
def Md_power (x0 : Int64) (x2 : Int32) : Option Int64 :=
  Md_power_5 FU x0 x2 (1 : Int64) (0 : Int32)
set_option maxRecDepth 100000 in
set_option maxHeartbeats 4000000 in
theorem t_Md_power {g : GG} {d : Nat} {μ : Mm} (hd0 : 1 ≤ d) : ∀ (x0 : Int64) (x2 : Int32) (r : Int64), Md_power x0 x2 = some r → Z g d (0, 0) mX12_power 333 0 0 0 [(0, .long x0), (2, .int x2)] [] μ (zF g (some (.long r), μ)) := by
  intro x0 x2 r h
  unfold Md_power at h
  refine z_lconst (M := mX12_power) (v := 1) dX12_power_0 rfl ?_
  refine z_lstore_n (M := mX12_power) (lv2 := [(3, .long (1 : Int64)), (0, .long x0), (2, .int x2)]) dX12_power_1 (Nat.le_of_ble_eq_true rfl) rfl ?_
  refine z_iconst (M := mX12_power) (v := 0) dX12_power_2 rfl ?_
  refine z_istore (M := mX12_power) (lv2 := [(5, .int (0 : Int32)), (3, .long (1 : Int64)), (0, .long x0), (2, .int x2)]) dX12_power_3 (Nat.le_of_ble_eq_true rfl) rfl ?_
  refine z_lv (lv2 := [(0, .long x0), (2, .int x2), (3, .long (1 : Int64)), (5, .int (0 : Int32))]) [2, 3, 1, 0] rfl ?_
  exact t_Md_power_5 hd0 FU x0 x2 (1 : Int64) (0 : Int32) _ h
theorem ct_Md_power {g : GG} {d : Nat} {x0 : Int64} {x2 : Int32} {μ : Mm} {r : Int64} (hd0 : 1 ≤ d)  (h : Md_power x0 x2 = some r) : Ct g d mX12_power [.long x0, .int x2] μ (some (.long r), μ) := y_entry in_X12_power (Nat.le_of_ble_eq_true rfl) rfl (t_Md_power hd0 x0 x2 r h)
-- FuseMinutesModel.share(JJZ)J
theorem dX12_share_0 : decode cX12_share 0 = .ok (.iload 4, 2) := by decide +kernel
theorem dX12_share_2 : decode cX12_share 2 = .ok (.ifCond .eq 7, 3) := by decide +kernel
theorem dX12_share_5 : decode cX12_share 5 = .ok (.lload_n 2, 1) := by decide +kernel
theorem dX12_share_6 : decode cX12_share 6 = .ok (.goto 4, 3) := by decide +kernel
theorem dX12_share_9 : decode cX12_share 9 = .ok (.lload_n 0, 1) := by decide +kernel
theorem dX12_share_10 : decode cX12_share 10 = .ok (.lload_n 0, 1) := by decide +kernel
theorem dX12_share_11 : decode cX12_share 11 = .ok (.lload_n 2, 1) := by decide +kernel
theorem dX12_share_12 : decode cX12_share 12 = .ok (.invokestatic 505, 3) := by decide +kernel
theorem dX12_share_15 : decode cX12_share 15 = .ok (.ldiv, 1) := by decide +kernel
theorem dX12_share_16 : decode cX12_share 16 = .ok (.lreturn, 1) := by decide +kernel
def Md_share_10 (x0 : Int64) (x2 : Int64) (s0 : Int64) : Option Int64 :=
  (Md_divisor x0 x2).bind fun v1 =>
  if v1 = 0 then none else
  some (s0 / v1)
set_option maxRecDepth 100000 in
set_option maxHeartbeats 4000000 in
theorem t_Md_share_10 {g : GG} {d : Nat} {μ : Mm} (hd0 : 2 ≤ d) : ∀ (x0 : Int64) (x2 : Int64) (s0 : Int64) (r : Int64), Md_share_10 x0 x2 s0 = some r → Z g d (0, 0) mX12_share 333 0 0 10 [(0, .long x0), (2, .long x2)] [.long s0] μ (zF g (some (.long r), μ)) := by
  intro x0 x2 s0 r h
  unfold Md_share_10 at h
  refine z_lload_n dX12_share_10 0 rfl ?_
  refine z_lload_n dX12_share_11 1 rfl ?_
  obtain ⟨v1, he1, h⟩ := obind h
  refine y_Sl (M := mX12_share) (Y := mX12_divisor) (d2 := d - 1) (As := [.long x0, .long x2]) (st := [.long s0]) dX12_share_12 mlRX12_505 cv_X12_divisor (ct_Md_divisor (dle (Nat.le_of_ble_eq_true rfl) hd0) he1) (dps (Nat.le_of_ble_eq_true rfl) hd0) rfl rfl (Nat.le_of_ble_eq_true rfl) ?_
  obtain ⟨hz2, h⟩ := oifn h
  refine z_ldiv dX12_share_15 hz2 ?_
  cases h
  exact z_lret dX12_share_16 rfl
def Md_share (x0 : Int64) (x2 : Int64) (x4 : Int32) : Option Int64 :=
  (if x4 = 0 then
    Md_share_10 x0 x2 x0
  else
    Md_share_10 x0 x2 x2)
set_option maxRecDepth 100000 in
set_option maxHeartbeats 4000000 in
theorem t_Md_share {g : GG} {d : Nat} {μ : Mm} (hd0 : 2 ≤ d) : ∀ (x0 : Int64) (x2 : Int64) (x4 : Int32) (r : Int64), Md_share x0 x2 x4 = some r → Z g d (0, 0) mX12_share 333 0 0 0 [(0, .long x0), (2, .long x2), (4, .int x4)] [] μ (zF g (some (.long r), μ)) := by
  intro x0 x2 x4 r h
  unfold Md_share at h
  refine z_iload dX12_share_0 2 rfl ?_
  refine z_if_eq 9 dX12_share_2 rfl (fun hc1 => ?_) (fun hc1 => ?_)
  · replace h := oT hc1 h
    refine z_lload_n dX12_share_9 0 rfl ?_
    refine z_lv (lv2 := [(0, .long x0), (2, .long x2)]) [0, 1] rfl ?_
    exact t_Md_share_10 hd0  x0 x2 x0 _ h
  · replace h := oF hc1 h
    refine z_lload_n dX12_share_5 1 rfl ?_
    refine z_goto 10 dX12_share_6 rfl ?_
    refine z_lv (lv2 := [(0, .long x0), (2, .long x2)]) [0, 1] rfl ?_
    exact t_Md_share_10 hd0  x0 x2 x2 _ h
theorem ct_Md_share {g : GG} {d : Nat} {x0 : Int64} {x2 : Int64} {x4 : Int32} {μ : Mm} {r : Int64} (hd0 : 2 ≤ d)  (h : Md_share x0 x2 x4 = some r) : Ct g d mX12_share [.long x0, .long x2, .int x4] μ (some (.long r), μ) := y_entry in_X12_share (Nat.le_of_ble_eq_true rfl) rfl (t_Md_share hd0 x0 x2 x4 r h)
-- FuseMinutesModel.right(IIZ)J
theorem dX12_right_0 : decode cX12_right 0 = .ok (.iload_n 1, 1) := by decide +kernel
theorem dX12_right_1 : decode cX12_right 1 = .ok (.iconst 0, 1) := by decide +kernel
theorem dX12_right_2 : decode cX12_right 2 = .ok (.bipush 12, 2) := by decide +kernel
theorem dX12_right_4 : decode cX12_right 4 = .ok (.invokestatic 88, 3) := by decide +kernel
theorem dX12_right_7 : decode cX12_right 7 = .ok (.ifCond .eq 13, 3) := by decide +kernel
theorem dX12_right_10 : decode cX12_right 10 = .ok (.iload_n 2, 1) := by decide +kernel
theorem dX12_right_11 : decode cX12_right 11 = .ok (.iconst 0, 1) := by decide +kernel
theorem dX12_right_12 : decode cX12_right 12 = .ok (.bipush 10, 2) := by decide +kernel
theorem dX12_right_14 : decode cX12_right 14 = .ok (.invokestatic 88, 3) := by decide +kernel
theorem dX12_right_17 : decode cX12_right 17 = .ok (.ifCond .ne 7, 3) := by decide +kernel
theorem dX12_right_20 : decode cX12_right 20 = .ok (.ldc2_w 509, 3) := by decide +kernel
theorem dX12_right_23 : decode cX12_right 23 = .ok (.lreturn, 1) := by decide +kernel
theorem dX12_right_24 : decode cX12_right 24 = .ok (.ldc2_w 511, 3) := by decide +kernel
theorem dX12_right_27 : decode cX12_right 27 = .ok (.iload_n 2, 1) := by decide +kernel
theorem dX12_right_28 : decode cX12_right 28 = .ok (.i2l, 1) := by decide +kernel
theorem dX12_right_29 : decode cX12_right 29 = .ok (.lsub, 1) := by decide +kernel
theorem dX12_right_30 : decode cX12_right 30 = .ok (.iload_n 1, 1) := by decide +kernel
theorem dX12_right_31 : decode cX12_right 31 = .ok (.invokestatic 513, 3) := by decide +kernel
theorem dX12_right_34 : decode cX12_right 34 = .ok (.ldc2_w 511, 3) := by decide +kernel
theorem dX12_right_37 : decode cX12_right 37 = .ok (.iload_n 1, 1) := by decide +kernel
theorem dX12_right_38 : decode cX12_right 38 = .ok (.invokestatic 513, 3) := by decide +kernel
theorem dX12_right_41 : decode cX12_right 41 = .ok (.iload_n 3, 1) := by decide +kernel
theorem dX12_right_42 : decode cX12_right 42 = .ok (.invokestatic 517, 3) := by decide +kernel
theorem dX12_right_45 : decode cX12_right 45 = .ok (.lreturn, 1) := by decide +kernel
def Md_right (x1 : Int32) (x2 : Int32) (x3 : Int32) : Option Int64 :=
  (Md_isIn x1 (0 : Int32) (12 : Int32)).bind fun v1 =>
  (if (b2i v1) = 0 then
    some (-1 : Int64)
  else
    (Md_isIn x2 (0 : Int32) (10 : Int32)).bind fun v3 =>
    (if ¬ (b2i v3) = 0 then
      (Md_power ((10 : Int64) - x2.toInt64) x1).bind fun v5 =>
      (Md_power (10 : Int64) x1).bind fun v6 =>
      (Md_share v5 v6 x3).bind fun v7 =>
      some v7
    else
      some (-1 : Int64)))
set_option maxRecDepth 100000 in
set_option maxHeartbeats 4000000 in
theorem t_Md_right {g : GG} {d : Nat} {μ : Mm} (hd0 : 3 ≤ d) : ∀ (x1 : Int32) (x2 : Int32) (x3 : Int32) (r : Int64), Md_right x1 x2 x3 = some r → Z g d (0, 0) mX12_right 333 0 0 0 [(0, .ref 313), (1, .int x1), (2, .int x2), (3, .int x3)] [] μ (zF g (some (.long r), μ)) := by
  intro x1 x2 x3 r h
  unfold Md_right at h
  refine z_iload_n dX12_right_0 1 rfl ?_
  refine z_iconst (M := mX12_right) (v := 0) dX12_right_1 rfl ?_
  refine z_bipush (M := mX12_right) (v := 12) dX12_right_2 rfl ?_
  obtain ⟨v1, he1, h⟩ := obind h
  refine y_Si (M := mX12_right) (Y := mX12_isIn) (d2 := d - 1) (As := [.int x1, .int (0 : Int32), .int (12 : Int32)]) (st := []) dX12_right_4 mlRX12_88 cv_X12_isIn (ct_Md_isIn (dle (Nat.le_of_ble_eq_true rfl) hd0) he1) (dps (Nat.le_of_ble_eq_true rfl) hd0) rfl rfl (Nat.le_of_ble_eq_true rfl) ?_
  refine z_if_eq 20 dX12_right_7 rfl (fun hc2 => ?_) (fun hc2 => ?_)
  · replace h := oT hc2 h
    refine z_ldc2 dX12_right_20 csRX12_509 ?_
    cases h
    exact z_lret dX12_right_23 rfl
  · replace h := oF hc2 h
    refine z_iload_n dX12_right_10 2 rfl ?_
    refine z_iconst (M := mX12_right) (v := 0) dX12_right_11 rfl ?_
    refine z_bipush (M := mX12_right) (v := 10) dX12_right_12 rfl ?_
    obtain ⟨v3, he3, h⟩ := obind h
    refine y_Si (M := mX12_right) (Y := mX12_isIn) (d2 := d - 1) (As := [.int x2, .int (0 : Int32), .int (10 : Int32)]) (st := []) dX12_right_14 mlRX12_88 cv_X12_isIn (ct_Md_isIn (dle (Nat.le_of_ble_eq_true rfl) hd0) he3) (dps (Nat.le_of_ble_eq_true rfl) hd0) rfl rfl (Nat.le_of_ble_eq_true rfl) ?_
    refine z_if_ne 24 dX12_right_17 rfl (fun hc4 => ?_) (fun hc4 => ?_)
    · replace h := oT hc4 h
      refine z_ldc2 dX12_right_24 csRX12_511 ?_
      refine z_iload_n dX12_right_27 2 rfl ?_
      refine z_i2l dX12_right_28 ?_
      refine z_lsub dX12_right_29 ?_
      refine z_iload_n dX12_right_30 1 rfl ?_
      obtain ⟨v5, he5, h⟩ := obind h
      refine y_Sl (M := mX12_right) (Y := mX12_power) (d2 := d - 1) (As := [.long ((10 : Int64) - x2.toInt64), .int x1]) (st := []) dX12_right_31 mlRX12_513 cv_X12_power (ct_Md_power (dle (Nat.le_of_ble_eq_true rfl) hd0) he5) (dps (Nat.le_of_ble_eq_true rfl) hd0) rfl rfl (Nat.le_of_ble_eq_true rfl) ?_
      refine z_ldc2 dX12_right_34 csRX12_511 ?_
      refine z_iload_n dX12_right_37 1 rfl ?_
      obtain ⟨v6, he6, h⟩ := obind h
      refine y_Sl (M := mX12_right) (Y := mX12_power) (d2 := d - 1) (As := [.long (10 : Int64), .int x1]) (st := [.long v5]) dX12_right_38 mlRX12_513 cv_X12_power (ct_Md_power (dle (Nat.le_of_ble_eq_true rfl) hd0) he6) (dps (Nat.le_of_ble_eq_true rfl) hd0) rfl rfl (Nat.le_of_ble_eq_true rfl) ?_
      refine z_iload_n dX12_right_41 3 rfl ?_
      obtain ⟨v7, he7, h⟩ := obind h
      refine y_Sl (M := mX12_right) (Y := mX12_share) (d2 := d - 1) (As := [.long v5, .long v6, .int x3]) (st := []) dX12_right_42 mlRX12_517 cv_X12_share (ct_Md_share (dle (Nat.le_of_ble_eq_true rfl) hd0) he7) (dps (Nat.le_of_ble_eq_true rfl) hd0) rfl rfl (Nat.le_of_ble_eq_true rfl) ?_
      cases h
      exact z_lret dX12_right_45 rfl
    · replace h := oFn hc4 h
      refine z_ldc2 dX12_right_20 csRX12_509 ?_
      cases h
      exact z_lret dX12_right_23 rfl
theorem ct_Md_right {g : GG} {d : Nat} {x1 : Int32} {x2 : Int32} {x3 : Int32} {μ : Mm} {r : Int64} (hd0 : 3 ≤ d)  (h : Md_right x1 x2 x3 = some r) : Ct g d mX12_right [.ref 313, .int x1, .int x2, .int x3] μ (some (.long r), μ) := y_entry in_X12_right (Nat.le_of_ble_eq_true rfl) rfl (t_Md_right hd0 x1 x2 x3 r h)
-- FuseMinutesModel.tries(IIIZ)J
theorem dX12_tries_0 : decode cX12_tries 0 = .ok (.iload_n 1, 1) := by decide +kernel
theorem dX12_tries_1 : decode cX12_tries 1 = .ok (.iconst 0, 1) := by decide +kernel
theorem dX12_tries_2 : decode cX12_tries 2 = .ok (.iconst 3, 1) := by decide +kernel
theorem dX12_tries_3 : decode cX12_tries 3 = .ok (.invokestatic 88, 3) := by decide +kernel
theorem dX12_tries_6 : decode cX12_tries 6 = .ok (.ifCond .eq 22, 3) := by decide +kernel
theorem dX12_tries_9 : decode cX12_tries 9 = .ok (.iload_n 2, 1) := by decide +kernel
theorem dX12_tries_10 : decode cX12_tries 10 = .ok (.iconst 0, 1) := by decide +kernel
theorem dX12_tries_11 : decode cX12_tries 11 = .ok (.bipush 10, 2) := by decide +kernel
theorem dX12_tries_13 : decode cX12_tries 13 = .ok (.invokestatic 88, 3) := by decide +kernel
theorem dX12_tries_16 : decode cX12_tries 16 = .ok (.ifCond .eq 12, 3) := by decide +kernel
theorem dX12_tries_19 : decode cX12_tries 19 = .ok (.iload_n 3, 1) := by decide +kernel
theorem dX12_tries_20 : decode cX12_tries 20 = .ok (.iconst 1, 1) := by decide +kernel
theorem dX12_tries_21 : decode cX12_tries 21 = .ok (.iconst 4, 1) := by decide +kernel
theorem dX12_tries_22 : decode cX12_tries 22 = .ok (.invokestatic 88, 3) := by decide +kernel
theorem dX12_tries_25 : decode cX12_tries 25 = .ok (.ifCond .ne 7, 3) := by decide +kernel
theorem dX12_tries_28 : decode cX12_tries 28 = .ok (.ldc2_w 509, 3) := by decide +kernel
theorem dX12_tries_31 : decode cX12_tries 31 = .ok (.lreturn, 1) := by decide +kernel
theorem dX12_tries_32 : decode cX12_tries 32 = .ok (.ldc2_w 511, 3) := by decide +kernel
theorem dX12_tries_35 : decode cX12_tries 35 = .ok (.iload_n 3, 1) := by decide +kernel
theorem dX12_tries_36 : decode cX12_tries 36 = .ok (.invokestatic 513, 3) := by decide +kernel
theorem dX12_tries_39 : decode cX12_tries 39 = .ok (.lstore 5, 2) := by decide +kernel
theorem dX12_tries_41 : decode cX12_tries 41 = .ok (.lload 5, 2) := by decide +kernel
theorem dX12_tries_43 : decode cX12_tries 43 = .ok (.iload_n 2, 1) := by decide +kernel
theorem dX12_tries_44 : decode cX12_tries 44 = .ok (.i2l, 1) := by decide +kernel
theorem dX12_tries_45 : decode cX12_tries 45 = .ok (.iload_n 3, 1) := by decide +kernel
theorem dX12_tries_46 : decode cX12_tries 46 = .ok (.invokestatic 513, 3) := by decide +kernel
theorem dX12_tries_49 : decode cX12_tries 49 = .ok (.lsub, 1) := by decide +kernel
theorem dX12_tries_50 : decode cX12_tries 50 = .ok (.iload_n 1, 1) := by decide +kernel
theorem dX12_tries_51 : decode cX12_tries 51 = .ok (.invokestatic 513, 3) := by decide +kernel
theorem dX12_tries_54 : decode cX12_tries 54 = .ok (.lload 5, 2) := by decide +kernel
theorem dX12_tries_56 : decode cX12_tries 56 = .ok (.iload_n 1, 1) := by decide +kernel
theorem dX12_tries_57 : decode cX12_tries 57 = .ok (.invokestatic 513, 3) := by decide +kernel
theorem dX12_tries_60 : decode cX12_tries 60 = .ok (.iload 4, 2) := by decide +kernel
theorem dX12_tries_62 : decode cX12_tries 62 = .ok (.invokestatic 517, 3) := by decide +kernel
theorem dX12_tries_65 : decode cX12_tries 65 = .ok (.lreturn, 1) := by decide +kernel
def Md_tries (x1 : Int32) (x2 : Int32) (x3 : Int32) (x4 : Int32) : Option Int64 :=
  (Md_isIn x1 (0 : Int32) (3 : Int32)).bind fun v1 =>
  (if (b2i v1) = 0 then
    some (-1 : Int64)
  else
    (Md_isIn x2 (0 : Int32) (10 : Int32)).bind fun v3 =>
    (if (b2i v3) = 0 then
      some (-1 : Int64)
    else
      (Md_isIn x3 (1 : Int32) (4 : Int32)).bind fun v5 =>
      (if ¬ (b2i v5) = 0 then
        (Md_power (10 : Int64) x3).bind fun v7 =>
        (Md_power x2.toInt64 x3).bind fun v8 =>
        (Md_power (v7 - v8) x1).bind fun v9 =>
        (Md_power v7 x1).bind fun v10 =>
        (Md_share v9 v10 x4).bind fun v11 =>
        some v11
      else
        some (-1 : Int64))))
set_option maxRecDepth 100000 in
set_option maxHeartbeats 4000000 in
theorem t_Md_tries {g : GG} {d : Nat} {μ : Mm} (hd0 : 3 ≤ d) : ∀ (x1 : Int32) (x2 : Int32) (x3 : Int32) (x4 : Int32) (r : Int64), Md_tries x1 x2 x3 x4 = some r → Z g d (0, 0) mX12_tries 333 0 0 0 [(0, .ref 313), (1, .int x1), (2, .int x2), (3, .int x3), (4, .int x4)] [] μ (zF g (some (.long r), μ)) := by
  intro x1 x2 x3 x4 r h
  unfold Md_tries at h
  refine z_iload_n dX12_tries_0 1 rfl ?_
  refine z_iconst (M := mX12_tries) (v := 0) dX12_tries_1 rfl ?_
  refine z_iconst (M := mX12_tries) (v := 3) dX12_tries_2 rfl ?_
  obtain ⟨v1, he1, h⟩ := obind h
  refine y_Si (M := mX12_tries) (Y := mX12_isIn) (d2 := d - 1) (As := [.int x1, .int (0 : Int32), .int (3 : Int32)]) (st := []) dX12_tries_3 mlRX12_88 cv_X12_isIn (ct_Md_isIn (dle (Nat.le_of_ble_eq_true rfl) hd0) he1) (dps (Nat.le_of_ble_eq_true rfl) hd0) rfl rfl (Nat.le_of_ble_eq_true rfl) ?_
  refine z_if_eq 28 dX12_tries_6 rfl (fun hc2 => ?_) (fun hc2 => ?_)
  · replace h := oT hc2 h
    refine z_ldc2 dX12_tries_28 csRX12_509 ?_
    cases h
    exact z_lret dX12_tries_31 rfl
  · replace h := oF hc2 h
    refine z_iload_n dX12_tries_9 2 rfl ?_
    refine z_iconst (M := mX12_tries) (v := 0) dX12_tries_10 rfl ?_
    refine z_bipush (M := mX12_tries) (v := 10) dX12_tries_11 rfl ?_
    obtain ⟨v3, he3, h⟩ := obind h
    refine y_Si (M := mX12_tries) (Y := mX12_isIn) (d2 := d - 1) (As := [.int x2, .int (0 : Int32), .int (10 : Int32)]) (st := []) dX12_tries_13 mlRX12_88 cv_X12_isIn (ct_Md_isIn (dle (Nat.le_of_ble_eq_true rfl) hd0) he3) (dps (Nat.le_of_ble_eq_true rfl) hd0) rfl rfl (Nat.le_of_ble_eq_true rfl) ?_
    refine z_if_eq 28 dX12_tries_16 rfl (fun hc4 => ?_) (fun hc4 => ?_)
    · replace h := oT hc4 h
      refine z_ldc2 dX12_tries_28 csRX12_509 ?_
      cases h
      exact z_lret dX12_tries_31 rfl
    · replace h := oF hc4 h
      refine z_iload_n dX12_tries_19 3 rfl ?_
      refine z_iconst (M := mX12_tries) (v := 1) dX12_tries_20 rfl ?_
      refine z_iconst (M := mX12_tries) (v := 4) dX12_tries_21 rfl ?_
      obtain ⟨v5, he5, h⟩ := obind h
      refine y_Si (M := mX12_tries) (Y := mX12_isIn) (d2 := d - 1) (As := [.int x3, .int (1 : Int32), .int (4 : Int32)]) (st := []) dX12_tries_22 mlRX12_88 cv_X12_isIn (ct_Md_isIn (dle (Nat.le_of_ble_eq_true rfl) hd0) he5) (dps (Nat.le_of_ble_eq_true rfl) hd0) rfl rfl (Nat.le_of_ble_eq_true rfl) ?_
      refine z_if_ne 32 dX12_tries_25 rfl (fun hc6 => ?_) (fun hc6 => ?_)
      · replace h := oT hc6 h
        refine z_ldc2 dX12_tries_32 csRX12_511 ?_
        refine z_iload_n dX12_tries_35 3 rfl ?_
        obtain ⟨v7, he7, h⟩ := obind h
        refine y_Sl (M := mX12_tries) (Y := mX12_power) (d2 := d - 1) (As := [.long (10 : Int64), .int x3]) (st := []) dX12_tries_36 mlRX12_513 cv_X12_power (ct_Md_power (dle (Nat.le_of_ble_eq_true rfl) hd0) he7) (dps (Nat.le_of_ble_eq_true rfl) hd0) rfl rfl (Nat.le_of_ble_eq_true rfl) ?_
        refine z_lstore (M := mX12_tries) (lv2 := [(5, .long v7), (0, .ref 313), (1, .int x1), (2, .int x2), (3, .int x3), (4, .int x4)]) dX12_tries_39 (Nat.le_of_ble_eq_true rfl) rfl ?_
        refine z_lload dX12_tries_41 0 rfl ?_
        refine z_iload_n dX12_tries_43 3 rfl ?_
        refine z_i2l dX12_tries_44 ?_
        refine z_iload_n dX12_tries_45 4 rfl ?_
        obtain ⟨v8, he8, h⟩ := obind h
        refine y_Sl (M := mX12_tries) (Y := mX12_power) (d2 := d - 1) (As := [.long x2.toInt64, .int x3]) (st := [.long v7]) dX12_tries_46 mlRX12_513 cv_X12_power (ct_Md_power (dle (Nat.le_of_ble_eq_true rfl) hd0) he8) (dps (Nat.le_of_ble_eq_true rfl) hd0) rfl rfl (Nat.le_of_ble_eq_true rfl) ?_
        refine z_lsub dX12_tries_49 ?_
        refine z_iload_n dX12_tries_50 2 rfl ?_
        obtain ⟨v9, he9, h⟩ := obind h
        refine y_Sl (M := mX12_tries) (Y := mX12_power) (d2 := d - 1) (As := [.long (v7 - v8), .int x1]) (st := []) dX12_tries_51 mlRX12_513 cv_X12_power (ct_Md_power (dle (Nat.le_of_ble_eq_true rfl) hd0) he9) (dps (Nat.le_of_ble_eq_true rfl) hd0) rfl rfl (Nat.le_of_ble_eq_true rfl) ?_
        refine z_lload dX12_tries_54 0 rfl ?_
        refine z_iload_n dX12_tries_56 2 rfl ?_
        obtain ⟨v10, he10, h⟩ := obind h
        refine y_Sl (M := mX12_tries) (Y := mX12_power) (d2 := d - 1) (As := [.long v7, .int x1]) (st := [.long v9]) dX12_tries_57 mlRX12_513 cv_X12_power (ct_Md_power (dle (Nat.le_of_ble_eq_true rfl) hd0) he10) (dps (Nat.le_of_ble_eq_true rfl) hd0) rfl rfl (Nat.le_of_ble_eq_true rfl) ?_
        refine z_iload dX12_tries_60 5 rfl ?_
        obtain ⟨v11, he11, h⟩ := obind h
        refine y_Sl (M := mX12_tries) (Y := mX12_share) (d2 := d - 1) (As := [.long v9, .long v10, .int x4]) (st := []) dX12_tries_62 mlRX12_517 cv_X12_share (ct_Md_share (dle (Nat.le_of_ble_eq_true rfl) hd0) he11) (dps (Nat.le_of_ble_eq_true rfl) hd0) rfl rfl (Nat.le_of_ble_eq_true rfl) ?_
        cases h
        exact z_lret dX12_tries_65 rfl
      · replace h := oFn hc6 h
        refine z_ldc2 dX12_tries_28 csRX12_509 ?_
        cases h
        exact z_lret dX12_tries_31 rfl
theorem ct_Md_tries {g : GG} {d : Nat} {x1 : Int32} {x2 : Int32} {x3 : Int32} {x4 : Int32} {μ : Mm} {r : Int64} (hd0 : 3 ≤ d)  (h : Md_tries x1 x2 x3 x4 = some r) : Ct g d mX12_tries [.ref 313, .int x1, .int x2, .int x3, .int x4] μ (some (.long r), μ) := y_entry in_X12_tries (Nat.le_of_ble_eq_true rfl) rfl (t_Md_tries hd0 x1 x2 x3 x4 r h)
-- FuseMinutesModel.said(II)I
theorem dX12_said_0 : decode cX12_said 0 = .ok (.iload_n 1, 1) := by decide +kernel
theorem dX12_said_1 : decode cX12_said 1 = .ok (.iconst (-1), 1) := by decide +kernel
theorem dX12_said_2 : decode cX12_said 2 = .ok (.if_icmp .ne 13, 3) := by decide +kernel
theorem dX12_said_5 : decode cX12_said 5 = .ok (.aload_n 0, 1) := by decide +kernel
theorem dX12_said_6 : decode cX12_said 6 = .ok (.getfield 7, 3) := by decide +kernel
theorem dX12_said_9 : decode cX12_said 9 = .ok (.bipush 7, 2) := by decide +kernel
theorem dX12_said_11 : decode cX12_said 11 = .ok (.iconst 0, 1) := by decide +kernel
theorem dX12_said_12 : decode cX12_said 12 = .ok (.iastore, 1) := by decide +kernel
theorem dX12_said_13 : decode cX12_said 13 = .ok (.iconst 0, 1) := by decide +kernel
theorem dX12_said_14 : decode cX12_said 14 = .ok (.ireturn, 1) := by decide +kernel
theorem dX12_said_15 : decode cX12_said 15 = .ok (.aload_n 0, 1) := by decide +kernel
theorem dX12_said_16 : decode cX12_said 16 = .ok (.iload_n 1, 1) := by decide +kernel
theorem dX12_said_17 : decode cX12_said 17 = .ok (.invokevirtual 115, 3) := by decide +kernel
theorem dX12_said_20 : decode cX12_said 20 = .ok (.ifCond .eq 25, 3) := by decide +kernel
theorem dX12_said_23 : decode cX12_said 23 = .ok (.iload_n 2, 1) := by decide +kernel
theorem dX12_said_24 : decode cX12_said 24 = .ok (.iconst 0, 1) := by decide +kernel
theorem dX12_said_25 : decode cX12_said 25 = .ok (.bipush 10, 2) := by decide +kernel
theorem dX12_said_27 : decode cX12_said 27 = .ok (.invokestatic 88, 3) := by decide +kernel
theorem dX12_said_30 : decode cX12_said 30 = .ok (.ifCond .eq 15, 3) := by decide +kernel
theorem dX12_said_33 : decode cX12_said 33 = .ok (.aload_n 0, 1) := by decide +kernel
theorem dX12_said_34 : decode cX12_said 34 = .ok (.getfield 7, 3) := by decide +kernel
theorem dX12_said_37 : decode cX12_said 37 = .ok (.bipush 7, 2) := by decide +kernel
theorem dX12_said_39 : decode cX12_said 39 = .ok (.iaload, 1) := by decide +kernel
theorem dX12_said_40 : decode cX12_said 40 = .ok (.bipush 8, 2) := by decide +kernel
theorem dX12_said_42 : decode cX12_said 42 = .ok (.if_icmp .ne 6, 3) := by decide +kernel
theorem dX12_said_45 : decode cX12_said 45 = .ok (.bipush (-2), 2) := by decide +kernel
theorem dX12_said_47 : decode cX12_said 47 = .ok (.ireturn, 1) := by decide +kernel
theorem dX12_said_48 : decode cX12_said 48 = .ok (.aload_n 0, 1) := by decide +kernel
theorem dX12_said_49 : decode cX12_said 49 = .ok (.getfield 7, 3) := by decide +kernel
theorem dX12_said_52 : decode cX12_said 52 = .ok (.bipush 49, 2) := by decide +kernel
theorem dX12_said_54 : decode cX12_said 54 = .ok (.iconst 2, 1) := by decide +kernel
theorem dX12_said_55 : decode cX12_said 55 = .ok (.aload_n 0, 1) := by decide +kernel
theorem dX12_said_56 : decode cX12_said 56 = .ok (.getfield 7, 3) := by decide +kernel
theorem dX12_said_59 : decode cX12_said 59 = .ok (.bipush 7, 2) := by decide +kernel
theorem dX12_said_61 : decode cX12_said 61 = .ok (.iaload, 1) := by decide +kernel
theorem dX12_said_62 : decode cX12_said 62 = .ok (.imul, 1) := by decide +kernel
theorem dX12_said_63 : decode cX12_said 63 = .ok (.iadd, 1) := by decide +kernel
theorem dX12_said_64 : decode cX12_said 64 = .ok (.iload_n 1, 1) := by decide +kernel
theorem dX12_said_65 : decode cX12_said 65 = .ok (.iastore, 1) := by decide +kernel
theorem dX12_said_66 : decode cX12_said 66 = .ok (.aload_n 0, 1) := by decide +kernel
theorem dX12_said_67 : decode cX12_said 67 = .ok (.getfield 7, 3) := by decide +kernel
theorem dX12_said_70 : decode cX12_said 70 = .ok (.bipush 49, 2) := by decide +kernel
theorem dX12_said_72 : decode cX12_said 72 = .ok (.iconst 2, 1) := by decide +kernel
theorem dX12_said_73 : decode cX12_said 73 = .ok (.aload_n 0, 1) := by decide +kernel
theorem dX12_said_74 : decode cX12_said 74 = .ok (.getfield 7, 3) := by decide +kernel
theorem dX12_said_77 : decode cX12_said 77 = .ok (.bipush 7, 2) := by decide +kernel
theorem dX12_said_79 : decode cX12_said 79 = .ok (.iaload, 1) := by decide +kernel
theorem dX12_said_80 : decode cX12_said 80 = .ok (.imul, 1) := by decide +kernel
theorem dX12_said_81 : decode cX12_said 81 = .ok (.iadd, 1) := by decide +kernel
theorem dX12_said_82 : decode cX12_said 82 = .ok (.iconst 1, 1) := by decide +kernel
theorem dX12_said_83 : decode cX12_said 83 = .ok (.iadd, 1) := by decide +kernel
theorem dX12_said_84 : decode cX12_said 84 = .ok (.iload_n 2, 1) := by decide +kernel
theorem dX12_said_85 : decode cX12_said 85 = .ok (.iastore, 1) := by decide +kernel
theorem dX12_said_86 : decode cX12_said 86 = .ok (.aload_n 0, 1) := by decide +kernel
theorem dX12_said_87 : decode cX12_said 87 = .ok (.getfield 7, 3) := by decide +kernel
theorem dX12_said_90 : decode cX12_said 90 = .ok (.bipush 7, 2) := by decide +kernel
theorem dX12_said_92 : decode cX12_said 92 = .ok (.dup2, 1) := by decide +kernel
theorem dX12_said_93 : decode cX12_said 93 = .ok (.iaload, 1) := by decide +kernel
theorem dX12_said_94 : decode cX12_said 94 = .ok (.iconst 1, 1) := by decide +kernel
theorem dX12_said_95 : decode cX12_said 95 = .ok (.iadd, 1) := by decide +kernel
theorem dX12_said_96 : decode cX12_said 96 = .ok (.iastore, 1) := by decide +kernel
theorem dX12_said_97 : decode cX12_said 97 = .ok (.aload_n 0, 1) := by decide +kernel
theorem dX12_said_98 : decode cX12_said 98 = .ok (.getfield 7, 3) := by decide +kernel
theorem dX12_said_101 : decode cX12_said 101 = .ok (.bipush 7, 2) := by decide +kernel
theorem dX12_said_103 : decode cX12_said 103 = .ok (.iaload, 1) := by decide +kernel
theorem dX12_said_104 : decode cX12_said 104 = .ok (.ireturn, 1) := by decide +kernel
def Md_said_86 (ν : Nm) : Option (Int32 × Nm) :=
  some ((gi (si ν 314 7 ((gi ν 314 7) + (1 : Int32))) 314 7), (si ν 314 7 ((gi ν 314 7) + (1 : Int32))))
set_option maxRecDepth 100000 in
set_option maxHeartbeats 4000000 in
theorem t_Md_said_86 {g : GG} {d : Nat} (hd0 : 3 ≤ d) : ∀ (ν : Nm) (r : (Int32 × Nm)), Md_said_86 ν = some r → Z g d (0, 0) mX12_said 333 0 0 86 [(0, .ref 313)] [] (zem ν) (zF g (some (.int r.1), zem r.2)) := by
  intro ν r h
  unfold Md_said_86 at h
  refine z_aload_n dX12_said_86 0 rfl ?_
  refine y_getR (M := mX12_said) (r := 314) dX12_said_87 zk_313 flRX12_7 fr_10_0.1 (fr_10_0.2 _) ?_
  refine z_bipush (M := mX12_said) (v := 7) dX12_said_90 rfl ?_
  refine z_dup2 dX12_said_92 rfl rfl ?_
  refine y_iald (M := mX12_said) (jj := 7) dX12_said_93 zk_314 rfl rfl ?_
  refine z_iconst (M := mX12_said) (v := 1) dX12_said_94 rfl ?_
  refine z_iadd dX12_said_95 ?_
  refine y_iast (M := mX12_said) (jj := 7) dX12_said_96 zk_314 rfl rfl ?_
  refine z_aload_n dX12_said_97 0 rfl ?_
  refine y_getR (M := mX12_said) (r := 314) dX12_said_98 zk_313 flRX12_7 fr_10_0.1 (fr_10_0.2 _) ?_
  refine z_bipush (M := mX12_said) (v := 7) dX12_said_101 rfl ?_
  refine y_iald (M := mX12_said) (jj := 7) dX12_said_103 zk_314 rfl rfl ?_
  cases h
  exact z_iret dX12_said_104 rfl
def Md_said (x1 : Int32) (x2 : Int32) (ν : Nm) : Option (Int32 × Nm) :=
  (if ¬ x1 = (-1 : Int32) then
    (Md_isCord ν x1).bind fun v2 =>
    (if (b2i v2) = 0 then
      some ((-2 : Int32), ν)
    else
      (Md_isIn x2 (0 : Int32) (10 : Int32)).bind fun v4 =>
      (if (b2i v4) = 0 then
        some ((-2 : Int32), ν)
      else
        (if ¬ (gi ν 314 7) = (8 : Int32) then
          if inb ((49 : Int32) + ((2 : Int32) * (gi ν 314 7))) 1385 then
          if inb (((49 : Int32) + ((2 : Int32) * (gi (si ν 314 ((49 : Int32) + ((2 : Int32) * (gi ν 314 7))).toNatClampNeg x1) 314 7))) + (1 : Int32)) 1385 then
          Md_said_86 (si (si ν 314 ((49 : Int32) + ((2 : Int32) * (gi ν 314 7))).toNatClampNeg x1) 314 (((49 : Int32) + ((2 : Int32) * (gi (si ν 314 ((49 : Int32) + ((2 : Int32) * (gi ν 314 7))).toNatClampNeg x1) 314 7))) + (1 : Int32)).toNatClampNeg x2)
          else none
          else none
        else
          some ((-2 : Int32), ν))))
  else
    some ((0 : Int32), (si ν 314 7 (0 : Int32))))
set_option maxRecDepth 100000 in
set_option maxHeartbeats 4000000 in
theorem t_Md_said {g : GG} {d : Nat} (hd0 : 3 ≤ d) : ∀ (x1 : Int32) (x2 : Int32) (ν : Nm) (r : (Int32 × Nm)), Md_said x1 x2 ν = some r → Z g d (0, 0) mX12_said 333 0 0 0 [(0, .ref 313), (1, .int x1), (2, .int x2)] [] (zem ν) (zF g (some (.int r.1), zem r.2)) := by
  intro x1 x2 ν r h
  unfold Md_said at h
  refine z_iload_n dX12_said_0 1 rfl ?_
  refine z_iconst (M := mX12_said) (v := -1) dX12_said_1 rfl ?_
  refine z_icmp_ne 15 dX12_said_2 rfl (fun hc1 => ?_) (fun hc1 => ?_)
  · replace h := oT hc1 h
    refine z_aload_n dX12_said_15 0 rfl ?_
    refine z_iload_n dX12_said_16 1 rfl ?_
    obtain ⟨v2, he2, h⟩ := obind h
    refine y_Vi (M := mX12_said) (Y := mX12_isCord) (d2 := d - 1) (As := [.int x1]) (st := []) dX12_said_17 mlRX12_115 cv_X12_isCord zk_313 (ct_Md_isCord (dle (Nat.le_of_ble_eq_true rfl) hd0) he2) (dps (Nat.le_of_ble_eq_true rfl) hd0) rfl rfl (Nat.le_of_ble_eq_true rfl) ?_
    refine z_if_eq 45 dX12_said_20 rfl (fun hc3 => ?_) (fun hc3 => ?_)
    · replace h := oT hc3 h
      refine z_bipush (M := mX12_said) (v := -2) dX12_said_45 rfl ?_
      cases h
      exact z_iret dX12_said_47 rfl
    · replace h := oF hc3 h
      refine z_iload_n dX12_said_23 2 rfl ?_
      refine z_iconst (M := mX12_said) (v := 0) dX12_said_24 rfl ?_
      refine z_bipush (M := mX12_said) (v := 10) dX12_said_25 rfl ?_
      obtain ⟨v4, he4, h⟩ := obind h
      refine y_Si (M := mX12_said) (Y := mX12_isIn) (d2 := d - 1) (As := [.int x2, .int (0 : Int32), .int (10 : Int32)]) (st := []) dX12_said_27 mlRX12_88 cv_X12_isIn (ct_Md_isIn (dle (Nat.le_of_ble_eq_true rfl) hd0) he4) (dps (Nat.le_of_ble_eq_true rfl) hd0) rfl rfl (Nat.le_of_ble_eq_true rfl) ?_
      refine z_if_eq 45 dX12_said_30 rfl (fun hc5 => ?_) (fun hc5 => ?_)
      · replace h := oT hc5 h
        refine z_bipush (M := mX12_said) (v := -2) dX12_said_45 rfl ?_
        cases h
        exact z_iret dX12_said_47 rfl
      · replace h := oF hc5 h
        refine z_aload_n dX12_said_33 0 rfl ?_
        refine y_getR (M := mX12_said) (r := 314) dX12_said_34 zk_313 flRX12_7 fr_10_0.1 (fr_10_0.2 _) ?_
        refine z_bipush (M := mX12_said) (v := 7) dX12_said_37 rfl ?_
        refine y_iald (M := mX12_said) (jj := 7) dX12_said_39 zk_314 rfl rfl ?_
        refine z_bipush (M := mX12_said) (v := 8) dX12_said_40 rfl ?_
        refine z_icmp_ne 48 dX12_said_42 rfl (fun hc6 => ?_) (fun hc6 => ?_)
        · replace h := oT hc6 h
          refine z_aload_n dX12_said_48 0 rfl ?_
          refine y_getR (M := mX12_said) (r := 314) dX12_said_49 zk_313 flRX12_7 fr_10_0.1 (fr_10_0.2 _) ?_
          refine z_bipush (M := mX12_said) (v := 49) dX12_said_52 rfl ?_
          refine z_iconst (M := mX12_said) (v := 2) dX12_said_54 rfl ?_
          refine z_aload_n dX12_said_55 0 rfl ?_
          refine y_getR (M := mX12_said) (r := 314) dX12_said_56 zk_313 flRX12_7 fr_10_0.1 (fr_10_0.2 _) ?_
          refine z_bipush (M := mX12_said) (v := 7) dX12_said_59 rfl ?_
          refine y_iald (M := mX12_said) (jj := 7) dX12_said_61 zk_314 rfl rfl ?_
          refine z_imul dX12_said_62 ?_
          refine z_iadd dX12_said_63 ?_
          refine z_iload_n dX12_said_64 1 rfl ?_
          obtain ⟨hi7, h⟩ := oif h
          refine y_iast (M := mX12_said) (jj := ((49 : Int32) + ((2 : Int32) * (gi ν 314 7))).toNatClampNeg) dX12_said_65 zk_314 hi7 rfl ?_
          refine z_aload_n dX12_said_66 0 rfl ?_
          refine y_getR (M := mX12_said) (r := 314) dX12_said_67 zk_313 flRX12_7 fr_10_0.1 (fr_10_0.2 _) ?_
          refine z_bipush (M := mX12_said) (v := 49) dX12_said_70 rfl ?_
          refine z_iconst (M := mX12_said) (v := 2) dX12_said_72 rfl ?_
          refine z_aload_n dX12_said_73 0 rfl ?_
          refine y_getR (M := mX12_said) (r := 314) dX12_said_74 zk_313 flRX12_7 fr_10_0.1 (fr_10_0.2 _) ?_
          refine z_bipush (M := mX12_said) (v := 7) dX12_said_77 rfl ?_
          refine y_iald (M := mX12_said) (jj := 7) dX12_said_79 zk_314 rfl rfl ?_
          refine z_imul dX12_said_80 ?_
          refine z_iadd dX12_said_81 ?_
          refine z_iconst (M := mX12_said) (v := 1) dX12_said_82 rfl ?_
          refine z_iadd dX12_said_83 ?_
          refine z_iload_n dX12_said_84 2 rfl ?_
          obtain ⟨hi8, h⟩ := oif h
          refine y_iast (M := mX12_said) (jj := (((49 : Int32) + ((2 : Int32) * (gi (si ν 314 ((49 : Int32) + ((2 : Int32) * (gi ν 314 7))).toNatClampNeg x1) 314 7))) + (1 : Int32)).toNatClampNeg) dX12_said_85 zk_314 hi8 rfl ?_
          refine z_lv (lv2 := [(0, .ref 313)]) [0] rfl ?_
          exact t_Md_said_86 hd0  (si (si ν 314 ((49 : Int32) + ((2 : Int32) * (gi ν 314 7))).toNatClampNeg x1) 314 (((49 : Int32) + ((2 : Int32) * (gi (si ν 314 ((49 : Int32) + ((2 : Int32) * (gi ν 314 7))).toNatClampNeg x1) 314 7))) + (1 : Int32)).toNatClampNeg x2) _ h
        · replace h := oFn hc6 h
          refine z_bipush (M := mX12_said) (v := -2) dX12_said_45 rfl ?_
          cases h
          exact z_iret dX12_said_47 rfl
  · replace h := oFn hc1 h
    refine z_aload_n dX12_said_5 0 rfl ?_
    refine y_getR (M := mX12_said) (r := 314) dX12_said_6 zk_313 flRX12_7 fr_10_0.1 (fr_10_0.2 _) ?_
    refine z_bipush (M := mX12_said) (v := 7) dX12_said_9 rfl ?_
    refine z_iconst (M := mX12_said) (v := 0) dX12_said_11 rfl ?_
    refine y_iast (M := mX12_said) (jj := 7) dX12_said_12 zk_314 rfl rfl ?_
    refine z_iconst (M := mX12_said) (v := 0) dX12_said_13 rfl ?_
    cases h
    exact z_iret dX12_said_14 rfl
theorem ct_Md_said {g : GG} {d : Nat} {x1 : Int32} {x2 : Int32} {ν : Nm} {r : (Int32 × Nm)} (hd0 : 3 ≤ d)  (h : Md_said x1 x2 ν = some r) : Ct g d mX12_said [.ref 313, .int x1, .int x2] (zem ν) (some (.int r.1), zem r.2) := y_entry in_X12_said (Nat.le_of_ble_eq_true rfl) rfl (t_Md_said hd0 x1 x2 ν r h)
-- FuseMinutesModel.image()I
theorem dX12_image_0 : decode cX12_image 0 = .ok (.aload_n 0, 1) := by decide +kernel
theorem dX12_image_1 : decode cX12_image 1 = .ok (.getfield 7, 3) := by decide +kernel
theorem dX12_image_4 : decode cX12_image 4 = .ok (.aload_n 0, 1) := by decide +kernel
theorem dX12_image_5 : decode cX12_image 5 = .ok (.getfield 13, 3) := by decide +kernel
theorem dX12_image_8 : decode cX12_image 8 = .ok (.invokestatic 81, 3) := by decide +kernel
theorem dX12_image_11 : decode cX12_image 11 = .ok (.aload_n 0, 1) := by decide +kernel
theorem dX12_image_12 : decode cX12_image 12 = .ok (.getfield 7, 3) := by decide +kernel
theorem dX12_image_15 : decode cX12_image 15 = .ok (.bipush 8, 2) := by decide +kernel
theorem dX12_image_17 : decode cX12_image 17 = .ok (.iaload, 1) := by decide +kernel
theorem dX12_image_18 : decode cX12_image 18 = .ok (.ireturn, 1) := by decide +kernel
def Md_image (ν : Nm) : Option (Int32 × Nm) :=
  (Md_copy 314 315 ν).bind fun v1 =>
  some ((gi v1 314 8), v1)
set_option maxRecDepth 100000 in
set_option maxHeartbeats 4000000 in
theorem t_Md_image {g : GG} {d : Nat} (hd0 : 2 ≤ d) : ∀ (ν : Nm) (r : (Int32 × Nm)), Md_image ν = some r → Z g d (0, 0) mX12_image 333 0 0 0 [(0, .ref 313)] [] (zem ν) (zF g (some (.int r.1), zem r.2)) := by
  intro ν r h
  unfold Md_image at h
  refine z_aload_n dX12_image_0 0 rfl ?_
  refine y_getR (M := mX12_image) (r := 314) dX12_image_1 zk_313 flRX12_7 fr_10_0.1 (fr_10_0.2 _) ?_
  refine z_aload_n dX12_image_4 0 rfl ?_
  refine y_getR (M := mX12_image) (r := 315) dX12_image_5 zk_313 flRX12_13 fr_10_1.1 (fr_10_1.2 _) ?_
  obtain ⟨v1, he1, h⟩ := obind h
  refine y_Sv (M := mX12_image) (Y := mX12_copy) (d2 := d - 1) (As := [.ref 314, .ref 315]) (st := []) dX12_image_8 mlRX12_81 cv_X12_copy (ct_Md_copy (dle (Nat.le_of_ble_eq_true rfl) hd0) zk_314 zk_315 he1) (dps (Nat.le_of_ble_eq_true rfl) hd0) rfl rfl (Nat.le_of_ble_eq_true rfl) ?_
  refine z_aload_n dX12_image_11 0 rfl ?_
  refine y_getR (M := mX12_image) (r := 314) dX12_image_12 zk_313 flRX12_7 fr_10_0.1 (fr_10_0.2 _) ?_
  refine z_bipush (M := mX12_image) (v := 8) dX12_image_15 rfl ?_
  refine y_iald (M := mX12_image) (jj := 8) dX12_image_17 zk_314 rfl rfl ?_
  cases h
  exact z_iret dX12_image_18 rfl
theorem ct_Md_image {g : GG} {d : Nat} {ν : Nm} {r : (Int32 × Nm)} (hd0 : 2 ≤ d)  (h : Md_image ν = some r) : Ct g d mX12_image [.ref 313] (zem ν) (some (.int r.1), zem r.2) := y_entry in_X12_image (Nat.le_of_ble_eq_true rfl) rfl (t_Md_image hd0 ν r h)
-- FuseMinutesModel.back()I
theorem dX12_back_0 : decode cX12_back 0 = .ok (.aload_n 0, 1) := by decide +kernel
theorem dX12_back_1 : decode cX12_back 1 = .ok (.getfield 13, 3) := by decide +kernel
theorem dX12_back_4 : decode cX12_back 4 = .ok (.aload_n 0, 1) := by decide +kernel
theorem dX12_back_5 : decode cX12_back 5 = .ok (.getfield 7, 3) := by decide +kernel
theorem dX12_back_8 : decode cX12_back 8 = .ok (.invokestatic 81, 3) := by decide +kernel
theorem dX12_back_11 : decode cX12_back 11 = .ok (.aload_n 0, 1) := by decide +kernel
theorem dX12_back_12 : decode cX12_back 12 = .ok (.invokevirtual 85, 3) := by decide +kernel
theorem dX12_back_15 : decode cX12_back 15 = .ok (.aload_n 0, 1) := by decide +kernel
theorem dX12_back_16 : decode cX12_back 16 = .ok (.getfield 7, 3) := by decide +kernel
theorem dX12_back_19 : decode cX12_back 19 = .ok (.bipush 8, 2) := by decide +kernel
theorem dX12_back_21 : decode cX12_back 21 = .ok (.iaload, 1) := by decide +kernel
theorem dX12_back_22 : decode cX12_back 22 = .ok (.ireturn, 1) := by decide +kernel
def Md_back (ν : Nm) : Option (Int32 × Nm) :=
  (Md_copy 315 314 ν).bind fun v1 =>
  (Md_forget v1).bind fun v2 =>
  some ((gi v2 314 8), v2)
set_option maxRecDepth 100000 in
set_option maxHeartbeats 4000000 in
theorem t_Md_back {g : GG} {d : Nat} (hd0 : 2 ≤ d) : ∀ (ν : Nm) (r : (Int32 × Nm)), Md_back ν = some r → Z g d (0, 0) mX12_back 333 0 0 0 [(0, .ref 313)] [] (zem ν) (zF g (some (.int r.1), zem r.2)) := by
  intro ν r h
  unfold Md_back at h
  refine z_aload_n dX12_back_0 0 rfl ?_
  refine y_getR (M := mX12_back) (r := 315) dX12_back_1 zk_313 flRX12_13 fr_10_1.1 (fr_10_1.2 _) ?_
  refine z_aload_n dX12_back_4 0 rfl ?_
  refine y_getR (M := mX12_back) (r := 314) dX12_back_5 zk_313 flRX12_7 fr_10_0.1 (fr_10_0.2 _) ?_
  obtain ⟨v1, he1, h⟩ := obind h
  refine y_Sv (M := mX12_back) (Y := mX12_copy) (d2 := d - 1) (As := [.ref 315, .ref 314]) (st := []) dX12_back_8 mlRX12_81 cv_X12_copy (ct_Md_copy (dle (Nat.le_of_ble_eq_true rfl) hd0) zk_315 zk_314 he1) (dps (Nat.le_of_ble_eq_true rfl) hd0) rfl rfl (Nat.le_of_ble_eq_true rfl) ?_
  refine z_aload_n dX12_back_11 0 rfl ?_
  obtain ⟨v2, he2, h⟩ := obind h
  refine y_Vv (M := mX12_back) (Y := mX12_forget) (d2 := d - 1) (As := []) (st := []) dX12_back_12 mlRX12_85 cv_X12_forget zk_313 (ct_Md_forget (dle (Nat.le_of_ble_eq_true rfl) hd0) he2) (dps (Nat.le_of_ble_eq_true rfl) hd0) rfl rfl (Nat.le_of_ble_eq_true rfl) ?_
  refine z_aload_n dX12_back_15 0 rfl ?_
  refine y_getR (M := mX12_back) (r := 314) dX12_back_16 zk_313 flRX12_7 fr_10_0.1 (fr_10_0.2 _) ?_
  refine z_bipush (M := mX12_back) (v := 8) dX12_back_19 rfl ?_
  refine y_iald (M := mX12_back) (jj := 8) dX12_back_21 zk_314 rfl rfl ?_
  cases h
  exact z_iret dX12_back_22 rfl
theorem ct_Md_back {g : GG} {d : Nat} {ν : Nm} {r : (Int32 × Nm)} (hd0 : 2 ≤ d)  (h : Md_back ν = some r) : Ct g d mX12_back [.ref 313] (zem ν) (some (.int r.1), zem r.2) := y_entry in_X12_back (Nat.le_of_ble_eq_true rfl) rfl (t_Md_back hd0 ν r h)
-- FuseMinutesModel.about(I)I
theorem dX12_about_0 : decode cX12_about 0 = .ok (.iload_n 1, 1) := by decide +kernel
theorem dX12_about_1 : decode cX12_about 1 = .ok (.iconst 0, 1) := by decide +kernel
theorem dX12_about_2 : decode cX12_about 2 = .ok (.bipush 7, 2) := by decide +kernel
theorem dX12_about_4 : decode cX12_about 4 = .ok (.invokestatic 88, 3) := by decide +kernel
theorem dX12_about_7 : decode cX12_about 7 = .ok (.ifCond .eq 12, 3) := by decide +kernel
theorem dX12_about_10 : decode cX12_about 10 = .ok (.aload_n 0, 1) := by decide +kernel
theorem dX12_about_11 : decode cX12_about 11 = .ok (.getfield 7, 3) := by decide +kernel
theorem dX12_about_14 : decode cX12_about 14 = .ok (.iload_n 1, 1) := by decide +kernel
theorem dX12_about_15 : decode cX12_about 15 = .ok (.iaload, 1) := by decide +kernel
theorem dX12_about_16 : decode cX12_about 16 = .ok (.goto 18, 3) := by decide +kernel
theorem dX12_about_19 : decode cX12_about 19 = .ok (.iload_n 1, 1) := by decide +kernel
theorem dX12_about_20 : decode cX12_about 20 = .ok (.bipush 8, 2) := by decide +kernel
theorem dX12_about_22 : decode cX12_about 22 = .ok (.if_icmp .ne 10, 3) := by decide +kernel
theorem dX12_about_25 : decode cX12_about 25 = .ok (.aload_n 0, 1) := by decide +kernel
theorem dX12_about_26 : decode cX12_about 26 = .ok (.getfield 119, 3) := by decide +kernel
theorem dX12_about_29 : decode cX12_about 29 = .ok (.goto 5, 3) := by decide +kernel
theorem dX12_about_32 : decode cX12_about 32 = .ok (.bipush (-2), 2) := by decide +kernel
theorem dX12_about_34 : decode cX12_about 34 = .ok (.ireturn, 1) := by decide +kernel
def Md_about (ν : Nm) (x1 : Int32) : Option Int32 :=
  (Md_isIn x1 (0 : Int32) (7 : Int32)).bind fun v1 =>
  (if (b2i v1) = 0 then
    (if ¬ x1 = (8 : Int32) then
      some (-2 : Int32)
    else
      some (gi ν 313 4))
  else
    if inb x1 1385 then
    some (gi ν 314 x1.toNatClampNeg)
    else none)
set_option maxRecDepth 100000 in
set_option maxHeartbeats 4000000 in
theorem t_Md_about {g : GG} {d : Nat} {ν : Nm} (hd0 : 2 ≤ d) : ∀ (x1 : Int32) (r : Int32), Md_about ν x1 = some r → Z g d (0, 0) mX12_about 333 0 0 0 [(0, .ref 313), (1, .int x1)] [] (zem ν) (zF g (some (.int r), zem ν)) := by
  intro x1 r h
  unfold Md_about at h
  refine z_iload_n dX12_about_0 1 rfl ?_
  refine z_iconst (M := mX12_about) (v := 0) dX12_about_1 rfl ?_
  refine z_bipush (M := mX12_about) (v := 7) dX12_about_2 rfl ?_
  obtain ⟨v1, he1, h⟩ := obind h
  refine y_Si (M := mX12_about) (Y := mX12_isIn) (d2 := d - 1) (As := [.int x1, .int (0 : Int32), .int (7 : Int32)]) (st := []) dX12_about_4 mlRX12_88 cv_X12_isIn (ct_Md_isIn (dle (Nat.le_of_ble_eq_true rfl) hd0) he1) (dps (Nat.le_of_ble_eq_true rfl) hd0) rfl rfl (Nat.le_of_ble_eq_true rfl) ?_
  refine z_if_eq 19 dX12_about_7 rfl (fun hc2 => ?_) (fun hc2 => ?_)
  · replace h := oT hc2 h
    refine z_iload_n dX12_about_19 1 rfl ?_
    refine z_bipush (M := mX12_about) (v := 8) dX12_about_20 rfl ?_
    refine z_icmp_ne 32 dX12_about_22 rfl (fun hc3 => ?_) (fun hc3 => ?_)
    · replace h := oT hc3 h
      refine z_bipush (M := mX12_about) (v := -2) dX12_about_32 rfl ?_
      cases h
      exact z_iret dX12_about_34 rfl
    · replace h := oFn hc3 h
      refine z_aload_n dX12_about_25 0 rfl ?_
      refine y_getI dX12_about_26 zk_313 flRX12_119 ?_
      refine z_goto 34 dX12_about_29 rfl ?_
      cases h
      exact z_iret dX12_about_34 rfl
  · replace h := oF hc2 h
    refine z_aload_n dX12_about_10 0 rfl ?_
    refine y_getR (M := mX12_about) (r := 314) dX12_about_11 zk_313 flRX12_7 fr_10_0.1 (fr_10_0.2 _) ?_
    refine z_iload_n dX12_about_14 1 rfl ?_
    obtain ⟨hi4, h⟩ := oif h
    refine y_iald (M := mX12_about) (jj := x1.toNatClampNeg) dX12_about_15 zk_314 hi4 rfl ?_
    refine z_goto 34 dX12_about_16 rfl ?_
    cases h
    exact z_iret dX12_about_34 rfl
theorem ct_Md_about {g : GG} {d : Nat} {x1 : Int32} {ν : Nm} {r : Int32} (hd0 : 2 ≤ d)  (h : Md_about ν x1 = some r) : Ct g d mX12_about [.ref 313, .int x1] (zem ν) (some (.int r), zem ν) := y_entry in_X12_about (Nat.le_of_ble_eq_true rfl) rfl (t_Md_about hd0 x1 r h)

-- FuseMinutes$Reader.append(I)V
theorem dX3_append_0 : decode cX3_append 0 = .ok (.bipush 24, 2) := by decide +kernel
theorem dX3_append_2 : decode cX3_append 2 = .ok (.istore_n 2, 1) := by decide +kernel
theorem dX3_append_3 : decode cX3_append 3 = .ok (.iload_n 2, 1) := by decide +kernel
theorem dX3_append_4 : decode cX3_append 4 = .ok (.ifCond .lt 45, 3) := by decide +kernel
theorem dX3_append_7 : decode cX3_append 7 = .ok (.aload_n 0, 1) := by decide +kernel
theorem dX3_append_8 : decode cX3_append 8 = .ok (.getfield 22, 3) := by decide +kernel
theorem dX3_append_11 : decode cX3_append 11 = .ok (.sipush 300, 3) := by decide +kernel
theorem dX3_append_14 : decode cX3_append 14 = .ok (.if_icmp .ge 35, 3) := by decide +kernel
theorem dX3_append_17 : decode cX3_append 17 = .ok (.aload_n 0, 1) := by decide +kernel
theorem dX3_append_18 : decode cX3_append 18 = .ok (.getfield 9, 3) := by decide +kernel
theorem dX3_append_21 : decode cX3_append 21 = .ok (.aload_n 0, 1) := by decide +kernel
theorem dX3_append_22 : decode cX3_append 22 = .ok (.getfield 22, 3) := by decide +kernel
theorem dX3_append_25 : decode cX3_append 25 = .ok (.iload_n 1, 1) := by decide +kernel
theorem dX3_append_26 : decode cX3_append 26 = .ok (.iload_n 2, 1) := by decide +kernel
theorem dX3_append_27 : decode cX3_append 27 = .ok (.ishr, 1) := by decide +kernel
theorem dX3_append_28 : decode cX3_append 28 = .ok (.sipush 255, 3) := by decide +kernel
theorem dX3_append_31 : decode cX3_append 31 = .ok (.iand, 1) := by decide +kernel
theorem dX3_append_32 : decode cX3_append 32 = .ok (.iastore, 1) := by decide +kernel
theorem dX3_append_33 : decode cX3_append 33 = .ok (.aload_n 0, 1) := by decide +kernel
theorem dX3_append_34 : decode cX3_append 34 = .ok (.dup, 1) := by decide +kernel
theorem dX3_append_35 : decode cX3_append 35 = .ok (.getfield 22, 3) := by decide +kernel
theorem dX3_append_38 : decode cX3_append 38 = .ok (.iconst 1, 1) := by decide +kernel
theorem dX3_append_39 : decode cX3_append 39 = .ok (.iadd, 1) := by decide +kernel
theorem dX3_append_40 : decode cX3_append 40 = .ok (.putfield 22, 3) := by decide +kernel
theorem dX3_append_43 : decode cX3_append 43 = .ok (.iinc 2 (-8), 3) := by decide +kernel
theorem dX3_append_46 : decode cX3_append 46 = .ok (.goto (-43), 3) := by decide +kernel
theorem dX3_append_49 : decode cX3_append 49 = .ok (.return_, 1) := by decide +kernel
def Rd_append_43 (k3 : Int32 → Int32 → Nm → Option Nm) (x1 : Int32) (x2 : Int32) (ν : Nm) : Option Nm :=
  k3 x1 (x2 + (-8 : Int32)) ν
set_option maxRecDepth 100000 in
set_option maxHeartbeats 4000000 in
theorem t_Rd_append_43 {g : GG} {d : Nat} (hd0 : 1 ≤ d) {k3 : Int32 → Int32 → Nm → Option Nm} (hk3 : ∀ (x1 : Int32) (x2 : Int32) (ν : Nm) (r : Nm), k3 x1 x2 ν = some r → Z g d (0, 0) mX3_append 333 0 0 3 [(0, .ref 271), (1, .int x1), (2, .int x2)] [] (zem ν) (zF g (none, zem r))) : ∀ (x1 : Int32) (x2 : Int32) (ν : Nm) (r : Nm), Rd_append_43 k3 x1 x2 ν = some r → Z g d (0, 0) mX3_append 333 0 0 43 [(0, .ref 271), (1, .int x1), (2, .int x2)] [] (zem ν) (zF g (none, zem r)) := by
  intro x1 x2 ν r h
  unfold Rd_append_43 at h
  refine z_iinc (M := mX3_append) (v := (x2 + (-8 : Int32))) (lv2 := [(2, .int (x2 + (-8 : Int32))), (0, .ref 271), (1, .int x1)]) dX3_append_43 2 rfl rfl (Nat.le_of_ble_eq_true rfl) rfl ?_
  refine z_goto 3 dX3_append_46 rfl ?_
  refine z_lv (lv2 := [(0, .ref 271), (1, .int x1), (2, .int (x2 + (-8 : Int32)))]) [1, 2, 0] rfl ?_
  exact hk3 x1 (x2 + (-8 : Int32)) ν _ h
def Rd_append_3 : Nat → Int32 → Int32 → Nm → Option Nm
  | 0, _, _, _ => none
  | f + 1, x1, x2, ν =>
    (if x2 < 0 then
      some ν
    else
      (if (300 : Int32) ≤ (gi ν 271 1) then
        some ν
      else
        if inb (gi ν 271 1) 300 then
        Rd_append_43 (Rd_append_3 f) x1 x2 (si (si ν 272 (gi ν 271 1).toNatClampNeg ((x1 >>> (x2 &&& 31)) &&& (255 : Int32))) 271 1 ((gi (si ν 272 (gi ν 271 1).toNatClampNeg ((x1 >>> (x2 &&& 31)) &&& (255 : Int32))) 271 1) + (1 : Int32)))
        else none))
set_option maxRecDepth 100000 in
set_option maxHeartbeats 4000000 in
theorem t_Rd_append_3 {g : GG} {d : Nat} (hd0 : 1 ≤ d) : ∀ (f : Nat), ∀ (x1 : Int32) (x2 : Int32) (ν : Nm) (r : Nm), Rd_append_3 f x1 x2 ν = some r → Z g d (0, 0) mX3_append 333 0 0 3 [(0, .ref 271), (1, .int x1), (2, .int x2)] [] (zem ν) (zF g (none, zem r)) := by
  intro f
  induction f with
  | zero =>
    intro x1 x2 ν r h
    cases h
  | succ f ih =>
    intro x1 x2 ν r h
    rw [Rd_append_3] at h
    refine z_iload_n dX3_append_3 2 rfl ?_
    refine z_if_lt 49 dX3_append_4 rfl (fun hc1 => ?_) (fun hc1 => ?_)
    · replace h := oT hc1 h
      cases h
      exact z_vret dX3_append_49 rfl
    · replace h := oF hc1 h
      refine z_aload_n dX3_append_7 0 rfl ?_
      refine y_getI dX3_append_8 zk_271 flRX3_22 ?_
      refine z_sipush (M := mX3_append) (v := 300) dX3_append_11 rfl ?_
      refine z_icmp_ge 49 dX3_append_14 rfl (fun hc2 => ?_) (fun hc2 => ?_)
      · replace h := oT hc2 h
        cases h
        exact z_vret dX3_append_49 rfl
      · replace h := oF hc2 h
        refine z_aload_n dX3_append_17 0 rfl ?_
        refine y_getR (M := mX3_append) (r := 272) dX3_append_18 zk_271 flRX3_9 fr_2_0.1 (fr_2_0.2 _) ?_
        refine z_aload_n dX3_append_21 0 rfl ?_
        refine y_getI dX3_append_22 zk_271 flRX3_22 ?_
        refine z_iload_n dX3_append_25 1 rfl ?_
        refine z_iload_n dX3_append_26 2 rfl ?_
        refine z_ishr dX3_append_27 ?_
        refine z_sipush (M := mX3_append) (v := 255) dX3_append_28 rfl ?_
        refine z_iand dX3_append_31 ?_
        obtain ⟨hi3, h⟩ := oif h
        refine y_iast (M := mX3_append) (jj := (gi ν 271 1).toNatClampNeg) dX3_append_32 zk_272 hi3 rfl ?_
        refine z_aload_n dX3_append_33 0 rfl ?_
        refine z_dup dX3_append_34 rfl ?_
        refine y_getI dX3_append_35 zk_271 flRX3_22 ?_
        refine z_iconst (M := mX3_append) (v := 1) dX3_append_38 rfl ?_
        refine z_iadd dX3_append_39 ?_
        refine y_putI dX3_append_40 zk_271 flRX3_22 ⟨rfl, rfl⟩ ?_
        exact t_Rd_append_43 hd0 ih x1 x2 (si (si ν 272 (gi ν 271 1).toNatClampNeg ((x1 >>> (x2 &&& 31)) &&& (255 : Int32))) 271 1 ((gi (si ν 272 (gi ν 271 1).toNatClampNeg ((x1 >>> (x2 &&& 31)) &&& (255 : Int32))) 271 1) + (1 : Int32))) _ h
def Rd_append (x1 : Int32) (ν : Nm) : Option Nm :=
  Rd_append_3 FU x1 (24 : Int32) ν
set_option maxRecDepth 100000 in
set_option maxHeartbeats 4000000 in
theorem t_Rd_append {g : GG} {d : Nat} (hd0 : 1 ≤ d) : ∀ (x1 : Int32) (ν : Nm) (r : Nm), Rd_append x1 ν = some r → Z g d (0, 0) mX3_append 333 0 0 0 [(0, .ref 271), (1, .int x1)] [] (zem ν) (zF g (none, zem r)) := by
  intro x1 ν r h
  unfold Rd_append at h
  refine z_bipush (M := mX3_append) (v := 24) dX3_append_0 rfl ?_
  refine z_istore_n (M := mX3_append) (lv2 := [(2, .int (24 : Int32)), (0, .ref 271), (1, .int x1)]) dX3_append_2 (Nat.le_of_ble_eq_true rfl) rfl ?_
  refine z_lv (lv2 := [(0, .ref 271), (1, .int x1), (2, .int (24 : Int32))]) [1, 2, 0] rfl ?_
  exact t_Rd_append_3 hd0 FU x1 (24 : Int32) ν _ h
theorem ct_Rd_append {g : GG} {d : Nat} {x1 : Int32} {ν : Nm} {r : Nm} (hd0 : 1 ≤ d)  (h : Rd_append x1 ν = some r) : Ct g d mX3_append [.ref 271, .int x1] (zem ν) (none, zem r) := y_entry in_X3_append (Nat.le_of_ble_eq_true rfl) rfl (t_Rd_append hd0 x1 ν r h)
-- FuseMinutes$Reader.byteAt(I)I
theorem dX3_byteAt_0 : decode cX3_byteAt 0 = .ok (.iload_n 1, 1) := by decide +kernel
theorem dX3_byteAt_1 : decode cX3_byteAt 1 = .ok (.ifCond .lt 27, 3) := by decide +kernel
theorem dX3_byteAt_4 : decode cX3_byteAt 4 = .ok (.iload_n 1, 1) := by decide +kernel
theorem dX3_byteAt_5 : decode cX3_byteAt 5 = .ok (.aload_n 0, 1) := by decide +kernel
theorem dX3_byteAt_6 : decode cX3_byteAt 6 = .ok (.getfield 22, 3) := by decide +kernel
theorem dX3_byteAt_9 : decode cX3_byteAt 9 = .ok (.if_icmp .ge 19, 3) := by decide +kernel
theorem dX3_byteAt_12 : decode cX3_byteAt 12 = .ok (.iload_n 1, 1) := by decide +kernel
theorem dX3_byteAt_13 : decode cX3_byteAt 13 = .ok (.sipush 300, 3) := by decide +kernel
theorem dX3_byteAt_16 : decode cX3_byteAt 16 = .ok (.if_icmp .ge 12, 3) := by decide +kernel
theorem dX3_byteAt_19 : decode cX3_byteAt 19 = .ok (.aload_n 0, 1) := by decide +kernel
theorem dX3_byteAt_20 : decode cX3_byteAt 20 = .ok (.getfield 9, 3) := by decide +kernel
theorem dX3_byteAt_23 : decode cX3_byteAt 23 = .ok (.iload_n 1, 1) := by decide +kernel
theorem dX3_byteAt_24 : decode cX3_byteAt 24 = .ok (.iaload, 1) := by decide +kernel
theorem dX3_byteAt_25 : decode cX3_byteAt 25 = .ok (.goto 4, 3) := by decide +kernel
theorem dX3_byteAt_28 : decode cX3_byteAt 28 = .ok (.iconst (-1), 1) := by decide +kernel
theorem dX3_byteAt_29 : decode cX3_byteAt 29 = .ok (.ireturn, 1) := by decide +kernel
def Rd_byteAt (ν : Nm) (x1 : Int32) : Option Int32 :=
  (if x1 < 0 then
    some (-1 : Int32)
  else
    (if (gi ν 271 1) ≤ x1 then
      some (-1 : Int32)
    else
      (if (300 : Int32) ≤ x1 then
        some (-1 : Int32)
      else
        if inb x1 300 then
        some (gi ν 272 x1.toNatClampNeg)
        else none)))
set_option maxRecDepth 100000 in
set_option maxHeartbeats 4000000 in
theorem t_Rd_byteAt {g : GG} {d : Nat} {ν : Nm} (hd0 : 1 ≤ d) : ∀ (x1 : Int32) (r : Int32), Rd_byteAt ν x1 = some r → Z g d (0, 0) mX3_byteAt 333 0 0 0 [(0, .ref 271), (1, .int x1)] [] (zem ν) (zF g (some (.int r), zem ν)) := by
  intro x1 r h
  unfold Rd_byteAt at h
  refine z_iload_n dX3_byteAt_0 1 rfl ?_
  refine z_if_lt 28 dX3_byteAt_1 rfl (fun hc1 => ?_) (fun hc1 => ?_)
  · replace h := oT hc1 h
    refine z_iconst (M := mX3_byteAt) (v := -1) dX3_byteAt_28 rfl ?_
    cases h
    exact z_iret dX3_byteAt_29 rfl
  · replace h := oF hc1 h
    refine z_iload_n dX3_byteAt_4 1 rfl ?_
    refine z_aload_n dX3_byteAt_5 0 rfl ?_
    refine y_getI dX3_byteAt_6 zk_271 flRX3_22 ?_
    refine z_icmp_ge 28 dX3_byteAt_9 rfl (fun hc2 => ?_) (fun hc2 => ?_)
    · replace h := oT hc2 h
      refine z_iconst (M := mX3_byteAt) (v := -1) dX3_byteAt_28 rfl ?_
      cases h
      exact z_iret dX3_byteAt_29 rfl
    · replace h := oF hc2 h
      refine z_iload_n dX3_byteAt_12 1 rfl ?_
      refine z_sipush (M := mX3_byteAt) (v := 300) dX3_byteAt_13 rfl ?_
      refine z_icmp_ge 28 dX3_byteAt_16 rfl (fun hc3 => ?_) (fun hc3 => ?_)
      · replace h := oT hc3 h
        refine z_iconst (M := mX3_byteAt) (v := -1) dX3_byteAt_28 rfl ?_
        cases h
        exact z_iret dX3_byteAt_29 rfl
      · replace h := oF hc3 h
        refine z_aload_n dX3_byteAt_19 0 rfl ?_
        refine y_getR (M := mX3_byteAt) (r := 272) dX3_byteAt_20 zk_271 flRX3_9 fr_2_0.1 (fr_2_0.2 _) ?_
        refine z_iload_n dX3_byteAt_23 1 rfl ?_
        obtain ⟨hi4, h⟩ := oif h
        refine y_iald (M := mX3_byteAt) (jj := x1.toNatClampNeg) dX3_byteAt_24 zk_272 hi4 rfl ?_
        refine z_goto 29 dX3_byteAt_25 rfl ?_
        cases h
        exact z_iret dX3_byteAt_29 rfl
theorem ct_Rd_byteAt {g : GG} {d : Nat} {x1 : Int32} {ν : Nm} {r : Int32} (hd0 : 1 ≤ d)  (h : Rd_byteAt ν x1 = some r) : Ct g d mX3_byteAt [.ref 271, .int x1] (zem ν) (some (.int r), zem ν) := y_entry in_X3_byteAt (Nat.le_of_ble_eq_true rfl) rfl (t_Rd_byteAt hd0 x1 r h)
-- FuseMinutes$Reader.isDigit(I)Z
theorem dX3_isDigit_0 : decode cX3_isDigit 0 = .ok (.iload_n 0, 1) := by decide +kernel
theorem dX3_isDigit_1 : decode cX3_isDigit 1 = .ok (.bipush 48, 2) := by decide +kernel
theorem dX3_isDigit_3 : decode cX3_isDigit 3 = .ok (.if_icmp .lt 13, 3) := by decide +kernel
theorem dX3_isDigit_6 : decode cX3_isDigit 6 = .ok (.iload_n 0, 1) := by decide +kernel
theorem dX3_isDigit_7 : decode cX3_isDigit 7 = .ok (.bipush 57, 2) := by decide +kernel
theorem dX3_isDigit_9 : decode cX3_isDigit 9 = .ok (.if_icmp .gt 7, 3) := by decide +kernel
theorem dX3_isDigit_12 : decode cX3_isDigit 12 = .ok (.iconst 1, 1) := by decide +kernel
theorem dX3_isDigit_13 : decode cX3_isDigit 13 = .ok (.goto 4, 3) := by decide +kernel
theorem dX3_isDigit_16 : decode cX3_isDigit 16 = .ok (.iconst 0, 1) := by decide +kernel
theorem dX3_isDigit_17 : decode cX3_isDigit 17 = .ok (.ireturn, 1) := by decide +kernel
def Rd_isDigit (x0 : Int32) : Option Bool :=
  (if x0 < (48 : Int32) then
    some false
  else
    (if (57 : Int32) < x0 then
      some false
    else
      some true))
set_option maxRecDepth 100000 in
set_option maxHeartbeats 4000000 in
theorem t_Rd_isDigit {g : GG} {d : Nat} {μ : Mm} (hd0 : 1 ≤ d) : ∀ (x0 : Int32) (r : Bool), Rd_isDigit x0 = some r → Z g d (0, 0) mX3_isDigit 333 0 0 0 [(0, .int x0)] [] μ (zF g (some (.int (b2i r)), μ)) := by
  intro x0 r h
  unfold Rd_isDigit at h
  refine z_iload_n dX3_isDigit_0 0 rfl ?_
  refine z_bipush (M := mX3_isDigit) (v := 48) dX3_isDigit_1 rfl ?_
  refine z_icmp_lt 16 dX3_isDigit_3 rfl (fun hc1 => ?_) (fun hc1 => ?_)
  · replace h := oT hc1 h
    refine z_iconst (M := mX3_isDigit) (v := 0) dX3_isDigit_16 rfl ?_
    cases h
    exact z_zret dX3_isDigit_17 rfl rfl
  · replace h := oF hc1 h
    refine z_iload_n dX3_isDigit_6 0 rfl ?_
    refine z_bipush (M := mX3_isDigit) (v := 57) dX3_isDigit_7 rfl ?_
    refine z_icmp_gt 16 dX3_isDigit_9 rfl (fun hc2 => ?_) (fun hc2 => ?_)
    · replace h := oT hc2 h
      refine z_iconst (M := mX3_isDigit) (v := 0) dX3_isDigit_16 rfl ?_
      cases h
      exact z_zret dX3_isDigit_17 rfl rfl
    · replace h := oF hc2 h
      refine z_iconst (M := mX3_isDigit) (v := 1) dX3_isDigit_12 rfl ?_
      refine z_goto 17 dX3_isDigit_13 rfl ?_
      cases h
      exact z_zret dX3_isDigit_17 rfl rfl
theorem ct_Rd_isDigit {g : GG} {d : Nat} {x0 : Int32} {μ : Mm} {r : Bool} (hd0 : 1 ≤ d)  (h : Rd_isDigit x0 = some r) : Ct g d mX3_isDigit [.int x0] μ (some (.int (b2i r)), μ) := y_entry in_X3_isDigit (Nat.le_of_ble_eq_true rfl) rfl (t_Rd_isDigit hd0 x0 r h)
-- FuseMinutes$Reader.isLetter(I)Z
theorem dX3_isLetter_0 : decode cX3_isLetter 0 = .ok (.iload_n 0, 1) := by decide +kernel
theorem dX3_isLetter_1 : decode cX3_isLetter 1 = .ok (.bipush 97, 2) := by decide +kernel
theorem dX3_isLetter_3 : decode cX3_isLetter 3 = .ok (.if_icmp .lt 9, 3) := by decide +kernel
theorem dX3_isLetter_6 : decode cX3_isLetter 6 = .ok (.iload_n 0, 1) := by decide +kernel
theorem dX3_isLetter_7 : decode cX3_isLetter 7 = .ok (.bipush 122, 2) := by decide +kernel
theorem dX3_isLetter_9 : decode cX3_isLetter 9 = .ok (.if_icmp .le 15, 3) := by decide +kernel
theorem dX3_isLetter_12 : decode cX3_isLetter 12 = .ok (.iload_n 0, 1) := by decide +kernel
theorem dX3_isLetter_13 : decode cX3_isLetter 13 = .ok (.bipush 65, 2) := by decide +kernel
theorem dX3_isLetter_15 : decode cX3_isLetter 15 = .ok (.if_icmp .lt 13, 3) := by decide +kernel
theorem dX3_isLetter_18 : decode cX3_isLetter 18 = .ok (.iload_n 0, 1) := by decide +kernel
theorem dX3_isLetter_19 : decode cX3_isLetter 19 = .ok (.bipush 90, 2) := by decide +kernel
theorem dX3_isLetter_21 : decode cX3_isLetter 21 = .ok (.if_icmp .gt 7, 3) := by decide +kernel
theorem dX3_isLetter_24 : decode cX3_isLetter 24 = .ok (.iconst 1, 1) := by decide +kernel
theorem dX3_isLetter_25 : decode cX3_isLetter 25 = .ok (.goto 4, 3) := by decide +kernel
theorem dX3_isLetter_28 : decode cX3_isLetter 28 = .ok (.iconst 0, 1) := by decide +kernel
theorem dX3_isLetter_29 : decode cX3_isLetter 29 = .ok (.ireturn, 1) := by decide +kernel
def Rd_isLetter_12 (x0 : Int32) : Option Bool :=
  (if x0 < (65 : Int32) then
    some false
  else
    (if (90 : Int32) < x0 then
      some false
    else
      some true))
set_option maxRecDepth 100000 in
set_option maxHeartbeats 4000000 in
theorem t_Rd_isLetter_12 {g : GG} {d : Nat} {μ : Mm} (hd0 : 1 ≤ d) : ∀ (x0 : Int32) (r : Bool), Rd_isLetter_12 x0 = some r → Z g d (0, 0) mX3_isLetter 333 0 0 12 [(0, .int x0)] [] μ (zF g (some (.int (b2i r)), μ)) := by
  intro x0 r h
  unfold Rd_isLetter_12 at h
  refine z_iload_n dX3_isLetter_12 0 rfl ?_
  refine z_bipush (M := mX3_isLetter) (v := 65) dX3_isLetter_13 rfl ?_
  refine z_icmp_lt 28 dX3_isLetter_15 rfl (fun hc1 => ?_) (fun hc1 => ?_)
  · replace h := oT hc1 h
    refine z_iconst (M := mX3_isLetter) (v := 0) dX3_isLetter_28 rfl ?_
    cases h
    exact z_zret dX3_isLetter_29 rfl rfl
  · replace h := oF hc1 h
    refine z_iload_n dX3_isLetter_18 0 rfl ?_
    refine z_bipush (M := mX3_isLetter) (v := 90) dX3_isLetter_19 rfl ?_
    refine z_icmp_gt 28 dX3_isLetter_21 rfl (fun hc2 => ?_) (fun hc2 => ?_)
    · replace h := oT hc2 h
      refine z_iconst (M := mX3_isLetter) (v := 0) dX3_isLetter_28 rfl ?_
      cases h
      exact z_zret dX3_isLetter_29 rfl rfl
    · replace h := oF hc2 h
      refine z_iconst (M := mX3_isLetter) (v := 1) dX3_isLetter_24 rfl ?_
      refine z_goto 29 dX3_isLetter_25 rfl ?_
      cases h
      exact z_zret dX3_isLetter_29 rfl rfl
def Rd_isLetter (x0 : Int32) : Option Bool :=
  (if x0 < (97 : Int32) then
    Rd_isLetter_12 x0
  else
    (if x0 ≤ (122 : Int32) then
      some true
    else
      Rd_isLetter_12 x0))
set_option maxRecDepth 100000 in
set_option maxHeartbeats 4000000 in
theorem t_Rd_isLetter {g : GG} {d : Nat} {μ : Mm} (hd0 : 1 ≤ d) : ∀ (x0 : Int32) (r : Bool), Rd_isLetter x0 = some r → Z g d (0, 0) mX3_isLetter 333 0 0 0 [(0, .int x0)] [] μ (zF g (some (.int (b2i r)), μ)) := by
  intro x0 r h
  unfold Rd_isLetter at h
  refine z_iload_n dX3_isLetter_0 0 rfl ?_
  refine z_bipush (M := mX3_isLetter) (v := 97) dX3_isLetter_1 rfl ?_
  refine z_icmp_lt 12 dX3_isLetter_3 rfl (fun hc1 => ?_) (fun hc1 => ?_)
  · replace h := oT hc1 h
    exact t_Rd_isLetter_12 hd0  x0 _ h
  · replace h := oF hc1 h
    refine z_iload_n dX3_isLetter_6 0 rfl ?_
    refine z_bipush (M := mX3_isLetter) (v := 122) dX3_isLetter_7 rfl ?_
    refine z_icmp_le 24 dX3_isLetter_9 rfl (fun hc2 => ?_) (fun hc2 => ?_)
    · replace h := oT hc2 h
      refine z_iconst (M := mX3_isLetter) (v := 1) dX3_isLetter_24 rfl ?_
      refine z_goto 29 dX3_isLetter_25 rfl ?_
      cases h
      exact z_zret dX3_isLetter_29 rfl rfl
    · replace h := oF hc2 h
      exact t_Rd_isLetter_12 hd0  x0 _ h
theorem ct_Rd_isLetter {g : GG} {d : Nat} {x0 : Int32} {μ : Mm} {r : Bool} (hd0 : 1 ≤ d)  (h : Rd_isLetter x0 = some r) : Ct g d mX3_isLetter [.int x0] μ (some (.int (b2i r)), μ) := y_entry in_X3_isLetter (Nat.le_of_ble_eq_true rfl) rfl (t_Rd_isLetter hd0 x0 r h)
-- FuseMinutes$Reader.nextNumber()I
theorem dX3_nextNumber_0 : decode cX3_nextNumber 0 = .ok (.aload_n 0, 1) := by decide +kernel
theorem dX3_nextNumber_1 : decode cX3_nextNumber 1 = .ok (.iconst 0, 1) := by decide +kernel
theorem dX3_nextNumber_2 : decode cX3_nextNumber 2 = .ok (.putfield 84, 3) := by decide +kernel
theorem dX3_nextNumber_5 : decode cX3_nextNumber 5 = .ok (.iconst 0, 1) := by decide +kernel
theorem dX3_nextNumber_6 : decode cX3_nextNumber 6 = .ok (.istore_n 1, 1) := by decide +kernel
theorem dX3_nextNumber_7 : decode cX3_nextNumber 7 = .ok (.iload_n 1, 1) := by decide +kernel
theorem dX3_nextNumber_8 : decode cX3_nextNumber 8 = .ok (.sipush 300, 3) := by decide +kernel
theorem dX3_nextNumber_11 : decode cX3_nextNumber 11 = .ok (.if_icmp .ge 62, 3) := by decide +kernel
theorem dX3_nextNumber_14 : decode cX3_nextNumber 14 = .ok (.aload_n 0, 1) := by decide +kernel
theorem dX3_nextNumber_15 : decode cX3_nextNumber 15 = .ok (.aload_n 0, 1) := by decide +kernel
theorem dX3_nextNumber_16 : decode cX3_nextNumber 16 = .ok (.getfield 34, 3) := by decide +kernel
theorem dX3_nextNumber_19 : decode cX3_nextNumber 19 = .ok (.invokevirtual 128, 3) := by decide +kernel
theorem dX3_nextNumber_22 : decode cX3_nextNumber 22 = .ok (.invokestatic 139, 3) := by decide +kernel
theorem dX3_nextNumber_25 : decode cX3_nextNumber 25 = .ok (.ifCond .eq 48, 3) := by decide +kernel
theorem dX3_nextNumber_28 : decode cX3_nextNumber 28 = .ok (.aload_n 0, 1) := by decide +kernel
theorem dX3_nextNumber_29 : decode cX3_nextNumber 29 = .ok (.sipush 10000, 3) := by decide +kernel
theorem dX3_nextNumber_32 : decode cX3_nextNumber 32 = .ok (.aload_n 0, 1) := by decide +kernel
theorem dX3_nextNumber_33 : decode cX3_nextNumber 33 = .ok (.getfield 84, 3) := by decide +kernel
theorem dX3_nextNumber_36 : decode cX3_nextNumber 36 = .ok (.bipush 10, 2) := by decide +kernel
theorem dX3_nextNumber_38 : decode cX3_nextNumber 38 = .ok (.imul, 1) := by decide +kernel
theorem dX3_nextNumber_39 : decode cX3_nextNumber 39 = .ok (.aload_n 0, 1) := by decide +kernel
theorem dX3_nextNumber_40 : decode cX3_nextNumber 40 = .ok (.aload_n 0, 1) := by decide +kernel
theorem dX3_nextNumber_41 : decode cX3_nextNumber 41 = .ok (.getfield 34, 3) := by decide +kernel
theorem dX3_nextNumber_44 : decode cX3_nextNumber 44 = .ok (.invokevirtual 128, 3) := by decide +kernel
theorem dX3_nextNumber_47 : decode cX3_nextNumber 47 = .ok (.iadd, 1) := by decide +kernel
theorem dX3_nextNumber_48 : decode cX3_nextNumber 48 = .ok (.bipush 48, 2) := by decide +kernel
theorem dX3_nextNumber_50 : decode cX3_nextNumber 50 = .ok (.isub, 1) := by decide +kernel
theorem dX3_nextNumber_51 : decode cX3_nextNumber 51 = .ok (.invokestatic 158, 3) := by decide +kernel
theorem dX3_nextNumber_54 : decode cX3_nextNumber 54 = .ok (.putfield 84, 3) := by decide +kernel
theorem dX3_nextNumber_57 : decode cX3_nextNumber 57 = .ok (.aload_n 0, 1) := by decide +kernel
theorem dX3_nextNumber_58 : decode cX3_nextNumber 58 = .ok (.dup, 1) := by decide +kernel
theorem dX3_nextNumber_59 : decode cX3_nextNumber 59 = .ok (.getfield 34, 3) := by decide +kernel
theorem dX3_nextNumber_62 : decode cX3_nextNumber 62 = .ok (.iconst 1, 1) := by decide +kernel
theorem dX3_nextNumber_63 : decode cX3_nextNumber 63 = .ok (.iadd, 1) := by decide +kernel
theorem dX3_nextNumber_64 : decode cX3_nextNumber 64 = .ok (.putfield 34, 3) := by decide +kernel
theorem dX3_nextNumber_67 : decode cX3_nextNumber 67 = .ok (.iinc 1 1, 3) := by decide +kernel
theorem dX3_nextNumber_70 : decode cX3_nextNumber 70 = .ok (.goto (-63), 3) := by decide +kernel
theorem dX3_nextNumber_73 : decode cX3_nextNumber 73 = .ok (.iconst 1, 1) := by decide +kernel
theorem dX3_nextNumber_74 : decode cX3_nextNumber 74 = .ok (.ireturn, 1) := by decide +kernel
def Rd_nextNumber_67 (k7 : Int32 → Nm → Option (Int32 × Nm)) (x1 : Int32) (ν : Nm) : Option (Int32 × Nm) :=
  k7 (x1 + (1 : Int32)) ν
set_option maxRecDepth 100000 in
set_option maxHeartbeats 4000000 in
theorem t_Rd_nextNumber_67 {g : GG} {d : Nat} (hd0 : 2 ≤ d) {k7 : Int32 → Nm → Option (Int32 × Nm)} (hk7 : ∀ (x1 : Int32) (ν : Nm) (r : (Int32 × Nm)), k7 x1 ν = some r → Z g d (0, 0) mX3_nextNumber 333 0 0 7 [(0, .ref 271), (1, .int x1)] [] (zem ν) (zF g (some (.int r.1), zem r.2))) : ∀ (x1 : Int32) (ν : Nm) (r : (Int32 × Nm)), Rd_nextNumber_67 k7 x1 ν = some r → Z g d (0, 0) mX3_nextNumber 333 0 0 67 [(0, .ref 271), (1, .int x1)] [] (zem ν) (zF g (some (.int r.1), zem r.2)) := by
  intro x1 ν r h
  unfold Rd_nextNumber_67 at h
  refine z_iinc (M := mX3_nextNumber) (v := (x1 + (1 : Int32))) (lv2 := [(1, .int (x1 + (1 : Int32))), (0, .ref 271)]) dX3_nextNumber_67 1 rfl rfl (Nat.le_of_ble_eq_true rfl) rfl ?_
  refine z_goto 7 dX3_nextNumber_70 rfl ?_
  refine z_lv (lv2 := [(0, .ref 271), (1, .int (x1 + (1 : Int32)))]) [1, 0] rfl ?_
  exact hk7 (x1 + (1 : Int32)) ν _ h
def Rd_nextNumber_7 : Nat → Int32 → Nm → Option (Int32 × Nm)
  | 0, _, _ => none
  | f + 1, x1, ν =>
    (if (300 : Int32) ≤ x1 then
      some ((1 : Int32), ν)
    else
      (Rd_byteAt ν (gi ν 271 4)).bind fun v2 =>
      (Rd_isDigit v2).bind fun v3 =>
      (if (b2i v3) = 0 then
        some ((1 : Int32), ν)
      else
        (Rd_byteAt ν (gi ν 271 4)).bind fun v5 =>
        Rd_nextNumber_67 (Rd_nextNumber_7 f) x1 (si (si ν 271 7 (imin (10000 : Int32) ((((gi ν 271 7) * (10 : Int32)) + v5) - (48 : Int32)))) 271 4 ((gi (si ν 271 7 (imin (10000 : Int32) ((((gi ν 271 7) * (10 : Int32)) + v5) - (48 : Int32)))) 271 4) + (1 : Int32)))))
set_option maxRecDepth 100000 in
set_option maxHeartbeats 4000000 in
theorem t_Rd_nextNumber_7 {g : GG} {d : Nat} (hd0 : 2 ≤ d) : ∀ (f : Nat), ∀ (x1 : Int32) (ν : Nm) (r : (Int32 × Nm)), Rd_nextNumber_7 f x1 ν = some r → Z g d (0, 0) mX3_nextNumber 333 0 0 7 [(0, .ref 271), (1, .int x1)] [] (zem ν) (zF g (some (.int r.1), zem r.2)) := by
  intro f
  induction f with
  | zero =>
    intro x1 ν r h
    cases h
  | succ f ih =>
    intro x1 ν r h
    rw [Rd_nextNumber_7] at h
    refine z_iload_n dX3_nextNumber_7 1 rfl ?_
    refine z_sipush (M := mX3_nextNumber) (v := 300) dX3_nextNumber_8 rfl ?_
    refine z_icmp_ge 73 dX3_nextNumber_11 rfl (fun hc1 => ?_) (fun hc1 => ?_)
    · replace h := oT hc1 h
      refine z_iconst (M := mX3_nextNumber) (v := 1) dX3_nextNumber_73 rfl ?_
      cases h
      exact z_iret dX3_nextNumber_74 rfl
    · replace h := oF hc1 h
      refine z_aload_n dX3_nextNumber_14 0 rfl ?_
      refine z_aload_n dX3_nextNumber_15 0 rfl ?_
      refine y_getI dX3_nextNumber_16 zk_271 flRX3_34 ?_
      obtain ⟨v2, he2, h⟩ := obind h
      refine y_Vi (M := mX3_nextNumber) (Y := mX3_byteAt) (d2 := d - 1) (As := [.int (gi ν 271 4)]) (st := []) dX3_nextNumber_19 mlRX3_128 cv_X3_byteAt zk_271 (ct_Rd_byteAt (dle (Nat.le_of_ble_eq_true rfl) hd0) he2) (dps (Nat.le_of_ble_eq_true rfl) hd0) rfl rfl (Nat.le_of_ble_eq_true rfl) ?_
      obtain ⟨v3, he3, h⟩ := obind h
      refine y_Si (M := mX3_nextNumber) (Y := mX3_isDigit) (d2 := d - 1) (As := [.int v2]) (st := []) dX3_nextNumber_22 mlRX3_139 cv_X3_isDigit (ct_Rd_isDigit (dle (Nat.le_of_ble_eq_true rfl) hd0) he3) (dps (Nat.le_of_ble_eq_true rfl) hd0) rfl rfl (Nat.le_of_ble_eq_true rfl) ?_
      refine z_if_eq 73 dX3_nextNumber_25 rfl (fun hc4 => ?_) (fun hc4 => ?_)
      · replace h := oT hc4 h
        refine z_iconst (M := mX3_nextNumber) (v := 1) dX3_nextNumber_73 rfl ?_
        cases h
        exact z_iret dX3_nextNumber_74 rfl
      · replace h := oF hc4 h
        refine z_aload_n dX3_nextNumber_28 0 rfl ?_
        refine z_sipush (M := mX3_nextNumber) (v := 10000) dX3_nextNumber_29 rfl ?_
        refine z_aload_n dX3_nextNumber_32 0 rfl ?_
        refine y_getI dX3_nextNumber_33 zk_271 flRX3_84 ?_
        refine z_bipush (M := mX3_nextNumber) (v := 10) dX3_nextNumber_36 rfl ?_
        refine z_imul dX3_nextNumber_38 ?_
        refine z_aload_n dX3_nextNumber_39 0 rfl ?_
        refine z_aload_n dX3_nextNumber_40 0 rfl ?_
        refine y_getI dX3_nextNumber_41 zk_271 flRX3_34 ?_
        obtain ⟨v5, he5, h⟩ := obind h
        refine y_Vi (M := mX3_nextNumber) (Y := mX3_byteAt) (d2 := d - 1) (As := [.int (gi ν 271 4)]) (st := [.int ((gi ν 271 7) * (10 : Int32)), .int (10000 : Int32), .ref 271]) dX3_nextNumber_44 mlRX3_128 cv_X3_byteAt zk_271 (ct_Rd_byteAt (dle (Nat.le_of_ble_eq_true rfl) hd0) he5) (dps (Nat.le_of_ble_eq_true rfl) hd0) rfl rfl (Nat.le_of_ble_eq_true rfl) ?_
        refine z_iadd dX3_nextNumber_47 ?_
        refine z_bipush (M := mX3_nextNumber) (v := 48) dX3_nextNumber_48 rfl ?_
        refine z_isub dX3_nextNumber_50 ?_
        refine y_mmin dX3_nextNumber_51 mlRX3_158 mw_mmin (Nat.le_trans (Nat.le_of_ble_eq_true rfl) hd0) (Nat.le_of_ble_eq_true rfl) ?_
        refine y_putI dX3_nextNumber_54 zk_271 flRX3_84 ⟨rfl, rfl⟩ ?_
        refine z_aload_n dX3_nextNumber_57 0 rfl ?_
        refine z_dup dX3_nextNumber_58 rfl ?_
        refine y_getI dX3_nextNumber_59 zk_271 flRX3_34 ?_
        refine z_iconst (M := mX3_nextNumber) (v := 1) dX3_nextNumber_62 rfl ?_
        refine z_iadd dX3_nextNumber_63 ?_
        refine y_putI dX3_nextNumber_64 zk_271 flRX3_34 ⟨rfl, rfl⟩ ?_
        exact t_Rd_nextNumber_67 hd0 ih x1 (si (si ν 271 7 (imin (10000 : Int32) ((((gi ν 271 7) * (10 : Int32)) + v5) - (48 : Int32)))) 271 4 ((gi (si ν 271 7 (imin (10000 : Int32) ((((gi ν 271 7) * (10 : Int32)) + v5) - (48 : Int32)))) 271 4) + (1 : Int32))) _ h
def Rd_nextNumber (ν : Nm) : Option (Int32 × Nm) :=
  Rd_nextNumber_7 FU (0 : Int32) (si ν 271 7 (0 : Int32))
set_option maxRecDepth 100000 in
set_option maxHeartbeats 4000000 in
theorem t_Rd_nextNumber {g : GG} {d : Nat} (hd0 : 2 ≤ d) : ∀ (ν : Nm) (r : (Int32 × Nm)), Rd_nextNumber ν = some r → Z g d (0, 0) mX3_nextNumber 333 0 0 0 [(0, .ref 271)] [] (zem ν) (zF g (some (.int r.1), zem r.2)) := by
  intro ν r h
  unfold Rd_nextNumber at h
  refine z_aload_n dX3_nextNumber_0 0 rfl ?_
  refine z_iconst (M := mX3_nextNumber) (v := 0) dX3_nextNumber_1 rfl ?_
  refine y_putI dX3_nextNumber_2 zk_271 flRX3_84 ⟨rfl, rfl⟩ ?_
  refine z_iconst (M := mX3_nextNumber) (v := 0) dX3_nextNumber_5 rfl ?_
  refine z_istore_n (M := mX3_nextNumber) (lv2 := [(1, .int (0 : Int32)), (0, .ref 271)]) dX3_nextNumber_6 (Nat.le_of_ble_eq_true rfl) rfl ?_
  refine z_lv (lv2 := [(0, .ref 271), (1, .int (0 : Int32))]) [1, 0] rfl ?_
  exact t_Rd_nextNumber_7 hd0 FU (0 : Int32) (si ν 271 7 (0 : Int32)) _ h
theorem ct_Rd_nextNumber {g : GG} {d : Nat} {ν : Nm} {r : (Int32 × Nm)} (hd0 : 2 ≤ d)  (h : Rd_nextNumber ν = some r) : Ct g d mX3_nextNumber [.ref 271] (zem ν) (some (.int r.1), zem r.2) := y_entry in_X3_nextNumber (Nat.le_of_ble_eq_true rfl) rfl (t_Rd_nextNumber hd0 ν r h)
-- FuseMinutes$Reader.nextSign(I)I
theorem dX3_nextSign_0 : decode cX3_nextSign 0 = .ok (.ldc 163, 2) := by decide +kernel
theorem dX3_nextSign_2 : decode cX3_nextSign 2 = .ok (.iload_n 1, 1) := by decide +kernel
theorem dX3_nextSign_3 : decode cX3_nextSign 3 = .ok (.i2c, 1) := by decide +kernel
theorem dX3_nextSign_4 : decode cX3_nextSign 4 = .ok (.invokevirtual 165, 3) := by decide +kernel
theorem dX3_nextSign_7 : decode cX3_nextSign 7 = .ok (.ifCond .ge 5, 3) := by decide +kernel
theorem dX3_nextSign_10 : decode cX3_nextSign 10 = .ok (.iconst 0, 1) := by decide +kernel
theorem dX3_nextSign_11 : decode cX3_nextSign 11 = .ok (.ireturn, 1) := by decide +kernel
theorem dX3_nextSign_12 : decode cX3_nextSign 12 = .ok (.aload_n 0, 1) := by decide +kernel
theorem dX3_nextSign_13 : decode cX3_nextSign 13 = .ok (.dup, 1) := by decide +kernel
theorem dX3_nextSign_14 : decode cX3_nextSign 14 = .ok (.getfield 34, 3) := by decide +kernel
theorem dX3_nextSign_17 : decode cX3_nextSign 17 = .ok (.iconst 1, 1) := by decide +kernel
theorem dX3_nextSign_18 : decode cX3_nextSign 18 = .ok (.iadd, 1) := by decide +kernel
theorem dX3_nextSign_19 : decode cX3_nextSign 19 = .ok (.putfield 34, 3) := by decide +kernel
theorem dX3_nextSign_22 : decode cX3_nextSign 22 = .ok (.iload_n 1, 1) := by decide +kernel
theorem dX3_nextSign_23 : decode cX3_nextSign 23 = .ok (.bipush 60, 2) := by decide +kernel
theorem dX3_nextSign_25 : decode cX3_nextSign 25 = .ok (.if_icmp .eq 9, 3) := by decide +kernel
theorem dX3_nextSign_28 : decode cX3_nextSign 28 = .ok (.iload_n 1, 1) := by decide +kernel
theorem dX3_nextSign_29 : decode cX3_nextSign 29 = .ok (.bipush 62, 2) := by decide +kernel
theorem dX3_nextSign_31 : decode cX3_nextSign 31 = .ok (.if_icmp .ne 42, 3) := by decide +kernel
theorem dX3_nextSign_34 : decode cX3_nextSign 34 = .ok (.aload_n 0, 1) := by decide +kernel
theorem dX3_nextSign_35 : decode cX3_nextSign 35 = .ok (.aload_n 0, 1) := by decide +kernel
theorem dX3_nextSign_36 : decode cX3_nextSign 36 = .ok (.getfield 34, 3) := by decide +kernel
theorem dX3_nextSign_39 : decode cX3_nextSign 39 = .ok (.invokevirtual 128, 3) := by decide +kernel
theorem dX3_nextSign_42 : decode cX3_nextSign 42 = .ok (.bipush 61, 2) := by decide +kernel
theorem dX3_nextSign_44 : decode cX3_nextSign 44 = .ok (.if_icmp .ne 29, 3) := by decide +kernel
theorem dX3_nextSign_47 : decode cX3_nextSign 47 = .ok (.aload_n 0, 1) := by decide +kernel
theorem dX3_nextSign_48 : decode cX3_nextSign 48 = .ok (.dup, 1) := by decide +kernel
theorem dX3_nextSign_49 : decode cX3_nextSign 49 = .ok (.getfield 34, 3) := by decide +kernel
theorem dX3_nextSign_52 : decode cX3_nextSign 52 = .ok (.iconst 1, 1) := by decide +kernel
theorem dX3_nextSign_53 : decode cX3_nextSign 53 = .ok (.iadd, 1) := by decide +kernel
theorem dX3_nextSign_54 : decode cX3_nextSign 54 = .ok (.putfield 34, 3) := by decide +kernel
theorem dX3_nextSign_57 : decode cX3_nextSign 57 = .ok (.iload_n 1, 1) := by decide +kernel
theorem dX3_nextSign_58 : decode cX3_nextSign 58 = .ok (.bipush 60, 2) := by decide +kernel
theorem dX3_nextSign_60 : decode cX3_nextSign 60 = .ok (.if_icmp .ne 9, 3) := by decide +kernel
theorem dX3_nextSign_63 : decode cX3_nextSign 63 = .ok (.sipush 128, 3) := by decide +kernel
theorem dX3_nextSign_66 : decode cX3_nextSign 66 = .ok (.goto 6, 3) := by decide +kernel
theorem dX3_nextSign_69 : decode cX3_nextSign 69 = .ok (.sipush 129, 3) := by decide +kernel
theorem dX3_nextSign_72 : decode cX3_nextSign 72 = .ok (.ireturn, 1) := by decide +kernel
theorem dX3_nextSign_73 : decode cX3_nextSign 73 = .ok (.iload_n 1, 1) := by decide +kernel
theorem dX3_nextSign_74 : decode cX3_nextSign 74 = .ok (.ireturn, 1) := by decide +kernel
def Rd_nextSign_34 (x1 : Int32) (ν : Nm) : Option (Int32 × Nm) :=
  (Rd_byteAt ν (gi ν 271 4)).bind fun v1 =>
  (if ¬ v1 = (61 : Int32) then
    some (x1, ν)
  else
    (if ¬ x1 = (60 : Int32) then
      some ((129 : Int32), (si ν 271 4 ((gi ν 271 4) + (1 : Int32))))
    else
      some ((128 : Int32), (si ν 271 4 ((gi ν 271 4) + (1 : Int32))))))
set_option maxRecDepth 100000 in
set_option maxHeartbeats 4000000 in
theorem t_Rd_nextSign_34 {g : GG} {d : Nat} (hd0 : 5 ≤ d) : ∀ (x1 : Int32) (ν : Nm) (r : (Int32 × Nm)), Rd_nextSign_34 x1 ν = some r → Z g d (0, 0) mX3_nextSign 333 0 0 34 [(0, .ref 271), (1, .int x1)] [] (zem ν) (zF g (some (.int r.1), zem r.2)) := by
  intro x1 ν r h
  unfold Rd_nextSign_34 at h
  refine z_aload_n dX3_nextSign_34 0 rfl ?_
  refine z_aload_n dX3_nextSign_35 0 rfl ?_
  refine y_getI dX3_nextSign_36 zk_271 flRX3_34 ?_
  obtain ⟨v1, he1, h⟩ := obind h
  refine y_Vi (M := mX3_nextSign) (Y := mX3_byteAt) (d2 := d - 1) (As := [.int (gi ν 271 4)]) (st := []) dX3_nextSign_39 mlRX3_128 cv_X3_byteAt zk_271 (ct_Rd_byteAt (dle (Nat.le_of_ble_eq_true rfl) hd0) he1) (dps (Nat.le_of_ble_eq_true rfl) hd0) rfl rfl (Nat.le_of_ble_eq_true rfl) ?_
  refine z_bipush (M := mX3_nextSign) (v := 61) dX3_nextSign_42 rfl ?_
  refine z_icmp_ne 73 dX3_nextSign_44 rfl (fun hc2 => ?_) (fun hc2 => ?_)
  · replace h := oT hc2 h
    refine z_iload_n dX3_nextSign_73 1 rfl ?_
    cases h
    exact z_iret dX3_nextSign_74 rfl
  · replace h := oFn hc2 h
    refine z_aload_n dX3_nextSign_47 0 rfl ?_
    refine z_dup dX3_nextSign_48 rfl ?_
    refine y_getI dX3_nextSign_49 zk_271 flRX3_34 ?_
    refine z_iconst (M := mX3_nextSign) (v := 1) dX3_nextSign_52 rfl ?_
    refine z_iadd dX3_nextSign_53 ?_
    refine y_putI dX3_nextSign_54 zk_271 flRX3_34 ⟨rfl, rfl⟩ ?_
    refine z_iload_n dX3_nextSign_57 1 rfl ?_
    refine z_bipush (M := mX3_nextSign) (v := 60) dX3_nextSign_58 rfl ?_
    refine z_icmp_ne 69 dX3_nextSign_60 rfl (fun hc3 => ?_) (fun hc3 => ?_)
    · replace h := oT hc3 h
      refine z_sipush (M := mX3_nextSign) (v := 129) dX3_nextSign_69 rfl ?_
      cases h
      exact z_iret dX3_nextSign_72 rfl
    · replace h := oFn hc3 h
      refine z_sipush (M := mX3_nextSign) (v := 128) dX3_nextSign_63 rfl ?_
      refine z_goto 72 dX3_nextSign_66 rfl ?_
      cases h
      exact z_iret dX3_nextSign_72 rfl
def Rd_nextSign (x1 : Int32) (ν : Nm) : Option (Int32 × Nm) :=
  (Js_indexOf 1 (x1.toUInt32 % 65536).toInt32).bind fun v1 =>
  (if 0 ≤ v1 then
    (if x1 = (60 : Int32) then
      Rd_nextSign_34 x1 (si ν 271 4 ((gi ν 271 4) + (1 : Int32)))
    else
      (if ¬ x1 = (62 : Int32) then
        some (x1, (si ν 271 4 ((gi ν 271 4) + (1 : Int32))))
      else
        Rd_nextSign_34 x1 (si ν 271 4 ((gi ν 271 4) + (1 : Int32)))))
  else
    some ((0 : Int32), ν))
set_option maxRecDepth 100000 in
set_option maxHeartbeats 4000000 in
theorem t_Rd_nextSign {g : GG} {d : Nat} (hd0 : 5 ≤ d) : ∀ (x1 : Int32) (ν : Nm) (r : (Int32 × Nm)), Rd_nextSign x1 ν = some r → Z g d (0, 0) mX3_nextSign 333 0 0 0 [(0, .ref 271), (1, .int x1)] [] (zem ν) (zF g (some (.int r.1), zem r.2)) := by
  intro x1 ν r h
  unfold Rd_nextSign at h
  refine y_sldc1 dX3_nextSign_0 ?_
  refine z_iload_n dX3_nextSign_2 1 rfl ?_
  refine z_i2c dX3_nextSign_3 ?_
  obtain ⟨v1, he1, h⟩ := obind h
  refine y_Wi (M := mX3_nextSign) (Y := mJ0_indexOf_0f7a4) (d2 := d - 1) (As := [.int (x1.toUInt32 % 65536).toInt32]) (st := []) dX3_nextSign_4 mlRX3_165 cv_J0_indexOf_0f7a4 (by decide) (ct_Js_indexOf (dle (Nat.le_of_ble_eq_true rfl) hd0) (by decide) he1) (dps (Nat.le_of_ble_eq_true rfl) hd0) rfl rfl (Nat.le_of_ble_eq_true rfl) ?_
  refine z_if_ge 12 dX3_nextSign_7 rfl (fun hc2 => ?_) (fun hc2 => ?_)
  · replace h := oT hc2 h
    refine z_aload_n dX3_nextSign_12 0 rfl ?_
    refine z_dup dX3_nextSign_13 rfl ?_
    refine y_getI dX3_nextSign_14 zk_271 flRX3_34 ?_
    refine z_iconst (M := mX3_nextSign) (v := 1) dX3_nextSign_17 rfl ?_
    refine z_iadd dX3_nextSign_18 ?_
    refine y_putI dX3_nextSign_19 zk_271 flRX3_34 ⟨rfl, rfl⟩ ?_
    refine z_iload_n dX3_nextSign_22 1 rfl ?_
    refine z_bipush (M := mX3_nextSign) (v := 60) dX3_nextSign_23 rfl ?_
    refine z_icmp_eq 34 dX3_nextSign_25 rfl (fun hc3 => ?_) (fun hc3 => ?_)
    · replace h := oT hc3 h
      exact t_Rd_nextSign_34 hd0  x1 (si ν 271 4 ((gi ν 271 4) + (1 : Int32))) _ h
    · replace h := oF hc3 h
      refine z_iload_n dX3_nextSign_28 1 rfl ?_
      refine z_bipush (M := mX3_nextSign) (v := 62) dX3_nextSign_29 rfl ?_
      refine z_icmp_ne 73 dX3_nextSign_31 rfl (fun hc4 => ?_) (fun hc4 => ?_)
      · replace h := oT hc4 h
        refine z_iload_n dX3_nextSign_73 1 rfl ?_
        cases h
        exact z_iret dX3_nextSign_74 rfl
      · replace h := oFn hc4 h
        exact t_Rd_nextSign_34 hd0  x1 (si ν 271 4 ((gi ν 271 4) + (1 : Int32))) _ h
  · replace h := oF hc2 h
    refine z_iconst (M := mX3_nextSign) (v := 0) dX3_nextSign_10 rfl ?_
    cases h
    exact z_iret dX3_nextSign_11 rfl
theorem ct_Rd_nextSign {g : GG} {d : Nat} {x1 : Int32} {ν : Nm} {r : (Int32 × Nm)} (hd0 : 5 ≤ d)  (h : Rd_nextSign x1 ν = some r) : Ct g d mX3_nextSign [.ref 271, .int x1] (zem ν) (some (.int r.1), zem r.2) := y_entry in_X3_nextSign (Nat.le_of_ble_eq_true rfl) rfl (t_Rd_nextSign hd0 x1 ν r h)
-- FuseMinutes$Reader.nextWord()I
theorem dX3_nextWord_0 : decode cX3_nextWord 0 = .ok (.iconst 0, 1) := by decide +kernel
theorem dX3_nextWord_1 : decode cX3_nextWord 1 = .ok (.istore_n 1, 1) := by decide +kernel
theorem dX3_nextWord_2 : decode cX3_nextWord 2 = .ok (.iload_n 1, 1) := by decide +kernel
theorem dX3_nextWord_3 : decode cX3_nextWord 3 = .ok (.sipush 300, 3) := by decide +kernel
theorem dX3_nextWord_6 : decode cX3_nextWord 6 = .ok (.if_icmp .ge 33, 3) := by decide +kernel
theorem dX3_nextWord_9 : decode cX3_nextWord 9 = .ok (.aload_n 0, 1) := by decide +kernel
theorem dX3_nextWord_10 : decode cX3_nextWord 10 = .ok (.aload_n 0, 1) := by decide +kernel
theorem dX3_nextWord_11 : decode cX3_nextWord 11 = .ok (.getfield 34, 3) := by decide +kernel
theorem dX3_nextWord_14 : decode cX3_nextWord 14 = .ok (.invokevirtual 128, 3) := by decide +kernel
theorem dX3_nextWord_17 : decode cX3_nextWord 17 = .ok (.invokestatic 132, 3) := by decide +kernel
theorem dX3_nextWord_20 : decode cX3_nextWord 20 = .ok (.ifCond .eq 19, 3) := by decide +kernel
theorem dX3_nextWord_23 : decode cX3_nextWord 23 = .ok (.aload_n 0, 1) := by decide +kernel
theorem dX3_nextWord_24 : decode cX3_nextWord 24 = .ok (.dup, 1) := by decide +kernel
theorem dX3_nextWord_25 : decode cX3_nextWord 25 = .ok (.getfield 34, 3) := by decide +kernel
theorem dX3_nextWord_28 : decode cX3_nextWord 28 = .ok (.iconst 1, 1) := by decide +kernel
theorem dX3_nextWord_29 : decode cX3_nextWord 29 = .ok (.iadd, 1) := by decide +kernel
theorem dX3_nextWord_30 : decode cX3_nextWord 30 = .ok (.putfield 34, 3) := by decide +kernel
theorem dX3_nextWord_33 : decode cX3_nextWord 33 = .ok (.iinc 1 1, 3) := by decide +kernel
theorem dX3_nextWord_36 : decode cX3_nextWord 36 = .ok (.goto (-34), 3) := by decide +kernel
theorem dX3_nextWord_39 : decode cX3_nextWord 39 = .ok (.iconst 2, 1) := by decide +kernel
theorem dX3_nextWord_40 : decode cX3_nextWord 40 = .ok (.istore_n 1, 1) := by decide +kernel
theorem dX3_nextWord_41 : decode cX3_nextWord 41 = .ok (.aload_n 0, 1) := by decide +kernel
theorem dX3_nextWord_42 : decode cX3_nextWord 42 = .ok (.getfield 125, 3) := by decide +kernel
theorem dX3_nextWord_45 : decode cX3_nextWord 45 = .ok (.istore_n 2, 1) := by decide +kernel
theorem dX3_nextWord_46 : decode cX3_nextWord 46 = .ok (.iconst 1, 1) := by decide +kernel
theorem dX3_nextWord_47 : decode cX3_nextWord 47 = .ok (.istore_n 3, 1) := by decide +kernel
theorem dX3_nextWord_48 : decode cX3_nextWord 48 = .ok (.iconst 0, 1) := by decide +kernel
theorem dX3_nextWord_49 : decode cX3_nextWord 49 = .ok (.istore 4, 2) := by decide +kernel
theorem dX3_nextWord_51 : decode cX3_nextWord 51 = .ok (.iload 4, 2) := by decide +kernel
theorem dX3_nextWord_53 : decode cX3_nextWord 53 = .ok (.ldc 148, 2) := by decide +kernel
theorem dX3_nextWord_55 : decode cX3_nextWord 55 = .ok (.invokevirtual 150, 3) := by decide +kernel
theorem dX3_nextWord_58 : decode cX3_nextWord 58 = .ok (.if_icmp .ge 75, 3) := by decide +kernel
theorem dX3_nextWord_61 : decode cX3_nextWord 61 = .ok (.ldc 148, 2) := by decide +kernel
theorem dX3_nextWord_63 : decode cX3_nextWord 63 = .ok (.iload 4, 2) := by decide +kernel
theorem dX3_nextWord_65 : decode cX3_nextWord 65 = .ok (.invokevirtual 154, 3) := by decide +kernel
theorem dX3_nextWord_68 : decode cX3_nextWord 68 = .ok (.istore 5, 2) := by decide +kernel
theorem dX3_nextWord_70 : decode cX3_nextWord 70 = .ok (.iload 5, 2) := by decide +kernel
theorem dX3_nextWord_72 : decode cX3_nextWord 72 = .ok (.bipush 32, 2) := by decide +kernel
theorem dX3_nextWord_74 : decode cX3_nextWord 74 = .ok (.if_icmp .eq 29, 3) := by decide +kernel
theorem dX3_nextWord_77 : decode cX3_nextWord 77 = .ok (.iload_n 3, 1) := by decide +kernel
theorem dX3_nextWord_78 : decode cX3_nextWord 78 = .ok (.ifCond .eq 17, 3) := by decide +kernel
theorem dX3_nextWord_81 : decode cX3_nextWord 81 = .ok (.aload_n 0, 1) := by decide +kernel
theorem dX3_nextWord_82 : decode cX3_nextWord 82 = .ok (.iload_n 2, 1) := by decide +kernel
theorem dX3_nextWord_83 : decode cX3_nextWord 83 = .ok (.invokevirtual 128, 3) := by decide +kernel
theorem dX3_nextWord_86 : decode cX3_nextWord 86 = .ok (.iload 5, 2) := by decide +kernel
theorem dX3_nextWord_88 : decode cX3_nextWord 88 = .ok (.if_icmp .ne 7, 3) := by decide +kernel
theorem dX3_nextWord_91 : decode cX3_nextWord 91 = .ok (.iconst 1, 1) := by decide +kernel
theorem dX3_nextWord_92 : decode cX3_nextWord 92 = .ok (.goto 4, 3) := by decide +kernel
theorem dX3_nextWord_95 : decode cX3_nextWord 95 = .ok (.iconst 0, 1) := by decide +kernel
theorem dX3_nextWord_96 : decode cX3_nextWord 96 = .ok (.istore_n 3, 1) := by decide +kernel
theorem dX3_nextWord_97 : decode cX3_nextWord 97 = .ok (.iinc 2 1, 3) := by decide +kernel
theorem dX3_nextWord_100 : decode cX3_nextWord 100 = .ok (.goto 27, 3) := by decide +kernel
theorem dX3_nextWord_103 : decode cX3_nextWord 103 = .ok (.iload_n 3, 1) := by decide +kernel
theorem dX3_nextWord_104 : decode cX3_nextWord 104 = .ok (.ifCond .eq 13, 3) := by decide +kernel
theorem dX3_nextWord_107 : decode cX3_nextWord 107 = .ok (.iload_n 2, 1) := by decide +kernel
theorem dX3_nextWord_108 : decode cX3_nextWord 108 = .ok (.aload_n 0, 1) := by decide +kernel
theorem dX3_nextWord_109 : decode cX3_nextWord 109 = .ok (.getfield 34, 3) := by decide +kernel
theorem dX3_nextWord_112 : decode cX3_nextWord 112 = .ok (.if_icmp .ne 5, 3) := by decide +kernel
theorem dX3_nextWord_115 : decode cX3_nextWord 115 = .ok (.iload_n 1, 1) := by decide +kernel
theorem dX3_nextWord_116 : decode cX3_nextWord 116 = .ok (.ireturn, 1) := by decide +kernel
theorem dX3_nextWord_117 : decode cX3_nextWord 117 = .ok (.iinc 1 1, 3) := by decide +kernel
theorem dX3_nextWord_120 : decode cX3_nextWord 120 = .ok (.aload_n 0, 1) := by decide +kernel
theorem dX3_nextWord_121 : decode cX3_nextWord 121 = .ok (.getfield 125, 3) := by decide +kernel
theorem dX3_nextWord_124 : decode cX3_nextWord 124 = .ok (.istore_n 2, 1) := by decide +kernel
theorem dX3_nextWord_125 : decode cX3_nextWord 125 = .ok (.iconst 1, 1) := by decide +kernel
theorem dX3_nextWord_126 : decode cX3_nextWord 126 = .ok (.istore_n 3, 1) := by decide +kernel
theorem dX3_nextWord_127 : decode cX3_nextWord 127 = .ok (.iinc 4 1, 3) := by decide +kernel
theorem dX3_nextWord_130 : decode cX3_nextWord 130 = .ok (.goto (-79), 3) := by decide +kernel
theorem dX3_nextWord_133 : decode cX3_nextWord 133 = .ok (.iconst 0, 1) := by decide +kernel
theorem dX3_nextWord_134 : decode cX3_nextWord 134 = .ok (.ireturn, 1) := by decide +kernel
def Rd_nextWord_127 (k51 : Int32 → Int32 → Int32 → Int32 → Nm → Option (Int32 × Nm)) (x1 : Int32) (x2 : Int32) (x3 : Int32) (x4 : Int32) (ν : Nm) : Option (Int32 × Nm) :=
  k51 x1 x2 x3 (x4 + (1 : Int32)) ν
set_option maxRecDepth 100000 in
set_option maxHeartbeats 4000000 in
theorem t_Rd_nextWord_127 {g : GG} {d : Nat} (hd0 : 6 ≤ d) {k51 : Int32 → Int32 → Int32 → Int32 → Nm → Option (Int32 × Nm)} (hk51 : ∀ (x1 : Int32) (x2 : Int32) (x3 : Int32) (x4 : Int32) (ν : Nm) (r : (Int32 × Nm)), k51 x1 x2 x3 x4 ν = some r → Z g d (0, 0) mX3_nextWord 333 0 0 51 [(0, .ref 271), (1, .int x1), (2, .int x2), (3, .int x3), (4, .int x4)] [] (zem ν) (zF g (some (.int r.1), zem r.2))) : ∀ (x1 : Int32) (x2 : Int32) (x3 : Int32) (x4 : Int32) (ν : Nm) (r : (Int32 × Nm)), Rd_nextWord_127 k51 x1 x2 x3 x4 ν = some r → Z g d (0, 0) mX3_nextWord 333 0 0 127 [(0, .ref 271), (1, .int x1), (2, .int x2), (3, .int x3), (4, .int x4)] [] (zem ν) (zF g (some (.int r.1), zem r.2)) := by
  intro x1 x2 x3 x4 ν r h
  unfold Rd_nextWord_127 at h
  refine z_iinc (M := mX3_nextWord) (v := (x4 + (1 : Int32))) (lv2 := [(4, .int (x4 + (1 : Int32))), (0, .ref 271), (1, .int x1), (2, .int x2), (3, .int x3)]) dX3_nextWord_127 4 rfl rfl (Nat.le_of_ble_eq_true rfl) rfl ?_
  refine z_goto 51 dX3_nextWord_130 rfl ?_
  refine z_lv (lv2 := [(0, .ref 271), (1, .int x1), (2, .int x2), (3, .int x3), (4, .int (x4 + (1 : Int32)))]) [1, 2, 3, 4, 0] rfl ?_
  exact hk51 x1 x2 x3 (x4 + (1 : Int32)) ν _ h
def Rd_nextWord_96 (k51 : Int32 → Int32 → Int32 → Int32 → Nm → Option (Int32 × Nm)) (x1 : Int32) (x2 : Int32) (x4 : Int32) (s0 : Int32) (ν : Nm) : Option (Int32 × Nm) :=
  Rd_nextWord_127 k51 x1 (x2 + (1 : Int32)) s0 x4 ν
set_option maxRecDepth 100000 in
set_option maxHeartbeats 4000000 in
theorem t_Rd_nextWord_96 {g : GG} {d : Nat} (hd0 : 6 ≤ d) {k51 : Int32 → Int32 → Int32 → Int32 → Nm → Option (Int32 × Nm)} (hk51 : ∀ (x1 : Int32) (x2 : Int32) (x3 : Int32) (x4 : Int32) (ν : Nm) (r : (Int32 × Nm)), k51 x1 x2 x3 x4 ν = some r → Z g d (0, 0) mX3_nextWord 333 0 0 51 [(0, .ref 271), (1, .int x1), (2, .int x2), (3, .int x3), (4, .int x4)] [] (zem ν) (zF g (some (.int r.1), zem r.2))) : ∀ (x1 : Int32) (x2 : Int32) (x4 : Int32) (s0 : Int32) (ν : Nm) (r : (Int32 × Nm)), Rd_nextWord_96 k51 x1 x2 x4 s0 ν = some r → Z g d (0, 0) mX3_nextWord 333 0 0 96 [(0, .ref 271), (1, .int x1), (2, .int x2), (4, .int x4)] [.int s0] (zem ν) (zF g (some (.int r.1), zem r.2)) := by
  intro x1 x2 x4 s0 ν r h
  unfold Rd_nextWord_96 at h
  refine z_istore_n (M := mX3_nextWord) (lv2 := [(3, .int s0), (0, .ref 271), (1, .int x1), (2, .int x2), (4, .int x4)]) dX3_nextWord_96 (Nat.le_of_ble_eq_true rfl) rfl ?_
  refine z_iinc (M := mX3_nextWord) (v := (x2 + (1 : Int32))) (lv2 := [(2, .int (x2 + (1 : Int32))), (3, .int s0), (0, .ref 271), (1, .int x1), (4, .int x4)]) dX3_nextWord_97 3 rfl rfl (Nat.le_of_ble_eq_true rfl) rfl ?_
  refine z_goto 127 dX3_nextWord_100 rfl ?_
  refine z_lv (lv2 := [(0, .ref 271), (1, .int x1), (2, .int (x2 + (1 : Int32))), (3, .int s0), (4, .int x4)]) [2, 3, 0, 1, 4] rfl ?_
  exact t_Rd_nextWord_127 hd0 hk51 x1 (x2 + (1 : Int32)) s0 x4 ν _ h
def Rd_nextWord_95 (k51 : Int32 → Int32 → Int32 → Int32 → Nm → Option (Int32 × Nm)) (x1 : Int32) (x2 : Int32) (x4 : Int32) (ν : Nm) : Option (Int32 × Nm) :=
  Rd_nextWord_96 k51 x1 x2 x4 (0 : Int32) ν
set_option maxRecDepth 100000 in
set_option maxHeartbeats 4000000 in
theorem t_Rd_nextWord_95 {g : GG} {d : Nat} (hd0 : 6 ≤ d) {k51 : Int32 → Int32 → Int32 → Int32 → Nm → Option (Int32 × Nm)} (hk51 : ∀ (x1 : Int32) (x2 : Int32) (x3 : Int32) (x4 : Int32) (ν : Nm) (r : (Int32 × Nm)), k51 x1 x2 x3 x4 ν = some r → Z g d (0, 0) mX3_nextWord 333 0 0 51 [(0, .ref 271), (1, .int x1), (2, .int x2), (3, .int x3), (4, .int x4)] [] (zem ν) (zF g (some (.int r.1), zem r.2))) : ∀ (x1 : Int32) (x2 : Int32) (x4 : Int32) (ν : Nm) (r : (Int32 × Nm)), Rd_nextWord_95 k51 x1 x2 x4 ν = some r → Z g d (0, 0) mX3_nextWord 333 0 0 95 [(0, .ref 271), (1, .int x1), (2, .int x2), (4, .int x4)] [] (zem ν) (zF g (some (.int r.1), zem r.2)) := by
  intro x1 x2 x4 ν r h
  unfold Rd_nextWord_95 at h
  refine z_iconst (M := mX3_nextWord) (v := 0) dX3_nextWord_95 rfl ?_
  exact t_Rd_nextWord_96 hd0 hk51 x1 x2 x4 (0 : Int32) ν _ h
def Rd_nextWord_117 (k51 : Int32 → Int32 → Int32 → Int32 → Nm → Option (Int32 × Nm)) (x1 : Int32) (x4 : Int32) (ν : Nm) : Option (Int32 × Nm) :=
  Rd_nextWord_127 k51 (x1 + (1 : Int32)) (gi ν 271 6) (1 : Int32) x4 ν
set_option maxRecDepth 100000 in
set_option maxHeartbeats 4000000 in
theorem t_Rd_nextWord_117 {g : GG} {d : Nat} (hd0 : 6 ≤ d) {k51 : Int32 → Int32 → Int32 → Int32 → Nm → Option (Int32 × Nm)} (hk51 : ∀ (x1 : Int32) (x2 : Int32) (x3 : Int32) (x4 : Int32) (ν : Nm) (r : (Int32 × Nm)), k51 x1 x2 x3 x4 ν = some r → Z g d (0, 0) mX3_nextWord 333 0 0 51 [(0, .ref 271), (1, .int x1), (2, .int x2), (3, .int x3), (4, .int x4)] [] (zem ν) (zF g (some (.int r.1), zem r.2))) : ∀ (x1 : Int32) (x4 : Int32) (ν : Nm) (r : (Int32 × Nm)), Rd_nextWord_117 k51 x1 x4 ν = some r → Z g d (0, 0) mX3_nextWord 333 0 0 117 [(0, .ref 271), (1, .int x1), (4, .int x4)] [] (zem ν) (zF g (some (.int r.1), zem r.2)) := by
  intro x1 x4 ν r h
  unfold Rd_nextWord_117 at h
  refine z_iinc (M := mX3_nextWord) (v := (x1 + (1 : Int32))) (lv2 := [(1, .int (x1 + (1 : Int32))), (0, .ref 271), (4, .int x4)]) dX3_nextWord_117 1 rfl rfl (Nat.le_of_ble_eq_true rfl) rfl ?_
  refine z_aload_n dX3_nextWord_120 1 rfl ?_
  refine y_getI dX3_nextWord_121 zk_271 flRX3_125 ?_
  refine z_istore_n (M := mX3_nextWord) (lv2 := [(2, .int (gi ν 271 6)), (1, .int (x1 + (1 : Int32))), (0, .ref 271), (4, .int x4)]) dX3_nextWord_124 (Nat.le_of_ble_eq_true rfl) rfl ?_
  refine z_iconst (M := mX3_nextWord) (v := 1) dX3_nextWord_125 rfl ?_
  refine z_istore_n (M := mX3_nextWord) (lv2 := [(3, .int (1 : Int32)), (2, .int (gi ν 271 6)), (1, .int (x1 + (1 : Int32))), (0, .ref 271), (4, .int x4)]) dX3_nextWord_126 (Nat.le_of_ble_eq_true rfl) rfl ?_
  refine z_lv (lv2 := [(0, .ref 271), (1, .int (x1 + (1 : Int32))), (2, .int (gi ν 271 6)), (3, .int (1 : Int32)), (4, .int x4)]) [3, 2, 1, 0, 4] rfl ?_
  exact t_Rd_nextWord_127 hd0 hk51 (x1 + (1 : Int32)) (gi ν 271 6) (1 : Int32) x4 ν _ h
def Rd_nextWord_51 : Nat → Int32 → Int32 → Int32 → Int32 → Nm → Option (Int32 × Nm)
  | 0, _, _, _, _, _ => none
  | f + 1, x1, x2, x3, x4, ν =>
    (Js_length 0).bind fun v1 =>
    (if v1 ≤ x4 then
      some ((0 : Int32), ν)
    else
      (Js_charAt 0 x4).bind fun v3 =>
      (if v3 = (32 : Int32) then
        (if x3 = 0 then
          Rd_nextWord_117 (Rd_nextWord_51 f) x1 x4 ν
        else
          (if ¬ x2 = (gi ν 271 4) then
            Rd_nextWord_117 (Rd_nextWord_51 f) x1 x4 ν
          else
            some (x1, ν)))
      else
        (if x3 = 0 then
          Rd_nextWord_95 (Rd_nextWord_51 f) x1 x2 x4 ν
        else
          (Rd_byteAt ν x2).bind fun v8 =>
          (if ¬ v8 = v3 then
            Rd_nextWord_95 (Rd_nextWord_51 f) x1 x2 x4 ν
          else
            Rd_nextWord_96 (Rd_nextWord_51 f) x1 x2 x4 (1 : Int32) ν))))
set_option maxRecDepth 100000 in
set_option maxHeartbeats 4000000 in
theorem t_Rd_nextWord_51 {g : GG} {d : Nat} (hd0 : 6 ≤ d) : ∀ (f : Nat), ∀ (x1 : Int32) (x2 : Int32) (x3 : Int32) (x4 : Int32) (ν : Nm) (r : (Int32 × Nm)), Rd_nextWord_51 f x1 x2 x3 x4 ν = some r → Z g d (0, 0) mX3_nextWord 333 0 0 51 [(0, .ref 271), (1, .int x1), (2, .int x2), (3, .int x3), (4, .int x4)] [] (zem ν) (zF g (some (.int r.1), zem r.2)) := by
  intro f
  induction f with
  | zero =>
    intro x1 x2 x3 x4 ν r h
    cases h
  | succ f ih =>
    intro x1 x2 x3 x4 ν r h
    rw [Rd_nextWord_51] at h
    refine z_iload dX3_nextWord_51 4 rfl ?_
    refine y_sldc0 dX3_nextWord_53 ?_
    obtain ⟨v1, he1, h⟩ := obind h
    refine y_Wi (M := mX3_nextWord) (Y := mJ0_length_8abf5) (d2 := d - 1) (As := []) (st := [.int x4]) dX3_nextWord_55 mlRX3_150 cv_J0_length_8abf5 (by decide) (ct_Js_length (dle (Nat.le_of_ble_eq_true rfl) hd0) (by decide) he1) (dps (Nat.le_of_ble_eq_true rfl) hd0) rfl rfl (Nat.le_of_ble_eq_true rfl) ?_
    refine z_icmp_ge 133 dX3_nextWord_58 rfl (fun hc2 => ?_) (fun hc2 => ?_)
    · replace h := oT hc2 h
      refine z_iconst (M := mX3_nextWord) (v := 0) dX3_nextWord_133 rfl ?_
      cases h
      exact z_iret dX3_nextWord_134 rfl
    · replace h := oF hc2 h
      refine y_sldc0 dX3_nextWord_61 ?_
      refine z_iload dX3_nextWord_63 4 rfl ?_
      obtain ⟨v3, he3, h⟩ := obind h
      refine y_Wi (M := mX3_nextWord) (Y := mJ0_charAt_5068e) (d2 := d - 1) (As := [.int x4]) (st := []) dX3_nextWord_65 mlRX3_154 cv_J0_charAt_5068e (by decide) (ct_Js_charAt (dle (Nat.le_of_ble_eq_true rfl) hd0) (by decide) he3) (dps (Nat.le_of_ble_eq_true rfl) hd0) rfl rfl (Nat.le_of_ble_eq_true rfl) ?_
      refine z_istore (M := mX3_nextWord) (lv2 := [(5, .int v3), (0, .ref 271), (1, .int x1), (2, .int x2), (3, .int x3), (4, .int x4)]) dX3_nextWord_68 (Nat.le_of_ble_eq_true rfl) rfl ?_
      refine z_iload dX3_nextWord_70 0 rfl ?_
      refine z_bipush (M := mX3_nextWord) (v := 32) dX3_nextWord_72 rfl ?_
      refine z_icmp_eq 103 dX3_nextWord_74 rfl (fun hc4 => ?_) (fun hc4 => ?_)
      · replace h := oT hc4 h
        refine z_iload_n dX3_nextWord_103 4 rfl ?_
        refine z_if_eq 117 dX3_nextWord_104 rfl (fun hc5 => ?_) (fun hc5 => ?_)
        · replace h := oT hc5 h
          refine z_lv (lv2 := [(0, .ref 271), (1, .int x1), (4, .int x4)]) [1, 2, 5] rfl ?_
          exact t_Rd_nextWord_117 hd0 ih x1 x4 ν _ h
        · replace h := oF hc5 h
          refine z_iload_n dX3_nextWord_107 3 rfl ?_
          refine z_aload_n dX3_nextWord_108 1 rfl ?_
          refine y_getI dX3_nextWord_109 zk_271 flRX3_34 ?_
          refine z_icmp_ne 117 dX3_nextWord_112 rfl (fun hc6 => ?_) (fun hc6 => ?_)
          · replace h := oT hc6 h
            refine z_lv (lv2 := [(0, .ref 271), (1, .int x1), (4, .int x4)]) [1, 2, 5] rfl ?_
            exact t_Rd_nextWord_117 hd0 ih x1 x4 ν _ h
          · replace h := oFn hc6 h
            refine z_iload_n dX3_nextWord_115 2 rfl ?_
            cases h
            exact z_iret dX3_nextWord_116 rfl
      · replace h := oF hc4 h
        refine z_iload_n dX3_nextWord_77 4 rfl ?_
        refine z_if_eq 95 dX3_nextWord_78 rfl (fun hc7 => ?_) (fun hc7 => ?_)
        · replace h := oT hc7 h
          refine z_lv (lv2 := [(0, .ref 271), (1, .int x1), (2, .int x2), (4, .int x4)]) [1, 2, 3, 5] rfl ?_
          exact t_Rd_nextWord_95 hd0 ih x1 x2 x4 ν _ h
        · replace h := oF hc7 h
          refine z_aload_n dX3_nextWord_81 1 rfl ?_
          refine z_iload_n dX3_nextWord_82 3 rfl ?_
          obtain ⟨v8, he8, h⟩ := obind h
          refine y_Vi (M := mX3_nextWord) (Y := mX3_byteAt) (d2 := d - 1) (As := [.int x2]) (st := []) dX3_nextWord_83 mlRX3_128 cv_X3_byteAt zk_271 (ct_Rd_byteAt (dle (Nat.le_of_ble_eq_true rfl) hd0) he8) (dps (Nat.le_of_ble_eq_true rfl) hd0) rfl rfl (Nat.le_of_ble_eq_true rfl) ?_
          refine z_iload dX3_nextWord_86 0 rfl ?_
          refine z_icmp_ne 95 dX3_nextWord_88 rfl (fun hc9 => ?_) (fun hc9 => ?_)
          · replace h := oT hc9 h
            refine z_lv (lv2 := [(0, .ref 271), (1, .int x1), (2, .int x2), (4, .int x4)]) [1, 2, 3, 5] rfl ?_
            exact t_Rd_nextWord_95 hd0 ih x1 x2 x4 ν _ h
          · replace h := oFn hc9 h
            refine z_iconst (M := mX3_nextWord) (v := 1) dX3_nextWord_91 rfl ?_
            refine z_goto 96 dX3_nextWord_92 rfl ?_
            refine z_lv (lv2 := [(0, .ref 271), (1, .int x1), (2, .int x2), (4, .int x4)]) [1, 2, 3, 5] rfl ?_
            exact t_Rd_nextWord_96 hd0 ih x1 x2 x4 (1 : Int32) ν _ h
def Rd_nextWord_39 (ν : Nm) : Option (Int32 × Nm) :=
  Rd_nextWord_51 FU (2 : Int32) (gi ν 271 6) (1 : Int32) (0 : Int32) ν
set_option maxRecDepth 100000 in
set_option maxHeartbeats 4000000 in
theorem t_Rd_nextWord_39 {g : GG} {d : Nat} (hd0 : 6 ≤ d) : ∀ (ν : Nm) (r : (Int32 × Nm)), Rd_nextWord_39 ν = some r → Z g d (0, 0) mX3_nextWord 333 0 0 39 [(0, .ref 271)] [] (zem ν) (zF g (some (.int r.1), zem r.2)) := by
  intro ν r h
  unfold Rd_nextWord_39 at h
  refine z_iconst (M := mX3_nextWord) (v := 2) dX3_nextWord_39 rfl ?_
  refine z_istore_n (M := mX3_nextWord) (lv2 := [(1, .int (2 : Int32)), (0, .ref 271)]) dX3_nextWord_40 (Nat.le_of_ble_eq_true rfl) rfl ?_
  refine z_aload_n dX3_nextWord_41 1 rfl ?_
  refine y_getI dX3_nextWord_42 zk_271 flRX3_125 ?_
  refine z_istore_n (M := mX3_nextWord) (lv2 := [(2, .int (gi ν 271 6)), (1, .int (2 : Int32)), (0, .ref 271)]) dX3_nextWord_45 (Nat.le_of_ble_eq_true rfl) rfl ?_
  refine z_iconst (M := mX3_nextWord) (v := 1) dX3_nextWord_46 rfl ?_
  refine z_istore_n (M := mX3_nextWord) (lv2 := [(3, .int (1 : Int32)), (2, .int (gi ν 271 6)), (1, .int (2 : Int32)), (0, .ref 271)]) dX3_nextWord_47 (Nat.le_of_ble_eq_true rfl) rfl ?_
  refine z_iconst (M := mX3_nextWord) (v := 0) dX3_nextWord_48 rfl ?_
  refine z_istore (M := mX3_nextWord) (lv2 := [(4, .int (0 : Int32)), (3, .int (1 : Int32)), (2, .int (gi ν 271 6)), (1, .int (2 : Int32)), (0, .ref 271)]) dX3_nextWord_49 (Nat.le_of_ble_eq_true rfl) rfl ?_
  refine z_lv (lv2 := [(0, .ref 271), (1, .int (2 : Int32)), (2, .int (gi ν 271 6)), (3, .int (1 : Int32)), (4, .int (0 : Int32))]) [4, 3, 2, 1, 0] rfl ?_
  exact t_Rd_nextWord_51 hd0 FU (2 : Int32) (gi ν 271 6) (1 : Int32) (0 : Int32) ν _ h
def Rd_nextWord_2 : Nat → Int32 → Nm → Option (Int32 × Nm)
  | 0, _, _ => none
  | f + 1, x1, ν =>
    (if (300 : Int32) ≤ x1 then
      Rd_nextWord_39 ν
    else
      (Rd_byteAt ν (gi ν 271 4)).bind fun v2 =>
      (Rd_isLetter v2).bind fun v3 =>
      (if (b2i v3) = 0 then
        Rd_nextWord_39 ν
      else
        (Rd_nextWord_2 f) (x1 + (1 : Int32)) (si ν 271 4 ((gi ν 271 4) + (1 : Int32)))))
set_option maxRecDepth 100000 in
set_option maxHeartbeats 4000000 in
theorem t_Rd_nextWord_2 {g : GG} {d : Nat} (hd0 : 6 ≤ d) : ∀ (f : Nat), ∀ (x1 : Int32) (ν : Nm) (r : (Int32 × Nm)), Rd_nextWord_2 f x1 ν = some r → Z g d (0, 0) mX3_nextWord 333 0 0 2 [(0, .ref 271), (1, .int x1)] [] (zem ν) (zF g (some (.int r.1), zem r.2)) := by
  intro f
  induction f with
  | zero =>
    intro x1 ν r h
    cases h
  | succ f ih =>
    intro x1 ν r h
    rw [Rd_nextWord_2] at h
    refine z_iload_n dX3_nextWord_2 1 rfl ?_
    refine z_sipush (M := mX3_nextWord) (v := 300) dX3_nextWord_3 rfl ?_
    refine z_icmp_ge 39 dX3_nextWord_6 rfl (fun hc1 => ?_) (fun hc1 => ?_)
    · replace h := oT hc1 h
      refine z_lv (lv2 := [(0, .ref 271)]) [0] rfl ?_
      exact t_Rd_nextWord_39 hd0  ν _ h
    · replace h := oF hc1 h
      refine z_aload_n dX3_nextWord_9 0 rfl ?_
      refine z_aload_n dX3_nextWord_10 0 rfl ?_
      refine y_getI dX3_nextWord_11 zk_271 flRX3_34 ?_
      obtain ⟨v2, he2, h⟩ := obind h
      refine y_Vi (M := mX3_nextWord) (Y := mX3_byteAt) (d2 := d - 1) (As := [.int (gi ν 271 4)]) (st := []) dX3_nextWord_14 mlRX3_128 cv_X3_byteAt zk_271 (ct_Rd_byteAt (dle (Nat.le_of_ble_eq_true rfl) hd0) he2) (dps (Nat.le_of_ble_eq_true rfl) hd0) rfl rfl (Nat.le_of_ble_eq_true rfl) ?_
      obtain ⟨v3, he3, h⟩ := obind h
      refine y_Si (M := mX3_nextWord) (Y := mX3_isLetter) (d2 := d - 1) (As := [.int v2]) (st := []) dX3_nextWord_17 mlRX3_132 cv_X3_isLetter (ct_Rd_isLetter (dle (Nat.le_of_ble_eq_true rfl) hd0) he3) (dps (Nat.le_of_ble_eq_true rfl) hd0) rfl rfl (Nat.le_of_ble_eq_true rfl) ?_
      refine z_if_eq 39 dX3_nextWord_20 rfl (fun hc4 => ?_) (fun hc4 => ?_)
      · replace h := oT hc4 h
        refine z_lv (lv2 := [(0, .ref 271)]) [0] rfl ?_
        exact t_Rd_nextWord_39 hd0  ν _ h
      · replace h := oF hc4 h
        refine z_aload_n dX3_nextWord_23 0 rfl ?_
        refine z_dup dX3_nextWord_24 rfl ?_
        refine y_getI dX3_nextWord_25 zk_271 flRX3_34 ?_
        refine z_iconst (M := mX3_nextWord) (v := 1) dX3_nextWord_28 rfl ?_
        refine z_iadd dX3_nextWord_29 ?_
        refine y_putI dX3_nextWord_30 zk_271 flRX3_34 ⟨rfl, rfl⟩ ?_
        refine z_iinc (M := mX3_nextWord) (v := (x1 + (1 : Int32))) (lv2 := [(1, .int (x1 + (1 : Int32))), (0, .ref 271)]) dX3_nextWord_33 1 rfl rfl (Nat.le_of_ble_eq_true rfl) rfl ?_
        refine z_goto 2 dX3_nextWord_36 rfl ?_
        refine z_lv (lv2 := [(0, .ref 271), (1, .int (x1 + (1 : Int32)))]) [1, 0] rfl ?_
        exact ih (x1 + (1 : Int32)) (si ν 271 4 ((gi ν 271 4) + (1 : Int32))) _ h
def Rd_nextWord (ν : Nm) : Option (Int32 × Nm) :=
  Rd_nextWord_2 FU (0 : Int32) ν
set_option maxRecDepth 100000 in
set_option maxHeartbeats 4000000 in
theorem t_Rd_nextWord {g : GG} {d : Nat} (hd0 : 6 ≤ d) : ∀ (ν : Nm) (r : (Int32 × Nm)), Rd_nextWord ν = some r → Z g d (0, 0) mX3_nextWord 333 0 0 0 [(0, .ref 271)] [] (zem ν) (zF g (some (.int r.1), zem r.2)) := by
  intro ν r h
  unfold Rd_nextWord at h
  refine z_iconst (M := mX3_nextWord) (v := 0) dX3_nextWord_0 rfl ?_
  refine z_istore_n (M := mX3_nextWord) (lv2 := [(1, .int (0 : Int32)), (0, .ref 271)]) dX3_nextWord_1 (Nat.le_of_ble_eq_true rfl) rfl ?_
  refine z_lv (lv2 := [(0, .ref 271), (1, .int (0 : Int32))]) [1, 0] rfl ?_
  exact t_Rd_nextWord_2 hd0 FU (0 : Int32) ν _ h
theorem ct_Rd_nextWord {g : GG} {d : Nat} {ν : Nm} {r : (Int32 × Nm)} (hd0 : 6 ≤ d)  (h : Rd_nextWord ν = some r) : Ct g d mX3_nextWord [.ref 271] (zem ν) (some (.int r.1), zem r.2) := y_entry in_X3_nextWord (Nat.le_of_ble_eq_true rfl) rfl (t_Rd_nextWord hd0 ν r h)
-- FuseMinutes$Reader.next()V
theorem dX3_next_0 : decode cX3_next 0 = .ok (.iconst 0, 1) := by decide +kernel
theorem dX3_next_1 : decode cX3_next 1 = .ok (.istore_n 1, 1) := by decide +kernel
theorem dX3_next_2 : decode cX3_next 2 = .ok (.iload_n 1, 1) := by decide +kernel
theorem dX3_next_3 : decode cX3_next 3 = .ok (.sipush 300, 3) := by decide +kernel
theorem dX3_next_6 : decode cX3_next 6 = .ok (.if_icmp .ge 45, 3) := by decide +kernel
theorem dX3_next_9 : decode cX3_next 9 = .ok (.aload_n 0, 1) := by decide +kernel
theorem dX3_next_10 : decode cX3_next 10 = .ok (.aload_n 0, 1) := by decide +kernel
theorem dX3_next_11 : decode cX3_next 11 = .ok (.getfield 34, 3) := by decide +kernel
theorem dX3_next_14 : decode cX3_next 14 = .ok (.invokevirtual 128, 3) := by decide +kernel
theorem dX3_next_17 : decode cX3_next 17 = .ok (.bipush 32, 2) := by decide +kernel
theorem dX3_next_19 : decode cX3_next 19 = .ok (.if_icmp .eq 16, 3) := by decide +kernel
theorem dX3_next_22 : decode cX3_next 22 = .ok (.aload_n 0, 1) := by decide +kernel
theorem dX3_next_23 : decode cX3_next 23 = .ok (.aload_n 0, 1) := by decide +kernel
theorem dX3_next_24 : decode cX3_next 24 = .ok (.getfield 34, 3) := by decide +kernel
theorem dX3_next_27 : decode cX3_next 27 = .ok (.invokevirtual 128, 3) := by decide +kernel
theorem dX3_next_30 : decode cX3_next 30 = .ok (.bipush 10, 2) := by decide +kernel
theorem dX3_next_32 : decode cX3_next 32 = .ok (.if_icmp .ne 19, 3) := by decide +kernel
theorem dX3_next_35 : decode cX3_next 35 = .ok (.aload_n 0, 1) := by decide +kernel
theorem dX3_next_36 : decode cX3_next 36 = .ok (.dup, 1) := by decide +kernel
theorem dX3_next_37 : decode cX3_next 37 = .ok (.getfield 34, 3) := by decide +kernel
theorem dX3_next_40 : decode cX3_next 40 = .ok (.iconst 1, 1) := by decide +kernel
theorem dX3_next_41 : decode cX3_next 41 = .ok (.iadd, 1) := by decide +kernel
theorem dX3_next_42 : decode cX3_next 42 = .ok (.putfield 34, 3) := by decide +kernel
theorem dX3_next_45 : decode cX3_next 45 = .ok (.iinc 1 1, 3) := by decide +kernel
theorem dX3_next_48 : decode cX3_next 48 = .ok (.goto (-46), 3) := by decide +kernel
theorem dX3_next_51 : decode cX3_next 51 = .ok (.aload_n 0, 1) := by decide +kernel
theorem dX3_next_52 : decode cX3_next 52 = .ok (.aload_n 0, 1) := by decide +kernel
theorem dX3_next_53 : decode cX3_next 53 = .ok (.getfield 34, 3) := by decide +kernel
theorem dX3_next_56 : decode cX3_next 56 = .ok (.putfield 125, 3) := by decide +kernel
theorem dX3_next_59 : decode cX3_next 59 = .ok (.aload_n 0, 1) := by decide +kernel
theorem dX3_next_60 : decode cX3_next 60 = .ok (.aload_n 0, 1) := by decide +kernel
theorem dX3_next_61 : decode cX3_next 61 = .ok (.getfield 34, 3) := by decide +kernel
theorem dX3_next_64 : decode cX3_next 64 = .ok (.invokevirtual 128, 3) := by decide +kernel
theorem dX3_next_67 : decode cX3_next 67 = .ok (.istore_n 1, 1) := by decide +kernel
theorem dX3_next_68 : decode cX3_next 68 = .ok (.iload_n 1, 1) := by decide +kernel
theorem dX3_next_69 : decode cX3_next 69 = .ok (.iconst (-1), 1) := by decide +kernel
theorem dX3_next_70 : decode cX3_next 70 = .ok (.if_icmp .ne 13, 3) := by decide +kernel
theorem dX3_next_73 : decode cX3_next 73 = .ok (.aload_n 0, 1) := by decide +kernel
theorem dX3_next_74 : decode cX3_next 74 = .ok (.sipush 131, 3) := by decide +kernel
theorem dX3_next_77 : decode cX3_next 77 = .ok (.putfield 43, 3) := by decide +kernel
theorem dX3_next_80 : decode cX3_next 80 = .ok (.goto 48, 3) := by decide +kernel
theorem dX3_next_83 : decode cX3_next 83 = .ok (.iload_n 1, 1) := by decide +kernel
theorem dX3_next_84 : decode cX3_next 84 = .ok (.invokestatic 132, 3) := by decide +kernel
theorem dX3_next_87 : decode cX3_next 87 = .ok (.ifCond .eq 14, 3) := by decide +kernel
theorem dX3_next_90 : decode cX3_next 90 = .ok (.aload_n 0, 1) := by decide +kernel
theorem dX3_next_91 : decode cX3_next 91 = .ok (.aload_n 0, 1) := by decide +kernel
theorem dX3_next_92 : decode cX3_next 92 = .ok (.invokevirtual 135, 3) := by decide +kernel
theorem dX3_next_95 : decode cX3_next 95 = .ok (.putfield 43, 3) := by decide +kernel
theorem dX3_next_98 : decode cX3_next 98 = .ok (.goto 30, 3) := by decide +kernel
theorem dX3_next_101 : decode cX3_next 101 = .ok (.iload_n 1, 1) := by decide +kernel
theorem dX3_next_102 : decode cX3_next 102 = .ok (.invokestatic 139, 3) := by decide +kernel
theorem dX3_next_105 : decode cX3_next 105 = .ok (.ifCond .eq 14, 3) := by decide +kernel
theorem dX3_next_108 : decode cX3_next 108 = .ok (.aload_n 0, 1) := by decide +kernel
theorem dX3_next_109 : decode cX3_next 109 = .ok (.aload_n 0, 1) := by decide +kernel
theorem dX3_next_110 : decode cX3_next 110 = .ok (.invokevirtual 142, 3) := by decide +kernel
theorem dX3_next_113 : decode cX3_next 113 = .ok (.putfield 43, 3) := by decide +kernel
theorem dX3_next_116 : decode cX3_next 116 = .ok (.goto 12, 3) := by decide +kernel
theorem dX3_next_119 : decode cX3_next 119 = .ok (.aload_n 0, 1) := by decide +kernel
theorem dX3_next_120 : decode cX3_next 120 = .ok (.aload_n 0, 1) := by decide +kernel
theorem dX3_next_121 : decode cX3_next 121 = .ok (.iload_n 1, 1) := by decide +kernel
theorem dX3_next_122 : decode cX3_next 122 = .ok (.invokevirtual 145, 3) := by decide +kernel
theorem dX3_next_125 : decode cX3_next 125 = .ok (.putfield 43, 3) := by decide +kernel
theorem dX3_next_128 : decode cX3_next 128 = .ok (.return_, 1) := by decide +kernel
def Rd_next_35 (k2 : Int32 → Nm → Option Nm) (x1 : Int32) (ν : Nm) : Option Nm :=
  k2 (x1 + (1 : Int32)) (si ν 271 4 ((gi ν 271 4) + (1 : Int32)))
set_option maxRecDepth 100000 in
set_option maxHeartbeats 4000000 in
theorem t_Rd_next_35 {g : GG} {d : Nat} (hd0 : 7 ≤ d) {k2 : Int32 → Nm → Option Nm} (hk2 : ∀ (x1 : Int32) (ν : Nm) (r : Nm), k2 x1 ν = some r → Z g d (0, 0) mX3_next 333 0 0 2 [(0, .ref 271), (1, .int x1)] [] (zem ν) (zF g (none, zem r))) : ∀ (x1 : Int32) (ν : Nm) (r : Nm), Rd_next_35 k2 x1 ν = some r → Z g d (0, 0) mX3_next 333 0 0 35 [(0, .ref 271), (1, .int x1)] [] (zem ν) (zF g (none, zem r)) := by
  intro x1 ν r h
  unfold Rd_next_35 at h
  refine z_aload_n dX3_next_35 0 rfl ?_
  refine z_dup dX3_next_36 rfl ?_
  refine y_getI dX3_next_37 zk_271 flRX3_34 ?_
  refine z_iconst (M := mX3_next) (v := 1) dX3_next_40 rfl ?_
  refine z_iadd dX3_next_41 ?_
  refine y_putI dX3_next_42 zk_271 flRX3_34 ⟨rfl, rfl⟩ ?_
  refine z_iinc (M := mX3_next) (v := (x1 + (1 : Int32))) (lv2 := [(1, .int (x1 + (1 : Int32))), (0, .ref 271)]) dX3_next_45 1 rfl rfl (Nat.le_of_ble_eq_true rfl) rfl ?_
  refine z_goto 2 dX3_next_48 rfl ?_
  refine z_lv (lv2 := [(0, .ref 271), (1, .int (x1 + (1 : Int32)))]) [1, 0] rfl ?_
  exact hk2 (x1 + (1 : Int32)) (si ν 271 4 ((gi ν 271 4) + (1 : Int32))) _ h
def Rd_next_51 (ν : Nm) : Option Nm :=
  (Rd_byteAt (si ν 271 6 (gi ν 271 4)) (gi (si ν 271 6 (gi ν 271 4)) 271 4)).bind fun v1 =>
  (if ¬ v1 = (-1 : Int32) then
    (Rd_isLetter v1).bind fun v3 =>
    (if (b2i v3) = 0 then
      (Rd_isDigit v1).bind fun v5 =>
      (if (b2i v5) = 0 then
        (Rd_nextSign v1 (si ν 271 6 (gi ν 271 4))).bind fun v7 =>
        some (si v7.2 271 5 v7.1)
      else
        (Rd_nextNumber (si ν 271 6 (gi ν 271 4))).bind fun v8 =>
        some (si v8.2 271 5 v8.1))
    else
      (Rd_nextWord (si ν 271 6 (gi ν 271 4))).bind fun v9 =>
      some (si v9.2 271 5 v9.1))
  else
    some (si (si ν 271 6 (gi ν 271 4)) 271 5 (131 : Int32)))
set_option maxRecDepth 100000 in
set_option maxHeartbeats 4000000 in
theorem t_Rd_next_51 {g : GG} {d : Nat} (hd0 : 7 ≤ d) : ∀ (ν : Nm) (r : Nm), Rd_next_51 ν = some r → Z g d (0, 0) mX3_next 333 0 0 51 [(0, .ref 271)] [] (zem ν) (zF g (none, zem r)) := by
  intro ν r h
  unfold Rd_next_51 at h
  refine z_aload_n dX3_next_51 0 rfl ?_
  refine z_aload_n dX3_next_52 0 rfl ?_
  refine y_getI dX3_next_53 zk_271 flRX3_34 ?_
  refine y_putI dX3_next_56 zk_271 flRX3_125 ⟨rfl, rfl⟩ ?_
  refine z_aload_n dX3_next_59 0 rfl ?_
  refine z_aload_n dX3_next_60 0 rfl ?_
  refine y_getI dX3_next_61 zk_271 flRX3_34 ?_
  obtain ⟨v1, he1, h⟩ := obind h
  refine y_Vi (M := mX3_next) (Y := mX3_byteAt) (d2 := d - 1) (As := [.int (gi (si ν 271 6 (gi ν 271 4)) 271 4)]) (st := []) dX3_next_64 mlRX3_128 cv_X3_byteAt zk_271 (ct_Rd_byteAt (dle (Nat.le_of_ble_eq_true rfl) hd0) he1) (dps (Nat.le_of_ble_eq_true rfl) hd0) rfl rfl (Nat.le_of_ble_eq_true rfl) ?_
  refine z_istore_n (M := mX3_next) (lv2 := [(1, .int v1), (0, .ref 271)]) dX3_next_67 (Nat.le_of_ble_eq_true rfl) rfl ?_
  refine z_iload_n dX3_next_68 0 rfl ?_
  refine z_iconst (M := mX3_next) (v := -1) dX3_next_69 rfl ?_
  refine z_icmp_ne 83 dX3_next_70 rfl (fun hc2 => ?_) (fun hc2 => ?_)
  · replace h := oT hc2 h
    refine z_iload_n dX3_next_83 0 rfl ?_
    obtain ⟨v3, he3, h⟩ := obind h
    refine y_Si (M := mX3_next) (Y := mX3_isLetter) (d2 := d - 1) (As := [.int v1]) (st := []) dX3_next_84 mlRX3_132 cv_X3_isLetter (ct_Rd_isLetter (dle (Nat.le_of_ble_eq_true rfl) hd0) he3) (dps (Nat.le_of_ble_eq_true rfl) hd0) rfl rfl (Nat.le_of_ble_eq_true rfl) ?_
    refine z_if_eq 101 dX3_next_87 rfl (fun hc4 => ?_) (fun hc4 => ?_)
    · replace h := oT hc4 h
      refine z_iload_n dX3_next_101 0 rfl ?_
      obtain ⟨v5, he5, h⟩ := obind h
      refine y_Si (M := mX3_next) (Y := mX3_isDigit) (d2 := d - 1) (As := [.int v1]) (st := []) dX3_next_102 mlRX3_139 cv_X3_isDigit (ct_Rd_isDigit (dle (Nat.le_of_ble_eq_true rfl) hd0) he5) (dps (Nat.le_of_ble_eq_true rfl) hd0) rfl rfl (Nat.le_of_ble_eq_true rfl) ?_
      refine z_if_eq 119 dX3_next_105 rfl (fun hc6 => ?_) (fun hc6 => ?_)
      · replace h := oT hc6 h
        refine z_aload_n dX3_next_119 1 rfl ?_
        refine z_aload_n dX3_next_120 1 rfl ?_
        refine z_iload_n dX3_next_121 0 rfl ?_
        obtain ⟨v7, he7, h⟩ := obind h
        refine y_Vi (M := mX3_next) (Y := mX3_nextSign) (d2 := d - 1) (As := [.int v1]) (st := [.ref 271]) dX3_next_122 mlRX3_145 cv_X3_nextSign zk_271 (ct_Rd_nextSign (dle (Nat.le_of_ble_eq_true rfl) hd0) he7) (dps (Nat.le_of_ble_eq_true rfl) hd0) rfl rfl (Nat.le_of_ble_eq_true rfl) ?_
        refine y_putI dX3_next_125 zk_271 flRX3_43 ⟨rfl, rfl⟩ ?_
        cases h
        exact z_vret dX3_next_128 rfl
      · replace h := oF hc6 h
        refine z_aload_n dX3_next_108 1 rfl ?_
        refine z_aload_n dX3_next_109 1 rfl ?_
        obtain ⟨v8, he8, h⟩ := obind h
        refine y_Vi (M := mX3_next) (Y := mX3_nextNumber) (d2 := d - 1) (As := []) (st := [.ref 271]) dX3_next_110 mlRX3_142 cv_X3_nextNumber zk_271 (ct_Rd_nextNumber (dle (Nat.le_of_ble_eq_true rfl) hd0) he8) (dps (Nat.le_of_ble_eq_true rfl) hd0) rfl rfl (Nat.le_of_ble_eq_true rfl) ?_
        refine y_putI dX3_next_113 zk_271 flRX3_43 ⟨rfl, rfl⟩ ?_
        refine z_goto 128 dX3_next_116 rfl ?_
        cases h
        exact z_vret dX3_next_128 rfl
    · replace h := oF hc4 h
      refine z_aload_n dX3_next_90 1 rfl ?_
      refine z_aload_n dX3_next_91 1 rfl ?_
      obtain ⟨v9, he9, h⟩ := obind h
      refine y_Vi (M := mX3_next) (Y := mX3_nextWord) (d2 := d - 1) (As := []) (st := [.ref 271]) dX3_next_92 mlRX3_135 cv_X3_nextWord zk_271 (ct_Rd_nextWord (dle (Nat.le_of_ble_eq_true rfl) hd0) he9) (dps (Nat.le_of_ble_eq_true rfl) hd0) rfl rfl (Nat.le_of_ble_eq_true rfl) ?_
      refine y_putI dX3_next_95 zk_271 flRX3_43 ⟨rfl, rfl⟩ ?_
      refine z_goto 128 dX3_next_98 rfl ?_
      cases h
      exact z_vret dX3_next_128 rfl
  · replace h := oFn hc2 h
    refine z_aload_n dX3_next_73 1 rfl ?_
    refine z_sipush (M := mX3_next) (v := 131) dX3_next_74 rfl ?_
    refine y_putI dX3_next_77 zk_271 flRX3_43 ⟨rfl, rfl⟩ ?_
    refine z_goto 128 dX3_next_80 rfl ?_
    cases h
    exact z_vret dX3_next_128 rfl
def Rd_next_2 : Nat → Int32 → Nm → Option Nm
  | 0, _, _ => none
  | f + 1, x1, ν =>
    (if (300 : Int32) ≤ x1 then
      Rd_next_51 ν
    else
      (Rd_byteAt ν (gi ν 271 4)).bind fun v2 =>
      (if v2 = (32 : Int32) then
        Rd_next_35 (Rd_next_2 f) x1 ν
      else
        (Rd_byteAt ν (gi ν 271 4)).bind fun v4 =>
        (if ¬ v4 = (10 : Int32) then
          Rd_next_51 ν
        else
          Rd_next_35 (Rd_next_2 f) x1 ν)))
set_option maxRecDepth 100000 in
set_option maxHeartbeats 4000000 in
theorem t_Rd_next_2 {g : GG} {d : Nat} (hd0 : 7 ≤ d) : ∀ (f : Nat), ∀ (x1 : Int32) (ν : Nm) (r : Nm), Rd_next_2 f x1 ν = some r → Z g d (0, 0) mX3_next 333 0 0 2 [(0, .ref 271), (1, .int x1)] [] (zem ν) (zF g (none, zem r)) := by
  intro f
  induction f with
  | zero =>
    intro x1 ν r h
    cases h
  | succ f ih =>
    intro x1 ν r h
    rw [Rd_next_2] at h
    refine z_iload_n dX3_next_2 1 rfl ?_
    refine z_sipush (M := mX3_next) (v := 300) dX3_next_3 rfl ?_
    refine z_icmp_ge 51 dX3_next_6 rfl (fun hc1 => ?_) (fun hc1 => ?_)
    · replace h := oT hc1 h
      refine z_lv (lv2 := [(0, .ref 271)]) [0] rfl ?_
      exact t_Rd_next_51 hd0  ν _ h
    · replace h := oF hc1 h
      refine z_aload_n dX3_next_9 0 rfl ?_
      refine z_aload_n dX3_next_10 0 rfl ?_
      refine y_getI dX3_next_11 zk_271 flRX3_34 ?_
      obtain ⟨v2, he2, h⟩ := obind h
      refine y_Vi (M := mX3_next) (Y := mX3_byteAt) (d2 := d - 1) (As := [.int (gi ν 271 4)]) (st := []) dX3_next_14 mlRX3_128 cv_X3_byteAt zk_271 (ct_Rd_byteAt (dle (Nat.le_of_ble_eq_true rfl) hd0) he2) (dps (Nat.le_of_ble_eq_true rfl) hd0) rfl rfl (Nat.le_of_ble_eq_true rfl) ?_
      refine z_bipush (M := mX3_next) (v := 32) dX3_next_17 rfl ?_
      refine z_icmp_eq 35 dX3_next_19 rfl (fun hc3 => ?_) (fun hc3 => ?_)
      · replace h := oT hc3 h
        exact t_Rd_next_35 hd0 ih x1 ν _ h
      · replace h := oF hc3 h
        refine z_aload_n dX3_next_22 0 rfl ?_
        refine z_aload_n dX3_next_23 0 rfl ?_
        refine y_getI dX3_next_24 zk_271 flRX3_34 ?_
        obtain ⟨v4, he4, h⟩ := obind h
        refine y_Vi (M := mX3_next) (Y := mX3_byteAt) (d2 := d - 1) (As := [.int (gi ν 271 4)]) (st := []) dX3_next_27 mlRX3_128 cv_X3_byteAt zk_271 (ct_Rd_byteAt (dle (Nat.le_of_ble_eq_true rfl) hd0) he4) (dps (Nat.le_of_ble_eq_true rfl) hd0) rfl rfl (Nat.le_of_ble_eq_true rfl) ?_
        refine z_bipush (M := mX3_next) (v := 10) dX3_next_30 rfl ?_
        refine z_icmp_ne 51 dX3_next_32 rfl (fun hc5 => ?_) (fun hc5 => ?_)
        · replace h := oT hc5 h
          refine z_lv (lv2 := [(0, .ref 271)]) [0] rfl ?_
          exact t_Rd_next_51 hd0  ν _ h
        · replace h := oFn hc5 h
          exact t_Rd_next_35 hd0 ih x1 ν _ h
def Rd_next (ν : Nm) : Option Nm :=
  Rd_next_2 FU (0 : Int32) ν
set_option maxRecDepth 100000 in
set_option maxHeartbeats 4000000 in
theorem t_Rd_next {g : GG} {d : Nat} (hd0 : 7 ≤ d) : ∀ (ν : Nm) (r : Nm), Rd_next ν = some r → Z g d (0, 0) mX3_next 333 0 0 0 [(0, .ref 271)] [] (zem ν) (zF g (none, zem r)) := by
  intro ν r h
  unfold Rd_next at h
  refine z_iconst (M := mX3_next) (v := 0) dX3_next_0 rfl ?_
  refine z_istore_n (M := mX3_next) (lv2 := [(1, .int (0 : Int32)), (0, .ref 271)]) dX3_next_1 (Nat.le_of_ble_eq_true rfl) rfl ?_
  refine z_lv (lv2 := [(0, .ref 271), (1, .int (0 : Int32))]) [1, 0] rfl ?_
  exact t_Rd_next_2 hd0 FU (0 : Int32) ν _ h
theorem ct_Rd_next {g : GG} {d : Nat} {ν : Nm} {r : Nm} (hd0 : 7 ≤ d)  (h : Rd_next ν = some r) : Ct g d mX3_next [.ref 271] (zem ν) (none, zem r) := y_entry in_X3_next (Nat.le_of_ble_eq_true rfl) rfl (t_Rd_next hd0 ν r h)
-- FuseMinutes$Reader.fail(I)V
theorem dX3_fail_0 : decode cX3_fail 0 = .ok (.aload_n 0, 1) := by decide +kernel
theorem dX3_fail_1 : decode cX3_fail 1 = .ok (.getfield 15, 3) := by decide +kernel
theorem dX3_fail_4 : decode cX3_fail 4 = .ok (.ifCond .ne 16, 3) := by decide +kernel
theorem dX3_fail_7 : decode cX3_fail 7 = .ok (.aload_n 0, 1) := by decide +kernel
theorem dX3_fail_8 : decode cX3_fail 8 = .ok (.iload_n 1, 1) := by decide +kernel
theorem dX3_fail_9 : decode cX3_fail 9 = .ok (.putfield 15, 3) := by decide +kernel
theorem dX3_fail_12 : decode cX3_fail 12 = .ok (.aload_n 0, 1) := by decide +kernel
theorem dX3_fail_13 : decode cX3_fail 13 = .ok (.aload_n 0, 1) := by decide +kernel
theorem dX3_fail_14 : decode cX3_fail 14 = .ok (.getfield 125, 3) := by decide +kernel
theorem dX3_fail_17 : decode cX3_fail 17 = .ok (.putfield 19, 3) := by decide +kernel
theorem dX3_fail_20 : decode cX3_fail 20 = .ok (.aload_n 0, 1) := by decide +kernel
theorem dX3_fail_21 : decode cX3_fail 21 = .ok (.aload_n 0, 1) := by decide +kernel
theorem dX3_fail_22 : decode cX3_fail 22 = .ok (.getfield 22, 3) := by decide +kernel
theorem dX3_fail_25 : decode cX3_fail 25 = .ok (.putfield 34, 3) := by decide +kernel
theorem dX3_fail_28 : decode cX3_fail 28 = .ok (.aload_n 0, 1) := by decide +kernel
theorem dX3_fail_29 : decode cX3_fail 29 = .ok (.sipush 131, 3) := by decide +kernel
theorem dX3_fail_32 : decode cX3_fail 32 = .ok (.putfield 43, 3) := by decide +kernel
theorem dX3_fail_35 : decode cX3_fail 35 = .ok (.return_, 1) := by decide +kernel
def Rd_fail_20 (ν : Nm) : Option Nm :=
  some (si (si ν 271 4 (gi ν 271 1)) 271 5 (131 : Int32))
set_option maxRecDepth 100000 in
set_option maxHeartbeats 4000000 in
theorem t_Rd_fail_20 {g : GG} {d : Nat} (hd0 : 1 ≤ d) : ∀ (ν : Nm) (r : Nm), Rd_fail_20 ν = some r → Z g d (0, 0) mX3_fail 333 0 0 20 [(0, .ref 271)] [] (zem ν) (zF g (none, zem r)) := by
  intro ν r h
  unfold Rd_fail_20 at h
  refine z_aload_n dX3_fail_20 0 rfl ?_
  refine z_aload_n dX3_fail_21 0 rfl ?_
  refine y_getI dX3_fail_22 zk_271 flRX3_22 ?_
  refine y_putI dX3_fail_25 zk_271 flRX3_34 ⟨rfl, rfl⟩ ?_
  refine z_aload_n dX3_fail_28 0 rfl ?_
  refine z_sipush (M := mX3_fail) (v := 131) dX3_fail_29 rfl ?_
  refine y_putI dX3_fail_32 zk_271 flRX3_43 ⟨rfl, rfl⟩ ?_
  cases h
  exact z_vret dX3_fail_35 rfl
def Rd_fail (x1 : Int32) (ν : Nm) : Option Nm :=
  (if ¬ (gi ν 271 2) = 0 then
    Rd_fail_20 ν
  else
    Rd_fail_20 (si (si ν 271 2 x1) 271 3 (gi (si ν 271 2 x1) 271 6)))
set_option maxRecDepth 100000 in
set_option maxHeartbeats 4000000 in
theorem t_Rd_fail {g : GG} {d : Nat} (hd0 : 1 ≤ d) : ∀ (x1 : Int32) (ν : Nm) (r : Nm), Rd_fail x1 ν = some r → Z g d (0, 0) mX3_fail 333 0 0 0 [(0, .ref 271), (1, .int x1)] [] (zem ν) (zF g (none, zem r)) := by
  intro x1 ν r h
  unfold Rd_fail at h
  refine z_aload_n dX3_fail_0 0 rfl ?_
  refine y_getI dX3_fail_1 zk_271 flRX3_15 ?_
  refine z_if_ne 20 dX3_fail_4 rfl (fun hc1 => ?_) (fun hc1 => ?_)
  · replace h := oT hc1 h
    refine z_lv (lv2 := [(0, .ref 271)]) [0] rfl ?_
    exact t_Rd_fail_20 hd0  ν _ h
  · replace h := oFn hc1 h
    refine z_aload_n dX3_fail_7 0 rfl ?_
    refine z_iload_n dX3_fail_8 1 rfl ?_
    refine y_putI dX3_fail_9 zk_271 flRX3_15 ⟨rfl, rfl⟩ ?_
    refine z_aload_n dX3_fail_12 0 rfl ?_
    refine z_aload_n dX3_fail_13 0 rfl ?_
    refine y_getI dX3_fail_14 zk_271 flRX3_125 ?_
    refine y_putI dX3_fail_17 zk_271 flRX3_19 ⟨rfl, rfl⟩ ?_
    refine z_lv (lv2 := [(0, .ref 271)]) [0] rfl ?_
    exact t_Rd_fail_20 hd0  (si (si ν 271 2 x1) 271 3 (gi (si ν 271 2 x1) 271 6)) _ h
theorem ct_Rd_fail {g : GG} {d : Nat} {x1 : Int32} {ν : Nm} {r : Nm} (hd0 : 1 ≤ d)  (h : Rd_fail x1 ν = some r) : Ct g d mX3_fail [.ref 271, .int x1] (zem ν) (none, zem r) := y_entry in_X3_fail (Nat.le_of_ble_eq_true rfl) rfl (t_Rd_fail hd0 x1 ν r h)
-- FuseMinutes$Reader.expect(I)V
theorem dX3_expect_0 : decode cX3_expect 0 = .ok (.aload_n 0, 1) := by decide +kernel
theorem dX3_expect_1 : decode cX3_expect 1 = .ok (.getfield 43, 3) := by decide +kernel
theorem dX3_expect_4 : decode cX3_expect 4 = .ok (.iload_n 1, 1) := by decide +kernel
theorem dX3_expect_5 : decode cX3_expect 5 = .ok (.if_icmp .ne 10, 3) := by decide +kernel
theorem dX3_expect_8 : decode cX3_expect 8 = .ok (.aload_n 0, 1) := by decide +kernel
theorem dX3_expect_9 : decode cX3_expect 9 = .ok (.invokevirtual 40, 3) := by decide +kernel
theorem dX3_expect_12 : decode cX3_expect 12 = .ok (.goto 8, 3) := by decide +kernel
theorem dX3_expect_15 : decode cX3_expect 15 = .ok (.aload_n 0, 1) := by decide +kernel
theorem dX3_expect_16 : decode cX3_expect 16 = .ok (.iconst 1, 1) := by decide +kernel
theorem dX3_expect_17 : decode cX3_expect 17 = .ok (.invokevirtual 50, 3) := by decide +kernel
theorem dX3_expect_20 : decode cX3_expect 20 = .ok (.return_, 1) := by decide +kernel
def Rd_expect (x1 : Int32) (ν : Nm) : Option Nm :=
  (if ¬ (gi ν 271 5) = x1 then
    (Rd_fail (1 : Int32) ν).bind fun v2 =>
    some v2
  else
    (Rd_next ν).bind fun v3 =>
    some v3)
set_option maxRecDepth 100000 in
set_option maxHeartbeats 4000000 in
theorem t_Rd_expect {g : GG} {d : Nat} (hd0 : 8 ≤ d) : ∀ (x1 : Int32) (ν : Nm) (r : Nm), Rd_expect x1 ν = some r → Z g d (0, 0) mX3_expect 333 0 0 0 [(0, .ref 271), (1, .int x1)] [] (zem ν) (zF g (none, zem r)) := by
  intro x1 ν r h
  unfold Rd_expect at h
  refine z_aload_n dX3_expect_0 0 rfl ?_
  refine y_getI dX3_expect_1 zk_271 flRX3_43 ?_
  refine z_iload_n dX3_expect_4 1 rfl ?_
  refine z_icmp_ne 15 dX3_expect_5 rfl (fun hc1 => ?_) (fun hc1 => ?_)
  · replace h := oT hc1 h
    refine z_aload_n dX3_expect_15 0 rfl ?_
    refine z_iconst (M := mX3_expect) (v := 1) dX3_expect_16 rfl ?_
    obtain ⟨v2, he2, h⟩ := obind h
    refine y_Vv (M := mX3_expect) (Y := mX3_fail) (d2 := d - 1) (As := [.int (1 : Int32)]) (st := []) dX3_expect_17 mlRX3_50 cv_X3_fail zk_271 (ct_Rd_fail (dle (Nat.le_of_ble_eq_true rfl) hd0) he2) (dps (Nat.le_of_ble_eq_true rfl) hd0) rfl rfl (Nat.le_of_ble_eq_true rfl) ?_
    cases h
    exact z_vret dX3_expect_20 rfl
  · replace h := oFn hc1 h
    refine z_aload_n dX3_expect_8 0 rfl ?_
    obtain ⟨v3, he3, h⟩ := obind h
    refine y_Vv (M := mX3_expect) (Y := mX3_next) (d2 := d - 1) (As := []) (st := []) dX3_expect_9 mlRX3_40 cv_X3_next zk_271 (ct_Rd_next (dle (Nat.le_of_ble_eq_true rfl) hd0) he3) (dps (Nat.le_of_ble_eq_true rfl) hd0) rfl rfl (Nat.le_of_ble_eq_true rfl) ?_
    refine z_goto 20 dX3_expect_12 rfl ?_
    cases h
    exact z_vret dX3_expect_20 rfl
theorem ct_Rd_expect {g : GG} {d : Nat} {x1 : Int32} {ν : Nm} {r : Nm} (hd0 : 8 ≤ d)  (h : Rd_expect x1 ν = some r) : Ct g d mX3_expect [.ref 271, .int x1] (zem ν) (none, zem r) := y_entry in_X3_expect (Nat.le_of_ble_eq_true rfl) rfl (t_Rd_expect hd0 x1 ν r h)
-- FuseMinutes$Reader.readNumber(II)I
theorem dX3_readNumber_0 : decode cX3_readNumber 0 = .ok (.aload_n 0, 1) := by decide +kernel
theorem dX3_readNumber_1 : decode cX3_readNumber 1 = .ok (.getfield 84, 3) := by decide +kernel
theorem dX3_readNumber_4 : decode cX3_readNumber 4 = .ok (.istore_n 3, 1) := by decide +kernel
theorem dX3_readNumber_5 : decode cX3_readNumber 5 = .ok (.aload_n 0, 1) := by decide +kernel
theorem dX3_readNumber_6 : decode cX3_readNumber 6 = .ok (.getfield 43, 3) := by decide +kernel
theorem dX3_readNumber_9 : decode cX3_readNumber 9 = .ok (.iconst 1, 1) := by decide +kernel
theorem dX3_readNumber_10 : decode cX3_readNumber 10 = .ok (.if_icmp .eq 11, 3) := by decide +kernel
theorem dX3_readNumber_13 : decode cX3_readNumber 13 = .ok (.aload_n 0, 1) := by decide +kernel
theorem dX3_readNumber_14 : decode cX3_readNumber 14 = .ok (.iconst 1, 1) := by decide +kernel
theorem dX3_readNumber_15 : decode cX3_readNumber 15 = .ok (.invokevirtual 50, 3) := by decide +kernel
theorem dX3_readNumber_18 : decode cX3_readNumber 18 = .ok (.goto 24, 3) := by decide +kernel
theorem dX3_readNumber_21 : decode cX3_readNumber 21 = .ok (.iload_n 3, 1) := by decide +kernel
theorem dX3_readNumber_22 : decode cX3_readNumber 22 = .ok (.iload_n 1, 1) := by decide +kernel
theorem dX3_readNumber_23 : decode cX3_readNumber 23 = .ok (.iload_n 2, 1) := by decide +kernel
theorem dX3_readNumber_24 : decode cX3_readNumber 24 = .ok (.invokestatic 87, 3) := by decide +kernel
theorem dX3_readNumber_27 : decode cX3_readNumber 27 = .ok (.ifCond .ne 11, 3) := by decide +kernel
theorem dX3_readNumber_30 : decode cX3_readNumber 30 = .ok (.aload_n 0, 1) := by decide +kernel
theorem dX3_readNumber_31 : decode cX3_readNumber 31 = .ok (.iconst 2, 1) := by decide +kernel
theorem dX3_readNumber_32 : decode cX3_readNumber 32 = .ok (.invokevirtual 50, 3) := by decide +kernel
theorem dX3_readNumber_35 : decode cX3_readNumber 35 = .ok (.goto 7, 3) := by decide +kernel
theorem dX3_readNumber_38 : decode cX3_readNumber 38 = .ok (.aload_n 0, 1) := by decide +kernel
theorem dX3_readNumber_39 : decode cX3_readNumber 39 = .ok (.invokevirtual 40, 3) := by decide +kernel
theorem dX3_readNumber_42 : decode cX3_readNumber 42 = .ok (.iload_n 3, 1) := by decide +kernel
theorem dX3_readNumber_43 : decode cX3_readNumber 43 = .ok (.ireturn, 1) := by decide +kernel
def Rd_readNumber (x1 : Int32) (x2 : Int32) (ν : Nm) : Option (Int32 × Nm) :=
  (if (gi ν 271 5) = (1 : Int32) then
    (Fm_within (gi ν 271 7) x1 x2).bind fun v2 =>
    (if ¬ (b2i v2) = 0 then
      (Rd_next ν).bind fun v4 =>
      some ((gi ν 271 7), v4)
    else
      (Rd_fail (2 : Int32) ν).bind fun v5 =>
      some ((gi ν 271 7), v5))
  else
    (Rd_fail (1 : Int32) ν).bind fun v6 =>
    some ((gi ν 271 7), v6))
set_option maxRecDepth 100000 in
set_option maxHeartbeats 4000000 in
theorem t_Rd_readNumber {g : GG} {d : Nat} (hd0 : 8 ≤ d) : ∀ (x1 : Int32) (x2 : Int32) (ν : Nm) (r : (Int32 × Nm)), Rd_readNumber x1 x2 ν = some r → Z g d (0, 0) mX3_readNumber 333 0 0 0 [(0, .ref 271), (1, .int x1), (2, .int x2)] [] (zem ν) (zF g (some (.int r.1), zem r.2)) := by
  intro x1 x2 ν r h
  unfold Rd_readNumber at h
  refine z_aload_n dX3_readNumber_0 0 rfl ?_
  refine y_getI dX3_readNumber_1 zk_271 flRX3_84 ?_
  refine z_istore_n (M := mX3_readNumber) (lv2 := [(3, .int (gi ν 271 7)), (0, .ref 271), (1, .int x1), (2, .int x2)]) dX3_readNumber_4 (Nat.le_of_ble_eq_true rfl) rfl ?_
  refine z_aload_n dX3_readNumber_5 1 rfl ?_
  refine y_getI dX3_readNumber_6 zk_271 flRX3_43 ?_
  refine z_iconst (M := mX3_readNumber) (v := 1) dX3_readNumber_9 rfl ?_
  refine z_icmp_eq 21 dX3_readNumber_10 rfl (fun hc1 => ?_) (fun hc1 => ?_)
  · replace h := oT hc1 h
    refine z_iload_n dX3_readNumber_21 0 rfl ?_
    refine z_iload_n dX3_readNumber_22 2 rfl ?_
    refine z_iload_n dX3_readNumber_23 3 rfl ?_
    obtain ⟨v2, he2, h⟩ := obind h
    refine y_Ni (M := mX3_readNumber) (Y := mX11_within) (d2 := d - 1) (As := [.int (gi ν 271 7), .int x1, .int x2]) (st := []) dX3_readNumber_24 nlRX3_87 cv_X11_within (ct_Fm_within (dle (Nat.le_of_ble_eq_true rfl) hd0) he2) (dps (Nat.le_of_ble_eq_true rfl) hd0) rfl rfl (Nat.le_of_ble_eq_true rfl) ?_
    refine z_if_ne 38 dX3_readNumber_27 rfl (fun hc3 => ?_) (fun hc3 => ?_)
    · replace h := oT hc3 h
      refine z_aload_n dX3_readNumber_38 1 rfl ?_
      obtain ⟨v4, he4, h⟩ := obind h
      refine y_Vv (M := mX3_readNumber) (Y := mX3_next) (d2 := d - 1) (As := []) (st := []) dX3_readNumber_39 mlRX3_40 cv_X3_next zk_271 (ct_Rd_next (dle (Nat.le_of_ble_eq_true rfl) hd0) he4) (dps (Nat.le_of_ble_eq_true rfl) hd0) rfl rfl (Nat.le_of_ble_eq_true rfl) ?_
      refine z_iload_n dX3_readNumber_42 0 rfl ?_
      cases h
      exact z_iret dX3_readNumber_43 rfl
    · replace h := oFn hc3 h
      refine z_aload_n dX3_readNumber_30 1 rfl ?_
      refine z_iconst (M := mX3_readNumber) (v := 2) dX3_readNumber_31 rfl ?_
      obtain ⟨v5, he5, h⟩ := obind h
      refine y_Vv (M := mX3_readNumber) (Y := mX3_fail) (d2 := d - 1) (As := [.int (2 : Int32)]) (st := []) dX3_readNumber_32 mlRX3_50 cv_X3_fail zk_271 (ct_Rd_fail (dle (Nat.le_of_ble_eq_true rfl) hd0) he5) (dps (Nat.le_of_ble_eq_true rfl) hd0) rfl rfl (Nat.le_of_ble_eq_true rfl) ?_
      refine z_goto 42 dX3_readNumber_35 rfl ?_
      refine z_iload_n dX3_readNumber_42 0 rfl ?_
      cases h
      exact z_iret dX3_readNumber_43 rfl
  · replace h := oF hc1 h
    refine z_aload_n dX3_readNumber_13 1 rfl ?_
    refine z_iconst (M := mX3_readNumber) (v := 1) dX3_readNumber_14 rfl ?_
    obtain ⟨v6, he6, h⟩ := obind h
    refine y_Vv (M := mX3_readNumber) (Y := mX3_fail) (d2 := d - 1) (As := [.int (1 : Int32)]) (st := []) dX3_readNumber_15 mlRX3_50 cv_X3_fail zk_271 (ct_Rd_fail (dle (Nat.le_of_ble_eq_true rfl) hd0) he6) (dps (Nat.le_of_ble_eq_true rfl) hd0) rfl rfl (Nat.le_of_ble_eq_true rfl) ?_
    refine z_goto 42 dX3_readNumber_18 rfl ?_
    refine z_iload_n dX3_readNumber_42 0 rfl ?_
    cases h
    exact z_iret dX3_readNumber_43 rfl
theorem ct_Rd_readNumber {g : GG} {d : Nat} {x1 : Int32} {x2 : Int32} {ν : Nm} {r : (Int32 × Nm)} (hd0 : 8 ≤ d)  (h : Rd_readNumber x1 x2 ν = some r) : Ct g d mX3_readNumber [.ref 271, .int x1, .int x2] (zem ν) (some (.int r.1), zem r.2) := y_entry in_X3_readNumber (Nat.le_of_ble_eq_true rfl) rfl (t_Rd_readNumber hd0 x1 x2 ν r h)
-- FuseMinutes$Reader.readAct(I)V
theorem dX3_readAct_0 : decode cX3_readAct 0 = .ok (.iconst 0, 1) := by decide +kernel
theorem dX3_readAct_1 : decode cX3_readAct 1 = .ok (.istore_n 2, 1) := by decide +kernel
theorem dX3_readAct_2 : decode cX3_readAct 2 = .ok (.iconst 0, 1) := by decide +kernel
theorem dX3_readAct_3 : decode cX3_readAct 3 = .ok (.istore_n 3, 1) := by decide +kernel
theorem dX3_readAct_4 : decode cX3_readAct 4 = .ok (.iload_n 1, 1) := by decide +kernel
theorem dX3_readAct_5 : decode cX3_readAct 5 = .ok (.iconst 4, 1) := by decide +kernel
theorem dX3_readAct_6 : decode cX3_readAct 6 = .ok (.if_icmp .ne 27, 3) := by decide +kernel
theorem dX3_readAct_9 : decode cX3_readAct 9 = .ok (.aload_n 0, 1) := by decide +kernel
theorem dX3_readAct_10 : decode cX3_readAct 10 = .ok (.iconst 1, 1) := by decide +kernel
theorem dX3_readAct_11 : decode cX3_readAct 11 = .ok (.bipush 60, 2) := by decide +kernel
theorem dX3_readAct_13 : decode cX3_readAct 13 = .ok (.invokevirtual 80, 3) := by decide +kernel
theorem dX3_readAct_16 : decode cX3_readAct 16 = .ok (.istore_n 2, 1) := by decide +kernel
theorem dX3_readAct_17 : decode cX3_readAct 17 = .ok (.aload_n 0, 1) := by decide +kernel
theorem dX3_readAct_18 : decode cX3_readAct 18 = .ok (.iconst 5, 1) := by decide +kernel
theorem dX3_readAct_19 : decode cX3_readAct 19 = .ok (.invokevirtual 77, 3) := by decide +kernel
theorem dX3_readAct_22 : decode cX3_readAct 22 = .ok (.aload_n 0, 1) := by decide +kernel
theorem dX3_readAct_23 : decode cX3_readAct 23 = .ok (.iconst 0, 1) := by decide +kernel
theorem dX3_readAct_24 : decode cX3_readAct 24 = .ok (.bipush 99, 2) := by decide +kernel
theorem dX3_readAct_26 : decode cX3_readAct 26 = .ok (.invokevirtual 80, 3) := by decide +kernel
theorem dX3_readAct_29 : decode cX3_readAct 29 = .ok (.istore_n 3, 1) := by decide +kernel
theorem dX3_readAct_30 : decode cX3_readAct 30 = .ok (.goto 50, 3) := by decide +kernel
theorem dX3_readAct_33 : decode cX3_readAct 33 = .ok (.iload_n 1, 1) := by decide +kernel
theorem dX3_readAct_34 : decode cX3_readAct 34 = .ok (.bipush 6, 2) := by decide +kernel
theorem dX3_readAct_36 : decode cX3_readAct 36 = .ok (.if_icmp .ne 14, 3) := by decide +kernel
theorem dX3_readAct_39 : decode cX3_readAct 39 = .ok (.aload_n 0, 1) := by decide +kernel
theorem dX3_readAct_40 : decode cX3_readAct 40 = .ok (.iconst 1, 1) := by decide +kernel
theorem dX3_readAct_41 : decode cX3_readAct 41 = .ok (.bipush 8, 2) := by decide +kernel
theorem dX3_readAct_43 : decode cX3_readAct 43 = .ok (.invokevirtual 80, 3) := by decide +kernel
theorem dX3_readAct_46 : decode cX3_readAct 46 = .ok (.istore_n 2, 1) := by decide +kernel
theorem dX3_readAct_47 : decode cX3_readAct 47 = .ok (.goto 33, 3) := by decide +kernel
theorem dX3_readAct_50 : decode cX3_readAct 50 = .ok (.iload_n 1, 1) := by decide +kernel
theorem dX3_readAct_51 : decode cX3_readAct 51 = .ok (.bipush 12, 2) := by decide +kernel
theorem dX3_readAct_53 : decode cX3_readAct 53 = .ok (.if_icmp .ne 14, 3) := by decide +kernel
theorem dX3_readAct_56 : decode cX3_readAct 56 = .ok (.aload_n 0, 1) := by decide +kernel
theorem dX3_readAct_57 : decode cX3_readAct 57 = .ok (.iconst 1, 1) := by decide +kernel
theorem dX3_readAct_58 : decode cX3_readAct 58 = .ok (.bipush 60, 2) := by decide +kernel
theorem dX3_readAct_60 : decode cX3_readAct 60 = .ok (.invokevirtual 80, 3) := by decide +kernel
theorem dX3_readAct_63 : decode cX3_readAct 63 = .ok (.istore_n 2, 1) := by decide +kernel
theorem dX3_readAct_64 : decode cX3_readAct 64 = .ok (.goto 16, 3) := by decide +kernel
theorem dX3_readAct_67 : decode cX3_readAct 67 = .ok (.iload_n 1, 1) := by decide +kernel
theorem dX3_readAct_68 : decode cX3_readAct 68 = .ok (.bipush 11, 2) := by decide +kernel
theorem dX3_readAct_70 : decode cX3_readAct 70 = .ok (.if_icmp .eq 10, 3) := by decide +kernel
theorem dX3_readAct_73 : decode cX3_readAct 73 = .ok (.aload_n 0, 1) := by decide +kernel
theorem dX3_readAct_74 : decode cX3_readAct 74 = .ok (.iconst 0, 1) := by decide +kernel
theorem dX3_readAct_75 : decode cX3_readAct 75 = .ok (.iconst 3, 1) := by decide +kernel
theorem dX3_readAct_76 : decode cX3_readAct 76 = .ok (.invokevirtual 80, 3) := by decide +kernel
theorem dX3_readAct_79 : decode cX3_readAct 79 = .ok (.istore_n 2, 1) := by decide +kernel
theorem dX3_readAct_80 : decode cX3_readAct 80 = .ok (.aload_n 0, 1) := by decide +kernel
theorem dX3_readAct_81 : decode cX3_readAct 81 = .ok (.getfield 25, 3) := by decide +kernel
theorem dX3_readAct_84 : decode cX3_readAct 84 = .ok (.iload_n 1, 1) := by decide +kernel
theorem dX3_readAct_85 : decode cX3_readAct 85 = .ok (.iload_n 2, 1) := by decide +kernel
theorem dX3_readAct_86 : decode cX3_readAct 86 = .ok (.iload_n 3, 1) := by decide +kernel
theorem dX3_readAct_87 : decode cX3_readAct 87 = .ok (.invokevirtual 70, 3) := by decide +kernel
theorem dX3_readAct_90 : decode cX3_readAct 90 = .ok (.return_, 1) := by decide +kernel
def Rd_readAct_80 (x1 : Int32) (x2 : Int32) (x3 : Int32) (ν : Nm) : Option Nm :=
  if zkT (gx ν) then
  (Tx_addClause (gx ν) x1 x2 x3 ν).bind fun v2 =>
  some v2
  else none
set_option maxRecDepth 100000 in
set_option maxHeartbeats 4000000 in
theorem t_Rd_readAct_80 {g : GG} {d : Nat} (hd0 : 9 ≤ d) : ∀ (x1 : Int32) (x2 : Int32) (x3 : Int32) (ν : Nm) (r : Nm), Rd_readAct_80 x1 x2 x3 ν = some r → Z g d (0, 0) mX3_readAct 333 0 0 80 [(0, .ref 271), (1, .int x1), (2, .int x2), (3, .int x3)] [] (zem ν) (zF g (none, zem r)) := by
  intro x1 x2 x3 ν r h
  unfold Rd_readAct_80 at h
  refine z_aload_n dX3_readAct_80 0 rfl ?_
  obtain ⟨hT1, h⟩ := oif h
  refine y_getT dX3_readAct_81 zk_271 flRX3_25 (zkT_ok hT1) ?_
  refine z_iload_n dX3_readAct_84 1 rfl ?_
  refine z_iload_n dX3_readAct_85 2 rfl ?_
  refine z_iload_n dX3_readAct_86 3 rfl ?_
  obtain ⟨v2, he2, h⟩ := obind h
  refine y_Vv (M := mX3_readAct) (Y := mX9_addClause) (d2 := d - 1) (As := [.int x1, .int x2, .int x3]) (st := []) dX3_readAct_87 mlRX3_70 cv_X9_addClause (zkT_ok hT1) (ct_Tx_addClause (dle (Nat.le_of_ble_eq_true rfl) hd0) (zkT_ok hT1) he2) (dps (Nat.le_of_ble_eq_true rfl) hd0) rfl rfl (Nat.le_of_ble_eq_true rfl) ?_
  cases h
  exact z_vret dX3_readAct_90 rfl
def Rd_readAct (x1 : Int32) (ν : Nm) : Option Nm :=
  (if ¬ x1 = (4 : Int32) then
    (if ¬ x1 = (6 : Int32) then
      (if ¬ x1 = (12 : Int32) then
        (if x1 = (11 : Int32) then
          Rd_readAct_80 x1 (0 : Int32) (0 : Int32) ν
        else
          (Rd_readNumber (0 : Int32) (3 : Int32) ν).bind fun v5 =>
          Rd_readAct_80 x1 v5.1 (0 : Int32) v5.2)
      else
        (Rd_readNumber (1 : Int32) (60 : Int32) ν).bind fun v6 =>
        Rd_readAct_80 x1 v6.1 (0 : Int32) v6.2)
    else
      (Rd_readNumber (1 : Int32) (8 : Int32) ν).bind fun v7 =>
      Rd_readAct_80 x1 v7.1 (0 : Int32) v7.2)
  else
    (Rd_readNumber (1 : Int32) (60 : Int32) ν).bind fun v8 =>
    (Rd_expect (5 : Int32) v8.2).bind fun v9 =>
    (Rd_readNumber (0 : Int32) (99 : Int32) v9).bind fun v10 =>
    Rd_readAct_80 x1 v8.1 v10.1 v10.2)
set_option maxRecDepth 100000 in
set_option maxHeartbeats 4000000 in
theorem t_Rd_readAct {g : GG} {d : Nat} (hd0 : 9 ≤ d) : ∀ (x1 : Int32) (ν : Nm) (r : Nm), Rd_readAct x1 ν = some r → Z g d (0, 0) mX3_readAct 333 0 0 0 [(0, .ref 271), (1, .int x1)] [] (zem ν) (zF g (none, zem r)) := by
  intro x1 ν r h
  unfold Rd_readAct at h
  refine z_iconst (M := mX3_readAct) (v := 0) dX3_readAct_0 rfl ?_
  refine z_istore_n (M := mX3_readAct) (lv2 := [(2, .int (0 : Int32)), (0, .ref 271), (1, .int x1)]) dX3_readAct_1 (Nat.le_of_ble_eq_true rfl) rfl ?_
  refine z_iconst (M := mX3_readAct) (v := 0) dX3_readAct_2 rfl ?_
  refine z_istore_n (M := mX3_readAct) (lv2 := [(3, .int (0 : Int32)), (2, .int (0 : Int32)), (0, .ref 271), (1, .int x1)]) dX3_readAct_3 (Nat.le_of_ble_eq_true rfl) rfl ?_
  refine z_iload_n dX3_readAct_4 3 rfl ?_
  refine z_iconst (M := mX3_readAct) (v := 4) dX3_readAct_5 rfl ?_
  refine z_icmp_ne 33 dX3_readAct_6 rfl (fun hc1 => ?_) (fun hc1 => ?_)
  · replace h := oT hc1 h
    refine z_iload_n dX3_readAct_33 3 rfl ?_
    refine z_bipush (M := mX3_readAct) (v := 6) dX3_readAct_34 rfl ?_
    refine z_icmp_ne 50 dX3_readAct_36 rfl (fun hc2 => ?_) (fun hc2 => ?_)
    · replace h := oT hc2 h
      refine z_iload_n dX3_readAct_50 3 rfl ?_
      refine z_bipush (M := mX3_readAct) (v := 12) dX3_readAct_51 rfl ?_
      refine z_icmp_ne 67 dX3_readAct_53 rfl (fun hc3 => ?_) (fun hc3 => ?_)
      · replace h := oT hc3 h
        refine z_iload_n dX3_readAct_67 3 rfl ?_
        refine z_bipush (M := mX3_readAct) (v := 11) dX3_readAct_68 rfl ?_
        refine z_icmp_eq 80 dX3_readAct_70 rfl (fun hc4 => ?_) (fun hc4 => ?_)
        · replace h := oT hc4 h
          refine z_lv (lv2 := [(0, .ref 271), (1, .int x1), (2, .int (0 : Int32)), (3, .int (0 : Int32))]) [2, 3, 1, 0] rfl ?_
          exact t_Rd_readAct_80 hd0  x1 (0 : Int32) (0 : Int32) ν _ h
        · replace h := oF hc4 h
          refine z_aload_n dX3_readAct_73 2 rfl ?_
          refine z_iconst (M := mX3_readAct) (v := 0) dX3_readAct_74 rfl ?_
          refine z_iconst (M := mX3_readAct) (v := 3) dX3_readAct_75 rfl ?_
          obtain ⟨v5, he5, h⟩ := obind h
          refine y_Vi (M := mX3_readAct) (Y := mX3_readNumber) (d2 := d - 1) (As := [.int (0 : Int32), .int (3 : Int32)]) (st := []) dX3_readAct_76 mlRX3_80 cv_X3_readNumber zk_271 (ct_Rd_readNumber (dle (Nat.le_of_ble_eq_true rfl) hd0) he5) (dps (Nat.le_of_ble_eq_true rfl) hd0) rfl rfl (Nat.le_of_ble_eq_true rfl) ?_
          refine z_istore_n (M := mX3_readAct) (lv2 := [(2, .int v5.1), (3, .int (0 : Int32)), (0, .ref 271), (1, .int x1)]) dX3_readAct_79 (Nat.le_of_ble_eq_true rfl) rfl ?_
          refine z_lv (lv2 := [(0, .ref 271), (1, .int x1), (2, .int v5.1), (3, .int (0 : Int32))]) [2, 3, 0, 1] rfl ?_
          exact t_Rd_readAct_80 hd0  x1 v5.1 (0 : Int32) v5.2 _ h
      · replace h := oFn hc3 h
        refine z_aload_n dX3_readAct_56 2 rfl ?_
        refine z_iconst (M := mX3_readAct) (v := 1) dX3_readAct_57 rfl ?_
        refine z_bipush (M := mX3_readAct) (v := 60) dX3_readAct_58 rfl ?_
        obtain ⟨v6, he6, h⟩ := obind h
        refine y_Vi (M := mX3_readAct) (Y := mX3_readNumber) (d2 := d - 1) (As := [.int (1 : Int32), .int (60 : Int32)]) (st := []) dX3_readAct_60 mlRX3_80 cv_X3_readNumber zk_271 (ct_Rd_readNumber (dle (Nat.le_of_ble_eq_true rfl) hd0) he6) (dps (Nat.le_of_ble_eq_true rfl) hd0) rfl rfl (Nat.le_of_ble_eq_true rfl) ?_
        refine z_istore_n (M := mX3_readAct) (lv2 := [(2, .int v6.1), (3, .int (0 : Int32)), (0, .ref 271), (1, .int x1)]) dX3_readAct_63 (Nat.le_of_ble_eq_true rfl) rfl ?_
        refine z_goto 80 dX3_readAct_64 rfl ?_
        refine z_lv (lv2 := [(0, .ref 271), (1, .int x1), (2, .int v6.1), (3, .int (0 : Int32))]) [2, 3, 0, 1] rfl ?_
        exact t_Rd_readAct_80 hd0  x1 v6.1 (0 : Int32) v6.2 _ h
    · replace h := oFn hc2 h
      refine z_aload_n dX3_readAct_39 2 rfl ?_
      refine z_iconst (M := mX3_readAct) (v := 1) dX3_readAct_40 rfl ?_
      refine z_bipush (M := mX3_readAct) (v := 8) dX3_readAct_41 rfl ?_
      obtain ⟨v7, he7, h⟩ := obind h
      refine y_Vi (M := mX3_readAct) (Y := mX3_readNumber) (d2 := d - 1) (As := [.int (1 : Int32), .int (8 : Int32)]) (st := []) dX3_readAct_43 mlRX3_80 cv_X3_readNumber zk_271 (ct_Rd_readNumber (dle (Nat.le_of_ble_eq_true rfl) hd0) he7) (dps (Nat.le_of_ble_eq_true rfl) hd0) rfl rfl (Nat.le_of_ble_eq_true rfl) ?_
      refine z_istore_n (M := mX3_readAct) (lv2 := [(2, .int v7.1), (3, .int (0 : Int32)), (0, .ref 271), (1, .int x1)]) dX3_readAct_46 (Nat.le_of_ble_eq_true rfl) rfl ?_
      refine z_goto 80 dX3_readAct_47 rfl ?_
      refine z_lv (lv2 := [(0, .ref 271), (1, .int x1), (2, .int v7.1), (3, .int (0 : Int32))]) [2, 3, 0, 1] rfl ?_
      exact t_Rd_readAct_80 hd0  x1 v7.1 (0 : Int32) v7.2 _ h
  · replace h := oFn hc1 h
    refine z_aload_n dX3_readAct_9 2 rfl ?_
    refine z_iconst (M := mX3_readAct) (v := 1) dX3_readAct_10 rfl ?_
    refine z_bipush (M := mX3_readAct) (v := 60) dX3_readAct_11 rfl ?_
    obtain ⟨v8, he8, h⟩ := obind h
    refine y_Vi (M := mX3_readAct) (Y := mX3_readNumber) (d2 := d - 1) (As := [.int (1 : Int32), .int (60 : Int32)]) (st := []) dX3_readAct_13 mlRX3_80 cv_X3_readNumber zk_271 (ct_Rd_readNumber (dle (Nat.le_of_ble_eq_true rfl) hd0) he8) (dps (Nat.le_of_ble_eq_true rfl) hd0) rfl rfl (Nat.le_of_ble_eq_true rfl) ?_
    refine z_istore_n (M := mX3_readAct) (lv2 := [(2, .int v8.1), (3, .int (0 : Int32)), (0, .ref 271), (1, .int x1)]) dX3_readAct_16 (Nat.le_of_ble_eq_true rfl) rfl ?_
    refine z_aload_n dX3_readAct_17 2 rfl ?_
    refine z_iconst (M := mX3_readAct) (v := 5) dX3_readAct_18 rfl ?_
    obtain ⟨v9, he9, h⟩ := obind h
    refine y_Vv (M := mX3_readAct) (Y := mX3_expect) (d2 := d - 1) (As := [.int (5 : Int32)]) (st := []) dX3_readAct_19 mlRX3_77 cv_X3_expect zk_271 (ct_Rd_expect (dle (Nat.le_of_ble_eq_true rfl) hd0) he9) (dps (Nat.le_of_ble_eq_true rfl) hd0) rfl rfl (Nat.le_of_ble_eq_true rfl) ?_
    refine z_aload_n dX3_readAct_22 2 rfl ?_
    refine z_iconst (M := mX3_readAct) (v := 0) dX3_readAct_23 rfl ?_
    refine z_bipush (M := mX3_readAct) (v := 99) dX3_readAct_24 rfl ?_
    obtain ⟨v10, he10, h⟩ := obind h
    refine y_Vi (M := mX3_readAct) (Y := mX3_readNumber) (d2 := d - 1) (As := [.int (0 : Int32), .int (99 : Int32)]) (st := []) dX3_readAct_26 mlRX3_80 cv_X3_readNumber zk_271 (ct_Rd_readNumber (dle (Nat.le_of_ble_eq_true rfl) hd0) he10) (dps (Nat.le_of_ble_eq_true rfl) hd0) rfl rfl (Nat.le_of_ble_eq_true rfl) ?_
    refine z_istore_n (M := mX3_readAct) (lv2 := [(3, .int v10.1), (2, .int v8.1), (0, .ref 271), (1, .int x1)]) dX3_readAct_29 (Nat.le_of_ble_eq_true rfl) rfl ?_
    refine z_goto 80 dX3_readAct_30 rfl ?_
    refine z_lv (lv2 := [(0, .ref 271), (1, .int x1), (2, .int v8.1), (3, .int v10.1)]) [2, 3, 1, 0] rfl ?_
    exact t_Rd_readAct_80 hd0  x1 v8.1 v10.1 v10.2 _ h
theorem ct_Rd_readAct {g : GG} {d : Nat} {x1 : Int32} {ν : Nm} {r : Nm} (hd0 : 9 ≤ d)  (h : Rd_readAct x1 ν = some r) : Ct g d mX3_readAct [.ref 271, .int x1] (zem ν) (none, zem r) := y_entry in_X3_readAct (Nat.le_of_ble_eq_true rfl) rfl (t_Rd_readAct hd0 x1 ν r h)
-- FuseMinutes$Reader.isName(I)Z
theorem dX3_isName_0 : decode cX3_isName 0 = .ok (.iload_n 0, 1) := by decide +kernel
theorem dX3_isName_1 : decode cX3_isName 1 = .ok (.iconst 4, 1) := by decide +kernel
theorem dX3_isName_2 : decode cX3_isName 2 = .ok (.if_icmp .eq 20, 3) := by decide +kernel
theorem dX3_isName_5 : decode cX3_isName 5 = .ok (.iload_n 0, 1) := by decide +kernel
theorem dX3_isName_6 : decode cX3_isName 6 = .ok (.iconst 5, 1) := by decide +kernel
theorem dX3_isName_7 : decode cX3_isName 7 = .ok (.if_icmp .eq 15, 3) := by decide +kernel
theorem dX3_isName_10 : decode cX3_isName 10 = .ok (.iload_n 0, 1) := by decide +kernel
theorem dX3_isName_11 : decode cX3_isName 11 = .ok (.bipush 22, 2) := by decide +kernel
theorem dX3_isName_13 : decode cX3_isName 13 = .ok (.if_icmp .lt 13, 3) := by decide +kernel
theorem dX3_isName_16 : decode cX3_isName 16 = .ok (.iload_n 0, 1) := by decide +kernel
theorem dX3_isName_17 : decode cX3_isName 17 = .ok (.bipush 26, 2) := by decide +kernel
theorem dX3_isName_19 : decode cX3_isName 19 = .ok (.if_icmp .gt 7, 3) := by decide +kernel
theorem dX3_isName_22 : decode cX3_isName 22 = .ok (.iconst 1, 1) := by decide +kernel
theorem dX3_isName_23 : decode cX3_isName 23 = .ok (.goto 4, 3) := by decide +kernel
theorem dX3_isName_26 : decode cX3_isName 26 = .ok (.iconst 0, 1) := by decide +kernel
theorem dX3_isName_27 : decode cX3_isName 27 = .ok (.ireturn, 1) := by decide +kernel
def Rd_isName (x0 : Int32) : Option Bool :=
  (if x0 = (4 : Int32) then
    some true
  else
    (if x0 = (5 : Int32) then
      some true
    else
      (if x0 < (22 : Int32) then
        some false
      else
        (if (26 : Int32) < x0 then
          some false
        else
          some true))))
set_option maxRecDepth 100000 in
set_option maxHeartbeats 4000000 in
theorem t_Rd_isName {g : GG} {d : Nat} {μ : Mm} (hd0 : 1 ≤ d) : ∀ (x0 : Int32) (r : Bool), Rd_isName x0 = some r → Z g d (0, 0) mX3_isName 333 0 0 0 [(0, .int x0)] [] μ (zF g (some (.int (b2i r)), μ)) := by
  intro x0 r h
  unfold Rd_isName at h
  refine z_iload_n dX3_isName_0 0 rfl ?_
  refine z_iconst (M := mX3_isName) (v := 4) dX3_isName_1 rfl ?_
  refine z_icmp_eq 22 dX3_isName_2 rfl (fun hc1 => ?_) (fun hc1 => ?_)
  · replace h := oT hc1 h
    refine z_iconst (M := mX3_isName) (v := 1) dX3_isName_22 rfl ?_
    refine z_goto 27 dX3_isName_23 rfl ?_
    cases h
    exact z_zret dX3_isName_27 rfl rfl
  · replace h := oF hc1 h
    refine z_iload_n dX3_isName_5 0 rfl ?_
    refine z_iconst (M := mX3_isName) (v := 5) dX3_isName_6 rfl ?_
    refine z_icmp_eq 22 dX3_isName_7 rfl (fun hc2 => ?_) (fun hc2 => ?_)
    · replace h := oT hc2 h
      refine z_iconst (M := mX3_isName) (v := 1) dX3_isName_22 rfl ?_
      refine z_goto 27 dX3_isName_23 rfl ?_
      cases h
      exact z_zret dX3_isName_27 rfl rfl
    · replace h := oF hc2 h
      refine z_iload_n dX3_isName_10 0 rfl ?_
      refine z_bipush (M := mX3_isName) (v := 22) dX3_isName_11 rfl ?_
      refine z_icmp_lt 26 dX3_isName_13 rfl (fun hc3 => ?_) (fun hc3 => ?_)
      · replace h := oT hc3 h
        refine z_iconst (M := mX3_isName) (v := 0) dX3_isName_26 rfl ?_
        cases h
        exact z_zret dX3_isName_27 rfl rfl
      · replace h := oF hc3 h
        refine z_iload_n dX3_isName_16 0 rfl ?_
        refine z_bipush (M := mX3_isName) (v := 26) dX3_isName_17 rfl ?_
        refine z_icmp_gt 26 dX3_isName_19 rfl (fun hc4 => ?_) (fun hc4 => ?_)
        · replace h := oT hc4 h
          refine z_iconst (M := mX3_isName) (v := 0) dX3_isName_26 rfl ?_
          cases h
          exact z_zret dX3_isName_27 rfl rfl
        · replace h := oF hc4 h
          refine z_iconst (M := mX3_isName) (v := 1) dX3_isName_22 rfl ?_
          refine z_goto 27 dX3_isName_23 rfl ?_
          cases h
          exact z_zret dX3_isName_27 rfl rfl
theorem ct_Rd_isName {g : GG} {d : Nat} {x0 : Int32} {μ : Mm} {r : Bool} (hd0 : 1 ≤ d)  (h : Rd_isName x0 = some r) : Ct g d mX3_isName [.int x0] μ (some (.int (b2i r)), μ) := y_entry in_X3_isName (Nat.le_of_ble_eq_true rfl) rfl (t_Rd_isName hd0 x0 r h)
-- FuseMinutes$Reader.opens()Z
theorem dX3_opens_0 : decode cX3_opens 0 = .ok (.aload_n 0, 1) := by decide +kernel
theorem dX3_opens_1 : decode cX3_opens 1 = .ok (.getfield 37, 3) := by decide +kernel
theorem dX3_opens_4 : decode cX3_opens 4 = .ok (.bipush 8, 2) := by decide +kernel
theorem dX3_opens_6 : decode cX3_opens 6 = .ok (.if_icmp .lt 10, 3) := by decide +kernel
theorem dX3_opens_9 : decode cX3_opens 9 = .ok (.aload_n 0, 1) := by decide +kernel
theorem dX3_opens_10 : decode cX3_opens 10 = .ok (.iconst 3, 1) := by decide +kernel
theorem dX3_opens_11 : decode cX3_opens 11 = .ok (.invokevirtual 50, 3) := by decide +kernel
theorem dX3_opens_14 : decode cX3_opens 14 = .ok (.iconst 0, 1) := by decide +kernel
theorem dX3_opens_15 : decode cX3_opens 15 = .ok (.ireturn, 1) := by decide +kernel
theorem dX3_opens_16 : decode cX3_opens 16 = .ok (.aload_n 0, 1) := by decide +kernel
theorem dX3_opens_17 : decode cX3_opens 17 = .ok (.dup, 1) := by decide +kernel
theorem dX3_opens_18 : decode cX3_opens 18 = .ok (.getfield 37, 3) := by decide +kernel
theorem dX3_opens_21 : decode cX3_opens 21 = .ok (.iconst 1, 1) := by decide +kernel
theorem dX3_opens_22 : decode cX3_opens 22 = .ok (.iadd, 1) := by decide +kernel
theorem dX3_opens_23 : decode cX3_opens 23 = .ok (.putfield 37, 3) := by decide +kernel
theorem dX3_opens_26 : decode cX3_opens 26 = .ok (.aload_n 0, 1) := by decide +kernel
theorem dX3_opens_27 : decode cX3_opens 27 = .ok (.invokevirtual 40, 3) := by decide +kernel
theorem dX3_opens_30 : decode cX3_opens 30 = .ok (.iconst 1, 1) := by decide +kernel
theorem dX3_opens_31 : decode cX3_opens 31 = .ok (.ireturn, 1) := by decide +kernel
def Rd_opens (ν : Nm) : Option (Bool × Nm) :=
  (if (gi ν 271 8) < (8 : Int32) then
    (Rd_next (si ν 271 8 ((gi ν 271 8) + (1 : Int32)))).bind fun v2 =>
    some (true, v2)
  else
    (Rd_fail (3 : Int32) ν).bind fun v3 =>
    some (false, v3))
set_option maxRecDepth 100000 in
set_option maxHeartbeats 4000000 in
theorem t_Rd_opens {g : GG} {d : Nat} (hd0 : 8 ≤ d) : ∀ (ν : Nm) (r : (Bool × Nm)), Rd_opens ν = some r → Z g d (0, 0) mX3_opens 333 0 0 0 [(0, .ref 271)] [] (zem ν) (zF g (some (.int (b2i r.1)), zem r.2)) := by
  intro ν r h
  unfold Rd_opens at h
  refine z_aload_n dX3_opens_0 0 rfl ?_
  refine y_getI dX3_opens_1 zk_271 flRX3_37 ?_
  refine z_bipush (M := mX3_opens) (v := 8) dX3_opens_4 rfl ?_
  refine z_icmp_lt 16 dX3_opens_6 rfl (fun hc1 => ?_) (fun hc1 => ?_)
  · replace h := oT hc1 h
    refine z_aload_n dX3_opens_16 0 rfl ?_
    refine z_dup dX3_opens_17 rfl ?_
    refine y_getI dX3_opens_18 zk_271 flRX3_37 ?_
    refine z_iconst (M := mX3_opens) (v := 1) dX3_opens_21 rfl ?_
    refine z_iadd dX3_opens_22 ?_
    refine y_putI dX3_opens_23 zk_271 flRX3_37 ⟨rfl, rfl⟩ ?_
    refine z_aload_n dX3_opens_26 0 rfl ?_
    obtain ⟨v2, he2, h⟩ := obind h
    refine y_Vv (M := mX3_opens) (Y := mX3_next) (d2 := d - 1) (As := []) (st := []) dX3_opens_27 mlRX3_40 cv_X3_next zk_271 (ct_Rd_next (dle (Nat.le_of_ble_eq_true rfl) hd0) he2) (dps (Nat.le_of_ble_eq_true rfl) hd0) rfl rfl (Nat.le_of_ble_eq_true rfl) ?_
    refine z_iconst (M := mX3_opens) (v := 1) dX3_opens_30 rfl ?_
    cases h
    exact z_zret dX3_opens_31 rfl rfl
  · replace h := oF hc1 h
    refine z_aload_n dX3_opens_9 0 rfl ?_
    refine z_iconst (M := mX3_opens) (v := 3) dX3_opens_10 rfl ?_
    obtain ⟨v3, he3, h⟩ := obind h
    refine y_Vv (M := mX3_opens) (Y := mX3_fail) (d2 := d - 1) (As := [.int (3 : Int32)]) (st := []) dX3_opens_11 mlRX3_50 cv_X3_fail zk_271 (ct_Rd_fail (dle (Nat.le_of_ble_eq_true rfl) hd0) he3) (dps (Nat.le_of_ble_eq_true rfl) hd0) rfl rfl (Nat.le_of_ble_eq_true rfl) ?_
    refine z_iconst (M := mX3_opens) (v := 0) dX3_opens_14 rfl ?_
    cases h
    exact z_zret dX3_opens_15 rfl rfl
theorem ct_Rd_opens {g : GG} {d : Nat} {ν : Nm} {r : (Bool × Nm)} (hd0 : 8 ≤ d)  (h : Rd_opens ν = some r) : Ct g d mX3_opens [.ref 271] (zem ν) (some (.int (b2i r.1)), zem r.2) := y_entry in_X3_opens (Nat.le_of_ble_eq_true rfl) rfl (t_Rd_opens hd0 ν r h)
-- FuseMinutes$Reader.compares(I)Z
theorem dX3_compares_0 : decode cX3_compares 0 = .ok (.iload_n 0, 1) := by decide +kernel
theorem dX3_compares_1 : decode cX3_compares 1 = .ok (.bipush 60, 2) := by decide +kernel
theorem dX3_compares_3 : decode cX3_compares 3 = .ok (.if_icmp .eq 35, 3) := by decide +kernel
theorem dX3_compares_6 : decode cX3_compares 6 = .ok (.iload_n 0, 1) := by decide +kernel
theorem dX3_compares_7 : decode cX3_compares 7 = .ok (.bipush 62, 2) := by decide +kernel
theorem dX3_compares_9 : decode cX3_compares 9 = .ok (.if_icmp .eq 29, 3) := by decide +kernel
theorem dX3_compares_12 : decode cX3_compares 12 = .ok (.iload_n 0, 1) := by decide +kernel
theorem dX3_compares_13 : decode cX3_compares 13 = .ok (.bipush 61, 2) := by decide +kernel
theorem dX3_compares_15 : decode cX3_compares 15 = .ok (.if_icmp .eq 23, 3) := by decide +kernel
theorem dX3_compares_18 : decode cX3_compares 18 = .ok (.iload_n 0, 1) := by decide +kernel
theorem dX3_compares_19 : decode cX3_compares 19 = .ok (.bipush 35, 2) := by decide +kernel
theorem dX3_compares_21 : decode cX3_compares 21 = .ok (.if_icmp .eq 17, 3) := by decide +kernel
theorem dX3_compares_24 : decode cX3_compares 24 = .ok (.iload_n 0, 1) := by decide +kernel
theorem dX3_compares_25 : decode cX3_compares 25 = .ok (.sipush 128, 3) := by decide +kernel
theorem dX3_compares_28 : decode cX3_compares 28 = .ok (.if_icmp .eq 10, 3) := by decide +kernel
theorem dX3_compares_31 : decode cX3_compares 31 = .ok (.iload_n 0, 1) := by decide +kernel
theorem dX3_compares_32 : decode cX3_compares 32 = .ok (.sipush 129, 3) := by decide +kernel
theorem dX3_compares_35 : decode cX3_compares 35 = .ok (.if_icmp .ne 7, 3) := by decide +kernel
theorem dX3_compares_38 : decode cX3_compares 38 = .ok (.iconst 1, 1) := by decide +kernel
theorem dX3_compares_39 : decode cX3_compares 39 = .ok (.goto 4, 3) := by decide +kernel
theorem dX3_compares_42 : decode cX3_compares 42 = .ok (.iconst 0, 1) := by decide +kernel
theorem dX3_compares_43 : decode cX3_compares 43 = .ok (.ireturn, 1) := by decide +kernel
def Rd_compares (x0 : Int32) : Option Bool :=
  (if x0 = (60 : Int32) then
    some true
  else
    (if x0 = (62 : Int32) then
      some true
    else
      (if x0 = (61 : Int32) then
        some true
      else
        (if x0 = (35 : Int32) then
          some true
        else
          (if x0 = (128 : Int32) then
            some true
          else
            (if ¬ x0 = (129 : Int32) then
              some false
            else
              some true))))))
set_option maxRecDepth 100000 in
set_option maxHeartbeats 4000000 in
theorem t_Rd_compares {g : GG} {d : Nat} {μ : Mm} (hd0 : 1 ≤ d) : ∀ (x0 : Int32) (r : Bool), Rd_compares x0 = some r → Z g d (0, 0) mX3_compares 333 0 0 0 [(0, .int x0)] [] μ (zF g (some (.int (b2i r)), μ)) := by
  intro x0 r h
  unfold Rd_compares at h
  refine z_iload_n dX3_compares_0 0 rfl ?_
  refine z_bipush (M := mX3_compares) (v := 60) dX3_compares_1 rfl ?_
  refine z_icmp_eq 38 dX3_compares_3 rfl (fun hc1 => ?_) (fun hc1 => ?_)
  · replace h := oT hc1 h
    refine z_iconst (M := mX3_compares) (v := 1) dX3_compares_38 rfl ?_
    refine z_goto 43 dX3_compares_39 rfl ?_
    cases h
    exact z_zret dX3_compares_43 rfl rfl
  · replace h := oF hc1 h
    refine z_iload_n dX3_compares_6 0 rfl ?_
    refine z_bipush (M := mX3_compares) (v := 62) dX3_compares_7 rfl ?_
    refine z_icmp_eq 38 dX3_compares_9 rfl (fun hc2 => ?_) (fun hc2 => ?_)
    · replace h := oT hc2 h
      refine z_iconst (M := mX3_compares) (v := 1) dX3_compares_38 rfl ?_
      refine z_goto 43 dX3_compares_39 rfl ?_
      cases h
      exact z_zret dX3_compares_43 rfl rfl
    · replace h := oF hc2 h
      refine z_iload_n dX3_compares_12 0 rfl ?_
      refine z_bipush (M := mX3_compares) (v := 61) dX3_compares_13 rfl ?_
      refine z_icmp_eq 38 dX3_compares_15 rfl (fun hc3 => ?_) (fun hc3 => ?_)
      · replace h := oT hc3 h
        refine z_iconst (M := mX3_compares) (v := 1) dX3_compares_38 rfl ?_
        refine z_goto 43 dX3_compares_39 rfl ?_
        cases h
        exact z_zret dX3_compares_43 rfl rfl
      · replace h := oF hc3 h
        refine z_iload_n dX3_compares_18 0 rfl ?_
        refine z_bipush (M := mX3_compares) (v := 35) dX3_compares_19 rfl ?_
        refine z_icmp_eq 38 dX3_compares_21 rfl (fun hc4 => ?_) (fun hc4 => ?_)
        · replace h := oT hc4 h
          refine z_iconst (M := mX3_compares) (v := 1) dX3_compares_38 rfl ?_
          refine z_goto 43 dX3_compares_39 rfl ?_
          cases h
          exact z_zret dX3_compares_43 rfl rfl
        · replace h := oF hc4 h
          refine z_iload_n dX3_compares_24 0 rfl ?_
          refine z_sipush (M := mX3_compares) (v := 128) dX3_compares_25 rfl ?_
          refine z_icmp_eq 38 dX3_compares_28 rfl (fun hc5 => ?_) (fun hc5 => ?_)
          · replace h := oT hc5 h
            refine z_iconst (M := mX3_compares) (v := 1) dX3_compares_38 rfl ?_
            refine z_goto 43 dX3_compares_39 rfl ?_
            cases h
            exact z_zret dX3_compares_43 rfl rfl
          · replace h := oF hc5 h
            refine z_iload_n dX3_compares_31 0 rfl ?_
            refine z_sipush (M := mX3_compares) (v := 129) dX3_compares_32 rfl ?_
            refine z_icmp_ne 42 dX3_compares_35 rfl (fun hc6 => ?_) (fun hc6 => ?_)
            · replace h := oT hc6 h
              refine z_iconst (M := mX3_compares) (v := 0) dX3_compares_42 rfl ?_
              cases h
              exact z_zret dX3_compares_43 rfl rfl
            · replace h := oFn hc6 h
              refine z_iconst (M := mX3_compares) (v := 1) dX3_compares_38 rfl ?_
              refine z_goto 43 dX3_compares_39 rfl ?_
              cases h
              exact z_zret dX3_compares_43 rfl rfl
theorem ct_Rd_compares {g : GG} {d : Nat} {x0 : Int32} {μ : Mm} {r : Bool} (hd0 : 1 ≤ d)  (h : Rd_compares x0 = some r) : Ct g d mX3_compares [.int x0] μ (some (.int (b2i r)), μ) := y_entry in_X3_compares (Nat.le_of_ble_eq_true rfl) rfl (t_Rd_compares hd0 x0 r h)
-- FuseMinutes$Reader.readSum()V
theorem dX3_readSum_0 : decode cX3_readSum 0 = .ok (.aload_n 0, 1) := by decide +kernel
theorem dX3_readSum_1 : decode cX3_readSum 1 = .ok (.invokevirtual 91, 3) := by decide +kernel
theorem dX3_readSum_4 : decode cX3_readSum 4 = .ok (.iconst 0, 1) := by decide +kernel
theorem dX3_readSum_5 : decode cX3_readSum 5 = .ok (.istore_n 1, 1) := by decide +kernel
theorem dX3_readSum_6 : decode cX3_readSum 6 = .ok (.iload_n 1, 1) := by decide +kernel
theorem dX3_readSum_7 : decode cX3_readSum 7 = .ok (.sipush 300, 3) := by decide +kernel
theorem dX3_readSum_10 : decode cX3_readSum 10 = .ok (.if_icmp .ge 49, 3) := by decide +kernel
theorem dX3_readSum_13 : decode cX3_readSum 13 = .ok (.aload_n 0, 1) := by decide +kernel
theorem dX3_readSum_14 : decode cX3_readSum 14 = .ok (.getfield 43, 3) := by decide +kernel
theorem dX3_readSum_17 : decode cX3_readSum 17 = .ok (.bipush 43, 2) := by decide +kernel
theorem dX3_readSum_19 : decode cX3_readSum 19 = .ok (.if_icmp .eq 12, 3) := by decide +kernel
theorem dX3_readSum_22 : decode cX3_readSum 22 = .ok (.aload_n 0, 1) := by decide +kernel
theorem dX3_readSum_23 : decode cX3_readSum 23 = .ok (.getfield 43, 3) := by decide +kernel
theorem dX3_readSum_26 : decode cX3_readSum 26 = .ok (.bipush 45, 2) := by decide +kernel
theorem dX3_readSum_28 : decode cX3_readSum 28 = .ok (.if_icmp .ne 31, 3) := by decide +kernel
theorem dX3_readSum_31 : decode cX3_readSum 31 = .ok (.aload_n 0, 1) := by decide +kernel
theorem dX3_readSum_32 : decode cX3_readSum 32 = .ok (.getfield 43, 3) := by decide +kernel
theorem dX3_readSum_35 : decode cX3_readSum 35 = .ok (.istore_n 2, 1) := by decide +kernel
theorem dX3_readSum_36 : decode cX3_readSum 36 = .ok (.aload_n 0, 1) := by decide +kernel
theorem dX3_readSum_37 : decode cX3_readSum 37 = .ok (.invokevirtual 40, 3) := by decide +kernel
theorem dX3_readSum_40 : decode cX3_readSum 40 = .ok (.aload_n 0, 1) := by decide +kernel
theorem dX3_readSum_41 : decode cX3_readSum 41 = .ok (.invokevirtual 91, 3) := by decide +kernel
theorem dX3_readSum_44 : decode cX3_readSum 44 = .ok (.aload_n 0, 1) := by decide +kernel
theorem dX3_readSum_45 : decode cX3_readSum 45 = .ok (.getfield 25, 3) := by decide +kernel
theorem dX3_readSum_48 : decode cX3_readSum 48 = .ok (.iload_n 2, 1) := by decide +kernel
theorem dX3_readSum_49 : decode cX3_readSum 49 = .ok (.ineg, 1) := by decide +kernel
theorem dX3_readSum_50 : decode cX3_readSum 50 = .ok (.invokevirtual 94, 3) := by decide +kernel
theorem dX3_readSum_53 : decode cX3_readSum 53 = .ok (.iinc 1 1, 3) := by decide +kernel
theorem dX3_readSum_56 : decode cX3_readSum 56 = .ok (.goto (-50), 3) := by decide +kernel
theorem dX3_readSum_59 : decode cX3_readSum 59 = .ok (.return_, 1) := by decide +kernel
def Rd_readSum_31 (rc : Nat → Int32 → Nm → Option Nm) (k6 : Int32 → Nm → Option Nm) (x1 : Int32) (ν : Nm) : Option Nm :=
  (Rd_next ν).bind fun v1 =>
  (rc 1 0 v1).bind fun v2 =>
  if zkT (gx v2) then
  (Tx_addCode (gx v2) (-(gi ν 271 5)) v2).bind fun v4 =>
  k6 (x1 + (1 : Int32)) v4
  else none
set_option maxRecDepth 100000 in
set_option maxHeartbeats 4000000 in
theorem t_Rd_readSum_31 {g : GG} {d : Nat} {d2 : Nat} {rc : Nat → Int32 → Nm → Option Nm} (hb0 : 10 ≤ d2) (hr0 : ∀ (ν : Nm) (r : Nm), rc 0 0 ν = some r → Ct g d2 mX3_readSum [.ref 271] (zem ν) (none, zem r)) (hr1 : ∀ (ν : Nm) (r : Nm), rc 1 0 ν = some r → Ct g d2 mX3_readProduct [.ref 271] (zem ν) (none, zem r)) (hr2 : ∀ (ν : Nm) (r : Nm), rc 2 0 ν = some r → Ct g d2 mX3_readOne [.ref 271] (zem ν) (none, zem r)) (hr3 : ∀ (a0 : Int32) (ν : Nm) (r : Nm), rc 3 a0 ν = some r → Ct g d2 mX3_readOpening [.ref 271, .int a0] (zem ν) (none, zem r)) (hr4 : ∀ (ν : Nm) (r : Nm), rc 4 0 ν = some r → Ct g d2 mX3_readIf [.ref 271] (zem ν) (none, zem r)) (hr5 : ∀ (ν : Nm) (r : Nm), rc 5 0 ν = some r → Ct g d2 mX3_readEither [.ref 271] (zem ν) (none, zem r)) (hr6 : ∀ (ν : Nm) (r : Nm), rc 6 0 ν = some r → Ct g d2 mX3_readBoth [.ref 271] (zem ν) (none, zem r)) (hr7 : ∀ (ν : Nm) (r : Nm), rc 7 0 ν = some r → Ct g d2 mX3_readAsk [.ref 271] (zem ν) (none, zem r)) (hd0 : d2 + 1 ≤ d) {k6 : Int32 → Nm → Option Nm} (hk6 : ∀ (x1 : Int32) (ν : Nm) (r : Nm), k6 x1 ν = some r → Z g d (0, 0) mX3_readSum 333 0 0 6 [(0, .ref 271), (1, .int x1)] [] (zem ν) (zF g (none, zem r))) : ∀ (x1 : Int32) (ν : Nm) (r : Nm), Rd_readSum_31 rc k6 x1 ν = some r → Z g d (0, 0) mX3_readSum 333 0 0 31 [(0, .ref 271), (1, .int x1)] [] (zem ν) (zF g (none, zem r)) := by
  intro x1 ν r h
  unfold Rd_readSum_31 at h
  refine z_aload_n dX3_readSum_31 0 rfl ?_
  refine y_getI dX3_readSum_32 zk_271 flRX3_43 ?_
  refine z_istore_n (M := mX3_readSum) (lv2 := [(2, .int (gi ν 271 5)), (0, .ref 271), (1, .int x1)]) dX3_readSum_35 (Nat.le_of_ble_eq_true rfl) rfl ?_
  refine z_aload_n dX3_readSum_36 1 rfl ?_
  obtain ⟨v1, he1, h⟩ := obind h
  refine y_Vv (M := mX3_readSum) (Y := mX3_next) (d2 := d - 1) (As := []) (st := []) dX3_readSum_37 mlRX3_40 cv_X3_next zk_271 (ct_Rd_next (by omega) he1) (by omega) rfl rfl (Nat.le_of_ble_eq_true rfl) ?_
  refine z_aload_n dX3_readSum_40 1 rfl ?_
  obtain ⟨v2, he2, h⟩ := obind h
  refine y_Vv (M := mX3_readSum) (Y := mX3_readProduct) (d2 := d2) (As := []) (st := []) dX3_readSum_41 mlRX3_91 cv_X3_readProduct zk_271 (hr1 v1 _ he2) (by omega) rfl rfl (Nat.le_of_ble_eq_true rfl) ?_
  refine z_aload_n dX3_readSum_44 1 rfl ?_
  obtain ⟨hT3, h⟩ := oif h
  refine y_getT dX3_readSum_45 zk_271 flRX3_25 (zkT_ok hT3) ?_
  refine z_iload_n dX3_readSum_48 0 rfl ?_
  refine z_ineg dX3_readSum_49 ?_
  obtain ⟨v4, he4, h⟩ := obind h
  refine y_Vv (M := mX3_readSum) (Y := mX9_addCode) (d2 := d - 1) (As := [.int (-(gi ν 271 5))]) (st := []) dX3_readSum_50 mlRX3_94 cv_X9_addCode (zkT_ok hT3) (ct_Tx_addCode (by omega) (zkT_ok hT3) he4) (by omega) rfl rfl (Nat.le_of_ble_eq_true rfl) ?_
  refine z_iinc (M := mX3_readSum) (v := (x1 + (1 : Int32))) (lv2 := [(1, .int (x1 + (1 : Int32))), (2, .int (gi ν 271 5)), (0, .ref 271)]) dX3_readSum_53 2 rfl rfl (Nat.le_of_ble_eq_true rfl) rfl ?_
  refine z_goto 6 dX3_readSum_56 rfl ?_
  refine z_lv (lv2 := [(0, .ref 271), (1, .int (x1 + (1 : Int32)))]) [2, 0] rfl ?_
  exact hk6 (x1 + (1 : Int32)) v4 _ h
def Rd_readSum_6 (rc : Nat → Int32 → Nm → Option Nm) : Nat → Int32 → Nm → Option Nm
  | 0, _, _ => none
  | f + 1, x1, ν =>
    (if (300 : Int32) ≤ x1 then
      some ν
    else
      (if (gi ν 271 5) = (43 : Int32) then
        Rd_readSum_31 rc (Rd_readSum_6 rc f) x1 ν
      else
        (if ¬ (gi ν 271 5) = (45 : Int32) then
          some ν
        else
          Rd_readSum_31 rc (Rd_readSum_6 rc f) x1 ν)))
set_option maxRecDepth 100000 in
set_option maxHeartbeats 4000000 in
theorem t_Rd_readSum_6 {g : GG} {d : Nat} {d2 : Nat} {rc : Nat → Int32 → Nm → Option Nm} (hb0 : 10 ≤ d2) (hr0 : ∀ (ν : Nm) (r : Nm), rc 0 0 ν = some r → Ct g d2 mX3_readSum [.ref 271] (zem ν) (none, zem r)) (hr1 : ∀ (ν : Nm) (r : Nm), rc 1 0 ν = some r → Ct g d2 mX3_readProduct [.ref 271] (zem ν) (none, zem r)) (hr2 : ∀ (ν : Nm) (r : Nm), rc 2 0 ν = some r → Ct g d2 mX3_readOne [.ref 271] (zem ν) (none, zem r)) (hr3 : ∀ (a0 : Int32) (ν : Nm) (r : Nm), rc 3 a0 ν = some r → Ct g d2 mX3_readOpening [.ref 271, .int a0] (zem ν) (none, zem r)) (hr4 : ∀ (ν : Nm) (r : Nm), rc 4 0 ν = some r → Ct g d2 mX3_readIf [.ref 271] (zem ν) (none, zem r)) (hr5 : ∀ (ν : Nm) (r : Nm), rc 5 0 ν = some r → Ct g d2 mX3_readEither [.ref 271] (zem ν) (none, zem r)) (hr6 : ∀ (ν : Nm) (r : Nm), rc 6 0 ν = some r → Ct g d2 mX3_readBoth [.ref 271] (zem ν) (none, zem r)) (hr7 : ∀ (ν : Nm) (r : Nm), rc 7 0 ν = some r → Ct g d2 mX3_readAsk [.ref 271] (zem ν) (none, zem r)) (hd0 : d2 + 1 ≤ d) : ∀ (f : Nat), ∀ (x1 : Int32) (ν : Nm) (r : Nm), Rd_readSum_6 rc f x1 ν = some r → Z g d (0, 0) mX3_readSum 333 0 0 6 [(0, .ref 271), (1, .int x1)] [] (zem ν) (zF g (none, zem r)) := by
  intro f
  induction f with
  | zero =>
    intro x1 ν r h
    cases h
  | succ f ih =>
    intro x1 ν r h
    rw [Rd_readSum_6] at h
    refine z_iload_n dX3_readSum_6 1 rfl ?_
    refine z_sipush (M := mX3_readSum) (v := 300) dX3_readSum_7 rfl ?_
    refine z_icmp_ge 59 dX3_readSum_10 rfl (fun hc1 => ?_) (fun hc1 => ?_)
    · replace h := oT hc1 h
      cases h
      exact z_vret dX3_readSum_59 rfl
    · replace h := oF hc1 h
      refine z_aload_n dX3_readSum_13 0 rfl ?_
      refine y_getI dX3_readSum_14 zk_271 flRX3_43 ?_
      refine z_bipush (M := mX3_readSum) (v := 43) dX3_readSum_17 rfl ?_
      refine z_icmp_eq 31 dX3_readSum_19 rfl (fun hc2 => ?_) (fun hc2 => ?_)
      · replace h := oT hc2 h
        exact t_Rd_readSum_31 hb0 hr0 hr1 hr2 hr3 hr4 hr5 hr6 hr7 hd0 ih x1 ν _ h
      · replace h := oF hc2 h
        refine z_aload_n dX3_readSum_22 0 rfl ?_
        refine y_getI dX3_readSum_23 zk_271 flRX3_43 ?_
        refine z_bipush (M := mX3_readSum) (v := 45) dX3_readSum_26 rfl ?_
        refine z_icmp_ne 59 dX3_readSum_28 rfl (fun hc3 => ?_) (fun hc3 => ?_)
        · replace h := oT hc3 h
          cases h
          exact z_vret dX3_readSum_59 rfl
        · replace h := oFn hc3 h
          exact t_Rd_readSum_31 hb0 hr0 hr1 hr2 hr3 hr4 hr5 hr6 hr7 hd0 ih x1 ν _ h
def Rd_readSum (rc : Nat → Int32 → Nm → Option Nm) (ν : Nm) : Option Nm :=
  (rc 1 0 ν).bind fun v1 =>
  Rd_readSum_6 rc FU (0 : Int32) v1
set_option maxRecDepth 100000 in
set_option maxHeartbeats 4000000 in
theorem t_Rd_readSum {g : GG} {d : Nat} {d2 : Nat} {rc : Nat → Int32 → Nm → Option Nm} (hb0 : 10 ≤ d2) (hr0 : ∀ (ν : Nm) (r : Nm), rc 0 0 ν = some r → Ct g d2 mX3_readSum [.ref 271] (zem ν) (none, zem r)) (hr1 : ∀ (ν : Nm) (r : Nm), rc 1 0 ν = some r → Ct g d2 mX3_readProduct [.ref 271] (zem ν) (none, zem r)) (hr2 : ∀ (ν : Nm) (r : Nm), rc 2 0 ν = some r → Ct g d2 mX3_readOne [.ref 271] (zem ν) (none, zem r)) (hr3 : ∀ (a0 : Int32) (ν : Nm) (r : Nm), rc 3 a0 ν = some r → Ct g d2 mX3_readOpening [.ref 271, .int a0] (zem ν) (none, zem r)) (hr4 : ∀ (ν : Nm) (r : Nm), rc 4 0 ν = some r → Ct g d2 mX3_readIf [.ref 271] (zem ν) (none, zem r)) (hr5 : ∀ (ν : Nm) (r : Nm), rc 5 0 ν = some r → Ct g d2 mX3_readEither [.ref 271] (zem ν) (none, zem r)) (hr6 : ∀ (ν : Nm) (r : Nm), rc 6 0 ν = some r → Ct g d2 mX3_readBoth [.ref 271] (zem ν) (none, zem r)) (hr7 : ∀ (ν : Nm) (r : Nm), rc 7 0 ν = some r → Ct g d2 mX3_readAsk [.ref 271] (zem ν) (none, zem r)) (hd0 : d2 + 1 ≤ d) : ∀ (ν : Nm) (r : Nm), Rd_readSum rc ν = some r → Z g d (0, 0) mX3_readSum 333 0 0 0 [(0, .ref 271)] [] (zem ν) (zF g (none, zem r)) := by
  intro ν r h
  unfold Rd_readSum at h
  refine z_aload_n dX3_readSum_0 0 rfl ?_
  obtain ⟨v1, he1, h⟩ := obind h
  refine y_Vv (M := mX3_readSum) (Y := mX3_readProduct) (d2 := d2) (As := []) (st := []) dX3_readSum_1 mlRX3_91 cv_X3_readProduct zk_271 (hr1 ν _ he1) (by omega) rfl rfl (Nat.le_of_ble_eq_true rfl) ?_
  refine z_iconst (M := mX3_readSum) (v := 0) dX3_readSum_4 rfl ?_
  refine z_istore_n (M := mX3_readSum) (lv2 := [(1, .int (0 : Int32)), (0, .ref 271)]) dX3_readSum_5 (Nat.le_of_ble_eq_true rfl) rfl ?_
  refine z_lv (lv2 := [(0, .ref 271), (1, .int (0 : Int32))]) [1, 0] rfl ?_
  exact t_Rd_readSum_6 hb0 hr0 hr1 hr2 hr3 hr4 hr5 hr6 hr7 hd0 FU (0 : Int32) v1 _ h
theorem ct_Rd_readSum_o {g : GG} {d : Nat} {ν : Nm} {r : Nm} {d2 : Nat} {rc : Nat → Int32 → Nm → Option Nm} (hb0 : 10 ≤ d2) (hr0 : ∀ (ν : Nm) (r : Nm), rc 0 0 ν = some r → Ct g d2 mX3_readSum [.ref 271] (zem ν) (none, zem r)) (hr1 : ∀ (ν : Nm) (r : Nm), rc 1 0 ν = some r → Ct g d2 mX3_readProduct [.ref 271] (zem ν) (none, zem r)) (hr2 : ∀ (ν : Nm) (r : Nm), rc 2 0 ν = some r → Ct g d2 mX3_readOne [.ref 271] (zem ν) (none, zem r)) (hr3 : ∀ (a0 : Int32) (ν : Nm) (r : Nm), rc 3 a0 ν = some r → Ct g d2 mX3_readOpening [.ref 271, .int a0] (zem ν) (none, zem r)) (hr4 : ∀ (ν : Nm) (r : Nm), rc 4 0 ν = some r → Ct g d2 mX3_readIf [.ref 271] (zem ν) (none, zem r)) (hr5 : ∀ (ν : Nm) (r : Nm), rc 5 0 ν = some r → Ct g d2 mX3_readEither [.ref 271] (zem ν) (none, zem r)) (hr6 : ∀ (ν : Nm) (r : Nm), rc 6 0 ν = some r → Ct g d2 mX3_readBoth [.ref 271] (zem ν) (none, zem r)) (hr7 : ∀ (ν : Nm) (r : Nm), rc 7 0 ν = some r → Ct g d2 mX3_readAsk [.ref 271] (zem ν) (none, zem r)) (hd0 : d2 + 1 ≤ d)  (h : Rd_readSum rc ν = some r) : Ct g d mX3_readSum [.ref 271] (zem ν) (none, zem r) := y_entry in_X3_readSum (Nat.le_of_ble_eq_true rfl) rfl (t_Rd_readSum hb0 hr0 hr1 hr2 hr3 hr4 hr5 hr6 hr7 hd0 ν r h)
-- FuseMinutes$Reader.readProduct()V
theorem dX3_readProduct_0 : decode cX3_readProduct 0 = .ok (.aload_n 0, 1) := by decide +kernel
theorem dX3_readProduct_1 : decode cX3_readProduct 1 = .ok (.invokevirtual 97, 3) := by decide +kernel
theorem dX3_readProduct_4 : decode cX3_readProduct 4 = .ok (.iconst 0, 1) := by decide +kernel
theorem dX3_readProduct_5 : decode cX3_readProduct 5 = .ok (.istore_n 1, 1) := by decide +kernel
theorem dX3_readProduct_6 : decode cX3_readProduct 6 = .ok (.iload_n 1, 1) := by decide +kernel
theorem dX3_readProduct_7 : decode cX3_readProduct 7 = .ok (.sipush 300, 3) := by decide +kernel
theorem dX3_readProduct_10 : decode cX3_readProduct 10 = .ok (.if_icmp .ge 49, 3) := by decide +kernel
theorem dX3_readProduct_13 : decode cX3_readProduct 13 = .ok (.aload_n 0, 1) := by decide +kernel
theorem dX3_readProduct_14 : decode cX3_readProduct 14 = .ok (.getfield 43, 3) := by decide +kernel
theorem dX3_readProduct_17 : decode cX3_readProduct 17 = .ok (.bipush 42, 2) := by decide +kernel
theorem dX3_readProduct_19 : decode cX3_readProduct 19 = .ok (.if_icmp .eq 12, 3) := by decide +kernel
theorem dX3_readProduct_22 : decode cX3_readProduct 22 = .ok (.aload_n 0, 1) := by decide +kernel
theorem dX3_readProduct_23 : decode cX3_readProduct 23 = .ok (.getfield 43, 3) := by decide +kernel
theorem dX3_readProduct_26 : decode cX3_readProduct 26 = .ok (.bipush 47, 2) := by decide +kernel
theorem dX3_readProduct_28 : decode cX3_readProduct 28 = .ok (.if_icmp .ne 31, 3) := by decide +kernel
theorem dX3_readProduct_31 : decode cX3_readProduct 31 = .ok (.aload_n 0, 1) := by decide +kernel
theorem dX3_readProduct_32 : decode cX3_readProduct 32 = .ok (.getfield 43, 3) := by decide +kernel
theorem dX3_readProduct_35 : decode cX3_readProduct 35 = .ok (.istore_n 2, 1) := by decide +kernel
theorem dX3_readProduct_36 : decode cX3_readProduct 36 = .ok (.aload_n 0, 1) := by decide +kernel
theorem dX3_readProduct_37 : decode cX3_readProduct 37 = .ok (.invokevirtual 40, 3) := by decide +kernel
theorem dX3_readProduct_40 : decode cX3_readProduct 40 = .ok (.aload_n 0, 1) := by decide +kernel
theorem dX3_readProduct_41 : decode cX3_readProduct 41 = .ok (.invokevirtual 97, 3) := by decide +kernel
theorem dX3_readProduct_44 : decode cX3_readProduct 44 = .ok (.aload_n 0, 1) := by decide +kernel
theorem dX3_readProduct_45 : decode cX3_readProduct 45 = .ok (.getfield 25, 3) := by decide +kernel
theorem dX3_readProduct_48 : decode cX3_readProduct 48 = .ok (.iload_n 2, 1) := by decide +kernel
theorem dX3_readProduct_49 : decode cX3_readProduct 49 = .ok (.ineg, 1) := by decide +kernel
theorem dX3_readProduct_50 : decode cX3_readProduct 50 = .ok (.invokevirtual 94, 3) := by decide +kernel
theorem dX3_readProduct_53 : decode cX3_readProduct 53 = .ok (.iinc 1 1, 3) := by decide +kernel
theorem dX3_readProduct_56 : decode cX3_readProduct 56 = .ok (.goto (-50), 3) := by decide +kernel
theorem dX3_readProduct_59 : decode cX3_readProduct 59 = .ok (.return_, 1) := by decide +kernel
def Rd_readProduct_31 (rc : Nat → Int32 → Nm → Option Nm) (k6 : Int32 → Nm → Option Nm) (x1 : Int32) (ν : Nm) : Option Nm :=
  (Rd_next ν).bind fun v1 =>
  (rc 2 0 v1).bind fun v2 =>
  if zkT (gx v2) then
  (Tx_addCode (gx v2) (-(gi ν 271 5)) v2).bind fun v4 =>
  k6 (x1 + (1 : Int32)) v4
  else none
set_option maxRecDepth 100000 in
set_option maxHeartbeats 4000000 in
theorem t_Rd_readProduct_31 {g : GG} {d : Nat} {d2 : Nat} {rc : Nat → Int32 → Nm → Option Nm} (hb0 : 10 ≤ d2) (hr0 : ∀ (ν : Nm) (r : Nm), rc 0 0 ν = some r → Ct g d2 mX3_readSum [.ref 271] (zem ν) (none, zem r)) (hr1 : ∀ (ν : Nm) (r : Nm), rc 1 0 ν = some r → Ct g d2 mX3_readProduct [.ref 271] (zem ν) (none, zem r)) (hr2 : ∀ (ν : Nm) (r : Nm), rc 2 0 ν = some r → Ct g d2 mX3_readOne [.ref 271] (zem ν) (none, zem r)) (hr3 : ∀ (a0 : Int32) (ν : Nm) (r : Nm), rc 3 a0 ν = some r → Ct g d2 mX3_readOpening [.ref 271, .int a0] (zem ν) (none, zem r)) (hr4 : ∀ (ν : Nm) (r : Nm), rc 4 0 ν = some r → Ct g d2 mX3_readIf [.ref 271] (zem ν) (none, zem r)) (hr5 : ∀ (ν : Nm) (r : Nm), rc 5 0 ν = some r → Ct g d2 mX3_readEither [.ref 271] (zem ν) (none, zem r)) (hr6 : ∀ (ν : Nm) (r : Nm), rc 6 0 ν = some r → Ct g d2 mX3_readBoth [.ref 271] (zem ν) (none, zem r)) (hr7 : ∀ (ν : Nm) (r : Nm), rc 7 0 ν = some r → Ct g d2 mX3_readAsk [.ref 271] (zem ν) (none, zem r)) (hd0 : d2 + 1 ≤ d) {k6 : Int32 → Nm → Option Nm} (hk6 : ∀ (x1 : Int32) (ν : Nm) (r : Nm), k6 x1 ν = some r → Z g d (0, 0) mX3_readProduct 333 0 0 6 [(0, .ref 271), (1, .int x1)] [] (zem ν) (zF g (none, zem r))) : ∀ (x1 : Int32) (ν : Nm) (r : Nm), Rd_readProduct_31 rc k6 x1 ν = some r → Z g d (0, 0) mX3_readProduct 333 0 0 31 [(0, .ref 271), (1, .int x1)] [] (zem ν) (zF g (none, zem r)) := by
  intro x1 ν r h
  unfold Rd_readProduct_31 at h
  refine z_aload_n dX3_readProduct_31 0 rfl ?_
  refine y_getI dX3_readProduct_32 zk_271 flRX3_43 ?_
  refine z_istore_n (M := mX3_readProduct) (lv2 := [(2, .int (gi ν 271 5)), (0, .ref 271), (1, .int x1)]) dX3_readProduct_35 (Nat.le_of_ble_eq_true rfl) rfl ?_
  refine z_aload_n dX3_readProduct_36 1 rfl ?_
  obtain ⟨v1, he1, h⟩ := obind h
  refine y_Vv (M := mX3_readProduct) (Y := mX3_next) (d2 := d - 1) (As := []) (st := []) dX3_readProduct_37 mlRX3_40 cv_X3_next zk_271 (ct_Rd_next (by omega) he1) (by omega) rfl rfl (Nat.le_of_ble_eq_true rfl) ?_
  refine z_aload_n dX3_readProduct_40 1 rfl ?_
  obtain ⟨v2, he2, h⟩ := obind h
  refine y_Vv (M := mX3_readProduct) (Y := mX3_readOne) (d2 := d2) (As := []) (st := []) dX3_readProduct_41 mlRX3_97 cv_X3_readOne zk_271 (hr2 v1 _ he2) (by omega) rfl rfl (Nat.le_of_ble_eq_true rfl) ?_
  refine z_aload_n dX3_readProduct_44 1 rfl ?_
  obtain ⟨hT3, h⟩ := oif h
  refine y_getT dX3_readProduct_45 zk_271 flRX3_25 (zkT_ok hT3) ?_
  refine z_iload_n dX3_readProduct_48 0 rfl ?_
  refine z_ineg dX3_readProduct_49 ?_
  obtain ⟨v4, he4, h⟩ := obind h
  refine y_Vv (M := mX3_readProduct) (Y := mX9_addCode) (d2 := d - 1) (As := [.int (-(gi ν 271 5))]) (st := []) dX3_readProduct_50 mlRX3_94 cv_X9_addCode (zkT_ok hT3) (ct_Tx_addCode (by omega) (zkT_ok hT3) he4) (by omega) rfl rfl (Nat.le_of_ble_eq_true rfl) ?_
  refine z_iinc (M := mX3_readProduct) (v := (x1 + (1 : Int32))) (lv2 := [(1, .int (x1 + (1 : Int32))), (2, .int (gi ν 271 5)), (0, .ref 271)]) dX3_readProduct_53 2 rfl rfl (Nat.le_of_ble_eq_true rfl) rfl ?_
  refine z_goto 6 dX3_readProduct_56 rfl ?_
  refine z_lv (lv2 := [(0, .ref 271), (1, .int (x1 + (1 : Int32)))]) [2, 0] rfl ?_
  exact hk6 (x1 + (1 : Int32)) v4 _ h
def Rd_readProduct_6 (rc : Nat → Int32 → Nm → Option Nm) : Nat → Int32 → Nm → Option Nm
  | 0, _, _ => none
  | f + 1, x1, ν =>
    (if (300 : Int32) ≤ x1 then
      some ν
    else
      (if (gi ν 271 5) = (42 : Int32) then
        Rd_readProduct_31 rc (Rd_readProduct_6 rc f) x1 ν
      else
        (if ¬ (gi ν 271 5) = (47 : Int32) then
          some ν
        else
          Rd_readProduct_31 rc (Rd_readProduct_6 rc f) x1 ν)))
set_option maxRecDepth 100000 in
set_option maxHeartbeats 4000000 in
theorem t_Rd_readProduct_6 {g : GG} {d : Nat} {d2 : Nat} {rc : Nat → Int32 → Nm → Option Nm} (hb0 : 10 ≤ d2) (hr0 : ∀ (ν : Nm) (r : Nm), rc 0 0 ν = some r → Ct g d2 mX3_readSum [.ref 271] (zem ν) (none, zem r)) (hr1 : ∀ (ν : Nm) (r : Nm), rc 1 0 ν = some r → Ct g d2 mX3_readProduct [.ref 271] (zem ν) (none, zem r)) (hr2 : ∀ (ν : Nm) (r : Nm), rc 2 0 ν = some r → Ct g d2 mX3_readOne [.ref 271] (zem ν) (none, zem r)) (hr3 : ∀ (a0 : Int32) (ν : Nm) (r : Nm), rc 3 a0 ν = some r → Ct g d2 mX3_readOpening [.ref 271, .int a0] (zem ν) (none, zem r)) (hr4 : ∀ (ν : Nm) (r : Nm), rc 4 0 ν = some r → Ct g d2 mX3_readIf [.ref 271] (zem ν) (none, zem r)) (hr5 : ∀ (ν : Nm) (r : Nm), rc 5 0 ν = some r → Ct g d2 mX3_readEither [.ref 271] (zem ν) (none, zem r)) (hr6 : ∀ (ν : Nm) (r : Nm), rc 6 0 ν = some r → Ct g d2 mX3_readBoth [.ref 271] (zem ν) (none, zem r)) (hr7 : ∀ (ν : Nm) (r : Nm), rc 7 0 ν = some r → Ct g d2 mX3_readAsk [.ref 271] (zem ν) (none, zem r)) (hd0 : d2 + 1 ≤ d) : ∀ (f : Nat), ∀ (x1 : Int32) (ν : Nm) (r : Nm), Rd_readProduct_6 rc f x1 ν = some r → Z g d (0, 0) mX3_readProduct 333 0 0 6 [(0, .ref 271), (1, .int x1)] [] (zem ν) (zF g (none, zem r)) := by
  intro f
  induction f with
  | zero =>
    intro x1 ν r h
    cases h
  | succ f ih =>
    intro x1 ν r h
    rw [Rd_readProduct_6] at h
    refine z_iload_n dX3_readProduct_6 1 rfl ?_
    refine z_sipush (M := mX3_readProduct) (v := 300) dX3_readProduct_7 rfl ?_
    refine z_icmp_ge 59 dX3_readProduct_10 rfl (fun hc1 => ?_) (fun hc1 => ?_)
    · replace h := oT hc1 h
      cases h
      exact z_vret dX3_readProduct_59 rfl
    · replace h := oF hc1 h
      refine z_aload_n dX3_readProduct_13 0 rfl ?_
      refine y_getI dX3_readProduct_14 zk_271 flRX3_43 ?_
      refine z_bipush (M := mX3_readProduct) (v := 42) dX3_readProduct_17 rfl ?_
      refine z_icmp_eq 31 dX3_readProduct_19 rfl (fun hc2 => ?_) (fun hc2 => ?_)
      · replace h := oT hc2 h
        exact t_Rd_readProduct_31 hb0 hr0 hr1 hr2 hr3 hr4 hr5 hr6 hr7 hd0 ih x1 ν _ h
      · replace h := oF hc2 h
        refine z_aload_n dX3_readProduct_22 0 rfl ?_
        refine y_getI dX3_readProduct_23 zk_271 flRX3_43 ?_
        refine z_bipush (M := mX3_readProduct) (v := 47) dX3_readProduct_26 rfl ?_
        refine z_icmp_ne 59 dX3_readProduct_28 rfl (fun hc3 => ?_) (fun hc3 => ?_)
        · replace h := oT hc3 h
          cases h
          exact z_vret dX3_readProduct_59 rfl
        · replace h := oFn hc3 h
          exact t_Rd_readProduct_31 hb0 hr0 hr1 hr2 hr3 hr4 hr5 hr6 hr7 hd0 ih x1 ν _ h
def Rd_readProduct (rc : Nat → Int32 → Nm → Option Nm) (ν : Nm) : Option Nm :=
  (rc 2 0 ν).bind fun v1 =>
  Rd_readProduct_6 rc FU (0 : Int32) v1
set_option maxRecDepth 100000 in
set_option maxHeartbeats 4000000 in
theorem t_Rd_readProduct {g : GG} {d : Nat} {d2 : Nat} {rc : Nat → Int32 → Nm → Option Nm} (hb0 : 10 ≤ d2) (hr0 : ∀ (ν : Nm) (r : Nm), rc 0 0 ν = some r → Ct g d2 mX3_readSum [.ref 271] (zem ν) (none, zem r)) (hr1 : ∀ (ν : Nm) (r : Nm), rc 1 0 ν = some r → Ct g d2 mX3_readProduct [.ref 271] (zem ν) (none, zem r)) (hr2 : ∀ (ν : Nm) (r : Nm), rc 2 0 ν = some r → Ct g d2 mX3_readOne [.ref 271] (zem ν) (none, zem r)) (hr3 : ∀ (a0 : Int32) (ν : Nm) (r : Nm), rc 3 a0 ν = some r → Ct g d2 mX3_readOpening [.ref 271, .int a0] (zem ν) (none, zem r)) (hr4 : ∀ (ν : Nm) (r : Nm), rc 4 0 ν = some r → Ct g d2 mX3_readIf [.ref 271] (zem ν) (none, zem r)) (hr5 : ∀ (ν : Nm) (r : Nm), rc 5 0 ν = some r → Ct g d2 mX3_readEither [.ref 271] (zem ν) (none, zem r)) (hr6 : ∀ (ν : Nm) (r : Nm), rc 6 0 ν = some r → Ct g d2 mX3_readBoth [.ref 271] (zem ν) (none, zem r)) (hr7 : ∀ (ν : Nm) (r : Nm), rc 7 0 ν = some r → Ct g d2 mX3_readAsk [.ref 271] (zem ν) (none, zem r)) (hd0 : d2 + 1 ≤ d) : ∀ (ν : Nm) (r : Nm), Rd_readProduct rc ν = some r → Z g d (0, 0) mX3_readProduct 333 0 0 0 [(0, .ref 271)] [] (zem ν) (zF g (none, zem r)) := by
  intro ν r h
  unfold Rd_readProduct at h
  refine z_aload_n dX3_readProduct_0 0 rfl ?_
  obtain ⟨v1, he1, h⟩ := obind h
  refine y_Vv (M := mX3_readProduct) (Y := mX3_readOne) (d2 := d2) (As := []) (st := []) dX3_readProduct_1 mlRX3_97 cv_X3_readOne zk_271 (hr2 ν _ he1) (by omega) rfl rfl (Nat.le_of_ble_eq_true rfl) ?_
  refine z_iconst (M := mX3_readProduct) (v := 0) dX3_readProduct_4 rfl ?_
  refine z_istore_n (M := mX3_readProduct) (lv2 := [(1, .int (0 : Int32)), (0, .ref 271)]) dX3_readProduct_5 (Nat.le_of_ble_eq_true rfl) rfl ?_
  refine z_lv (lv2 := [(0, .ref 271), (1, .int (0 : Int32))]) [1, 0] rfl ?_
  exact t_Rd_readProduct_6 hb0 hr0 hr1 hr2 hr3 hr4 hr5 hr6 hr7 hd0 FU (0 : Int32) v1 _ h
theorem ct_Rd_readProduct_o {g : GG} {d : Nat} {ν : Nm} {r : Nm} {d2 : Nat} {rc : Nat → Int32 → Nm → Option Nm} (hb0 : 10 ≤ d2) (hr0 : ∀ (ν : Nm) (r : Nm), rc 0 0 ν = some r → Ct g d2 mX3_readSum [.ref 271] (zem ν) (none, zem r)) (hr1 : ∀ (ν : Nm) (r : Nm), rc 1 0 ν = some r → Ct g d2 mX3_readProduct [.ref 271] (zem ν) (none, zem r)) (hr2 : ∀ (ν : Nm) (r : Nm), rc 2 0 ν = some r → Ct g d2 mX3_readOne [.ref 271] (zem ν) (none, zem r)) (hr3 : ∀ (a0 : Int32) (ν : Nm) (r : Nm), rc 3 a0 ν = some r → Ct g d2 mX3_readOpening [.ref 271, .int a0] (zem ν) (none, zem r)) (hr4 : ∀ (ν : Nm) (r : Nm), rc 4 0 ν = some r → Ct g d2 mX3_readIf [.ref 271] (zem ν) (none, zem r)) (hr5 : ∀ (ν : Nm) (r : Nm), rc 5 0 ν = some r → Ct g d2 mX3_readEither [.ref 271] (zem ν) (none, zem r)) (hr6 : ∀ (ν : Nm) (r : Nm), rc 6 0 ν = some r → Ct g d2 mX3_readBoth [.ref 271] (zem ν) (none, zem r)) (hr7 : ∀ (ν : Nm) (r : Nm), rc 7 0 ν = some r → Ct g d2 mX3_readAsk [.ref 271] (zem ν) (none, zem r)) (hd0 : d2 + 1 ≤ d)  (h : Rd_readProduct rc ν = some r) : Ct g d mX3_readProduct [.ref 271] (zem ν) (none, zem r) := y_entry in_X3_readProduct (Nat.le_of_ble_eq_true rfl) rfl (t_Rd_readProduct hb0 hr0 hr1 hr2 hr3 hr4 hr5 hr6 hr7 hd0 ν r h)
-- FuseMinutes$Reader.readOne()V
theorem dX3_readOne_0 : decode cX3_readOne 0 = .ok (.aload_n 0, 1) := by decide +kernel
theorem dX3_readOne_1 : decode cX3_readOne 1 = .ok (.getfield 43, 3) := by decide +kernel
theorem dX3_readOne_4 : decode cX3_readOne 4 = .ok (.iconst 1, 1) := by decide +kernel
theorem dX3_readOne_5 : decode cX3_readOne 5 = .ok (.if_icmp .ne 39, 3) := by decide +kernel
theorem dX3_readOne_8 : decode cX3_readOne 8 = .ok (.aload_n 0, 1) := by decide +kernel
theorem dX3_readOne_9 : decode cX3_readOne 9 = .ok (.getfield 84, 3) := by decide +kernel
theorem dX3_readOne_12 : decode cX3_readOne 12 = .ok (.sipush 9999, 3) := by decide +kernel
theorem dX3_readOne_15 : decode cX3_readOne 15 = .ok (.if_icmp .le 11, 3) := by decide +kernel
theorem dX3_readOne_18 : decode cX3_readOne 18 = .ok (.aload_n 0, 1) := by decide +kernel
theorem dX3_readOne_19 : decode cX3_readOne 19 = .ok (.iconst 2, 1) := by decide +kernel
theorem dX3_readOne_20 : decode cX3_readOne 20 = .ok (.invokevirtual 50, 3) := by decide +kernel
theorem dX3_readOne_23 : decode cX3_readOne 23 = .ok (.goto 135, 3) := by decide +kernel
theorem dX3_readOne_26 : decode cX3_readOne 26 = .ok (.aload_n 0, 1) := by decide +kernel
theorem dX3_readOne_27 : decode cX3_readOne 27 = .ok (.getfield 25, 3) := by decide +kernel
theorem dX3_readOne_30 : decode cX3_readOne 30 = .ok (.aload_n 0, 1) := by decide +kernel
theorem dX3_readOne_31 : decode cX3_readOne 31 = .ok (.getfield 84, 3) := by decide +kernel
theorem dX3_readOne_34 : decode cX3_readOne 34 = .ok (.invokevirtual 94, 3) := by decide +kernel
theorem dX3_readOne_37 : decode cX3_readOne 37 = .ok (.aload_n 0, 1) := by decide +kernel
theorem dX3_readOne_38 : decode cX3_readOne 38 = .ok (.invokevirtual 40, 3) := by decide +kernel
theorem dX3_readOne_41 : decode cX3_readOne 41 = .ok (.goto 117, 3) := by decide +kernel
theorem dX3_readOne_44 : decode cX3_readOne 44 = .ok (.aload_n 0, 1) := by decide +kernel
theorem dX3_readOne_45 : decode cX3_readOne 45 = .ok (.getfield 43, 3) := by decide +kernel
theorem dX3_readOne_48 : decode cX3_readOne 48 = .ok (.invokestatic 100, 3) := by decide +kernel
theorem dX3_readOne_51 : decode cX3_readOne 51 = .ok (.ifCond .eq 46, 3) := by decide +kernel
theorem dX3_readOne_54 : decode cX3_readOne 54 = .ok (.aload_n 0, 1) := by decide +kernel
theorem dX3_readOne_55 : decode cX3_readOne 55 = .ok (.getfield 43, 3) := by decide +kernel
theorem dX3_readOne_58 : decode cX3_readOne 58 = .ok (.bipush 26, 2) := by decide +kernel
theorem dX3_readOne_60 : decode cX3_readOne 60 = .ok (.if_icmp .ne 18, 3) := by decide +kernel
theorem dX3_readOne_63 : decode cX3_readOne 63 = .ok (.aload_n 0, 1) := by decide +kernel
theorem dX3_readOne_64 : decode cX3_readOne 64 = .ok (.getfield 57, 3) := by decide +kernel
theorem dX3_readOne_67 : decode cX3_readOne 67 = .ok (.ifCond .eq 11, 3) := by decide +kernel
theorem dX3_readOne_70 : decode cX3_readOne 70 = .ok (.aload_n 0, 1) := by decide +kernel
theorem dX3_readOne_71 : decode cX3_readOne 71 = .ok (.iconst 5, 1) := by decide +kernel
theorem dX3_readOne_72 : decode cX3_readOne 72 = .ok (.invokevirtual 50, 3) := by decide +kernel
theorem dX3_readOne_75 : decode cX3_readOne 75 = .ok (.goto 83, 3) := by decide +kernel
theorem dX3_readOne_78 : decode cX3_readOne 78 = .ok (.aload_n 0, 1) := by decide +kernel
theorem dX3_readOne_79 : decode cX3_readOne 79 = .ok (.getfield 25, 3) := by decide +kernel
theorem dX3_readOne_82 : decode cX3_readOne 82 = .ok (.aload_n 0, 1) := by decide +kernel
theorem dX3_readOne_83 : decode cX3_readOne 83 = .ok (.getfield 43, 3) := by decide +kernel
theorem dX3_readOne_86 : decode cX3_readOne 86 = .ok (.ineg, 1) := by decide +kernel
theorem dX3_readOne_87 : decode cX3_readOne 87 = .ok (.invokevirtual 94, 3) := by decide +kernel
theorem dX3_readOne_90 : decode cX3_readOne 90 = .ok (.aload_n 0, 1) := by decide +kernel
theorem dX3_readOne_91 : decode cX3_readOne 91 = .ok (.invokevirtual 40, 3) := by decide +kernel
theorem dX3_readOne_94 : decode cX3_readOne 94 = .ok (.goto 64, 3) := by decide +kernel
theorem dX3_readOne_97 : decode cX3_readOne 97 = .ok (.aload_n 0, 1) := by decide +kernel
theorem dX3_readOne_98 : decode cX3_readOne 98 = .ok (.getfield 43, 3) := by decide +kernel
theorem dX3_readOne_101 : decode cX3_readOne 101 = .ok (.bipush 40, 2) := by decide +kernel
theorem dX3_readOne_103 : decode cX3_readOne 103 = .ok (.if_icmp .eq 39, 3) := by decide +kernel
theorem dX3_readOne_106 : decode cX3_readOne 106 = .ok (.aload_n 0, 1) := by decide +kernel
theorem dX3_readOne_107 : decode cX3_readOne 107 = .ok (.getfield 43, 3) := by decide +kernel
theorem dX3_readOne_110 : decode cX3_readOne 110 = .ok (.bipush 15, 2) := by decide +kernel
theorem dX3_readOne_112 : decode cX3_readOne 112 = .ok (.if_icmp .eq 30, 3) := by decide +kernel
theorem dX3_readOne_115 : decode cX3_readOne 115 = .ok (.aload_n 0, 1) := by decide +kernel
theorem dX3_readOne_116 : decode cX3_readOne 116 = .ok (.getfield 43, 3) := by decide +kernel
theorem dX3_readOne_119 : decode cX3_readOne 119 = .ok (.bipush 45, 2) := by decide +kernel
theorem dX3_readOne_121 : decode cX3_readOne 121 = .ok (.if_icmp .eq 21, 3) := by decide +kernel
theorem dX3_readOne_124 : decode cX3_readOne 124 = .ok (.aload_n 0, 1) := by decide +kernel
theorem dX3_readOne_125 : decode cX3_readOne 125 = .ok (.getfield 43, 3) := by decide +kernel
theorem dX3_readOne_128 : decode cX3_readOne 128 = .ok (.bipush 13, 2) := by decide +kernel
theorem dX3_readOne_130 : decode cX3_readOne 130 = .ok (.if_icmp .eq 12, 3) := by decide +kernel
theorem dX3_readOne_133 : decode cX3_readOne 133 = .ok (.aload_n 0, 1) := by decide +kernel
theorem dX3_readOne_134 : decode cX3_readOne 134 = .ok (.getfield 43, 3) := by decide +kernel
theorem dX3_readOne_137 : decode cX3_readOne 137 = .ok (.bipush 14, 2) := by decide +kernel
theorem dX3_readOne_139 : decode cX3_readOne 139 = .ok (.if_icmp .ne 14, 3) := by decide +kernel
theorem dX3_readOne_142 : decode cX3_readOne 142 = .ok (.aload_n 0, 1) := by decide +kernel
theorem dX3_readOne_143 : decode cX3_readOne 143 = .ok (.aload_n 0, 1) := by decide +kernel
theorem dX3_readOne_144 : decode cX3_readOne 144 = .ok (.getfield 43, 3) := by decide +kernel
theorem dX3_readOne_147 : decode cX3_readOne 147 = .ok (.invokevirtual 103, 3) := by decide +kernel
theorem dX3_readOne_150 : decode cX3_readOne 150 = .ok (.goto 8, 3) := by decide +kernel
theorem dX3_readOne_153 : decode cX3_readOne 153 = .ok (.aload_n 0, 1) := by decide +kernel
theorem dX3_readOne_154 : decode cX3_readOne 154 = .ok (.iconst 1, 1) := by decide +kernel
theorem dX3_readOne_155 : decode cX3_readOne 155 = .ok (.invokevirtual 50, 3) := by decide +kernel
theorem dX3_readOne_158 : decode cX3_readOne 158 = .ok (.return_, 1) := by decide +kernel
def Rd_readOne_78 (rc : Nat → Int32 → Nm → Option Nm) (ν : Nm) : Option Nm :=
  if zkT (gx ν) then
  (Tx_addCode (gx ν) (-(gi ν 271 5)) ν).bind fun v2 =>
  (Rd_next v2).bind fun v3 =>
  some v3
  else none
set_option maxRecDepth 100000 in
set_option maxHeartbeats 4000000 in
theorem t_Rd_readOne_78 {g : GG} {d : Nat} {d2 : Nat} {rc : Nat → Int32 → Nm → Option Nm} (hb0 : 10 ≤ d2) (hr0 : ∀ (ν : Nm) (r : Nm), rc 0 0 ν = some r → Ct g d2 mX3_readSum [.ref 271] (zem ν) (none, zem r)) (hr1 : ∀ (ν : Nm) (r : Nm), rc 1 0 ν = some r → Ct g d2 mX3_readProduct [.ref 271] (zem ν) (none, zem r)) (hr2 : ∀ (ν : Nm) (r : Nm), rc 2 0 ν = some r → Ct g d2 mX3_readOne [.ref 271] (zem ν) (none, zem r)) (hr3 : ∀ (a0 : Int32) (ν : Nm) (r : Nm), rc 3 a0 ν = some r → Ct g d2 mX3_readOpening [.ref 271, .int a0] (zem ν) (none, zem r)) (hr4 : ∀ (ν : Nm) (r : Nm), rc 4 0 ν = some r → Ct g d2 mX3_readIf [.ref 271] (zem ν) (none, zem r)) (hr5 : ∀ (ν : Nm) (r : Nm), rc 5 0 ν = some r → Ct g d2 mX3_readEither [.ref 271] (zem ν) (none, zem r)) (hr6 : ∀ (ν : Nm) (r : Nm), rc 6 0 ν = some r → Ct g d2 mX3_readBoth [.ref 271] (zem ν) (none, zem r)) (hr7 : ∀ (ν : Nm) (r : Nm), rc 7 0 ν = some r → Ct g d2 mX3_readAsk [.ref 271] (zem ν) (none, zem r)) (hd0 : d2 + 1 ≤ d) : ∀ (ν : Nm) (r : Nm), Rd_readOne_78 rc ν = some r → Z g d (0, 0) mX3_readOne 333 0 0 78 [(0, .ref 271)] [] (zem ν) (zF g (none, zem r)) := by
  intro ν r h
  unfold Rd_readOne_78 at h
  refine z_aload_n dX3_readOne_78 0 rfl ?_
  obtain ⟨hT1, h⟩ := oif h
  refine y_getT dX3_readOne_79 zk_271 flRX3_25 (zkT_ok hT1) ?_
  refine z_aload_n dX3_readOne_82 0 rfl ?_
  refine y_getI dX3_readOne_83 zk_271 flRX3_43 ?_
  refine z_ineg dX3_readOne_86 ?_
  obtain ⟨v2, he2, h⟩ := obind h
  refine y_Vv (M := mX3_readOne) (Y := mX9_addCode) (d2 := d - 1) (As := [.int (-(gi ν 271 5))]) (st := []) dX3_readOne_87 mlRX3_94 cv_X9_addCode (zkT_ok hT1) (ct_Tx_addCode (by omega) (zkT_ok hT1) he2) (by omega) rfl rfl (Nat.le_of_ble_eq_true rfl) ?_
  refine z_aload_n dX3_readOne_90 0 rfl ?_
  obtain ⟨v3, he3, h⟩ := obind h
  refine y_Vv (M := mX3_readOne) (Y := mX3_next) (d2 := d - 1) (As := []) (st := []) dX3_readOne_91 mlRX3_40 cv_X3_next zk_271 (ct_Rd_next (by omega) he3) (by omega) rfl rfl (Nat.le_of_ble_eq_true rfl) ?_
  refine z_goto 158 dX3_readOne_94 rfl ?_
  cases h
  exact z_vret dX3_readOne_158 rfl
def Rd_readOne_142 (rc : Nat → Int32 → Nm → Option Nm) (ν : Nm) : Option Nm :=
  (rc 3 (gi ν 271 5) ν).bind fun v1 =>
  some v1
set_option maxRecDepth 100000 in
set_option maxHeartbeats 4000000 in
theorem t_Rd_readOne_142 {g : GG} {d : Nat} {d2 : Nat} {rc : Nat → Int32 → Nm → Option Nm} (hb0 : 10 ≤ d2) (hr0 : ∀ (ν : Nm) (r : Nm), rc 0 0 ν = some r → Ct g d2 mX3_readSum [.ref 271] (zem ν) (none, zem r)) (hr1 : ∀ (ν : Nm) (r : Nm), rc 1 0 ν = some r → Ct g d2 mX3_readProduct [.ref 271] (zem ν) (none, zem r)) (hr2 : ∀ (ν : Nm) (r : Nm), rc 2 0 ν = some r → Ct g d2 mX3_readOne [.ref 271] (zem ν) (none, zem r)) (hr3 : ∀ (a0 : Int32) (ν : Nm) (r : Nm), rc 3 a0 ν = some r → Ct g d2 mX3_readOpening [.ref 271, .int a0] (zem ν) (none, zem r)) (hr4 : ∀ (ν : Nm) (r : Nm), rc 4 0 ν = some r → Ct g d2 mX3_readIf [.ref 271] (zem ν) (none, zem r)) (hr5 : ∀ (ν : Nm) (r : Nm), rc 5 0 ν = some r → Ct g d2 mX3_readEither [.ref 271] (zem ν) (none, zem r)) (hr6 : ∀ (ν : Nm) (r : Nm), rc 6 0 ν = some r → Ct g d2 mX3_readBoth [.ref 271] (zem ν) (none, zem r)) (hr7 : ∀ (ν : Nm) (r : Nm), rc 7 0 ν = some r → Ct g d2 mX3_readAsk [.ref 271] (zem ν) (none, zem r)) (hd0 : d2 + 1 ≤ d) : ∀ (ν : Nm) (r : Nm), Rd_readOne_142 rc ν = some r → Z g d (0, 0) mX3_readOne 333 0 0 142 [(0, .ref 271)] [] (zem ν) (zF g (none, zem r)) := by
  intro ν r h
  unfold Rd_readOne_142 at h
  refine z_aload_n dX3_readOne_142 0 rfl ?_
  refine z_aload_n dX3_readOne_143 0 rfl ?_
  refine y_getI dX3_readOne_144 zk_271 flRX3_43 ?_
  obtain ⟨v1, he1, h⟩ := obind h
  refine y_Vv (M := mX3_readOne) (Y := mX3_readOpening) (d2 := d2) (As := [.int (gi ν 271 5)]) (st := []) dX3_readOne_147 mlRX3_103 cv_X3_readOpening zk_271 (hr3 (gi ν 271 5) ν _ he1) (by omega) rfl rfl (Nat.le_of_ble_eq_true rfl) ?_
  refine z_goto 158 dX3_readOne_150 rfl ?_
  cases h
  exact z_vret dX3_readOne_158 rfl
def Rd_readOne (rc : Nat → Int32 → Nm → Option Nm) (ν : Nm) : Option Nm :=
  (if ¬ (gi ν 271 5) = (1 : Int32) then
    (Rd_isName (gi ν 271 5)).bind fun v2 =>
    (if (b2i v2) = 0 then
      (if (gi ν 271 5) = (40 : Int32) then
        Rd_readOne_142 rc ν
      else
        (if (gi ν 271 5) = (15 : Int32) then
          Rd_readOne_142 rc ν
        else
          (if (gi ν 271 5) = (45 : Int32) then
            Rd_readOne_142 rc ν
          else
            (if (gi ν 271 5) = (13 : Int32) then
              Rd_readOne_142 rc ν
            else
              (if ¬ (gi ν 271 5) = (14 : Int32) then
                (Rd_fail (1 : Int32) ν).bind fun v9 =>
                some v9
              else
                Rd_readOne_142 rc ν)))))
    else
      (if ¬ (gi ν 271 5) = (26 : Int32) then
        Rd_readOne_78 rc ν
      else
        (if (gi ν 271 9) = 0 then
          Rd_readOne_78 rc ν
        else
          (Rd_fail (5 : Int32) ν).bind fun v12 =>
          some v12)))
  else
    (if (gi ν 271 7) ≤ (9999 : Int32) then
      if zkT (gx ν) then
      (Tx_addCode (gx ν) (gi ν 271 7) ν).bind fun v15 =>
      (Rd_next v15).bind fun v16 =>
      some v16
      else none
    else
      (Rd_fail (2 : Int32) ν).bind fun v17 =>
      some v17))
set_option maxRecDepth 100000 in
set_option maxHeartbeats 4000000 in
theorem t_Rd_readOne {g : GG} {d : Nat} {d2 : Nat} {rc : Nat → Int32 → Nm → Option Nm} (hb0 : 10 ≤ d2) (hr0 : ∀ (ν : Nm) (r : Nm), rc 0 0 ν = some r → Ct g d2 mX3_readSum [.ref 271] (zem ν) (none, zem r)) (hr1 : ∀ (ν : Nm) (r : Nm), rc 1 0 ν = some r → Ct g d2 mX3_readProduct [.ref 271] (zem ν) (none, zem r)) (hr2 : ∀ (ν : Nm) (r : Nm), rc 2 0 ν = some r → Ct g d2 mX3_readOne [.ref 271] (zem ν) (none, zem r)) (hr3 : ∀ (a0 : Int32) (ν : Nm) (r : Nm), rc 3 a0 ν = some r → Ct g d2 mX3_readOpening [.ref 271, .int a0] (zem ν) (none, zem r)) (hr4 : ∀ (ν : Nm) (r : Nm), rc 4 0 ν = some r → Ct g d2 mX3_readIf [.ref 271] (zem ν) (none, zem r)) (hr5 : ∀ (ν : Nm) (r : Nm), rc 5 0 ν = some r → Ct g d2 mX3_readEither [.ref 271] (zem ν) (none, zem r)) (hr6 : ∀ (ν : Nm) (r : Nm), rc 6 0 ν = some r → Ct g d2 mX3_readBoth [.ref 271] (zem ν) (none, zem r)) (hr7 : ∀ (ν : Nm) (r : Nm), rc 7 0 ν = some r → Ct g d2 mX3_readAsk [.ref 271] (zem ν) (none, zem r)) (hd0 : d2 + 1 ≤ d) : ∀ (ν : Nm) (r : Nm), Rd_readOne rc ν = some r → Z g d (0, 0) mX3_readOne 333 0 0 0 [(0, .ref 271)] [] (zem ν) (zF g (none, zem r)) := by
  intro ν r h
  unfold Rd_readOne at h
  refine z_aload_n dX3_readOne_0 0 rfl ?_
  refine y_getI dX3_readOne_1 zk_271 flRX3_43 ?_
  refine z_iconst (M := mX3_readOne) (v := 1) dX3_readOne_4 rfl ?_
  refine z_icmp_ne 44 dX3_readOne_5 rfl (fun hc1 => ?_) (fun hc1 => ?_)
  · replace h := oT hc1 h
    refine z_aload_n dX3_readOne_44 0 rfl ?_
    refine y_getI dX3_readOne_45 zk_271 flRX3_43 ?_
    obtain ⟨v2, he2, h⟩ := obind h
    refine y_Si (M := mX3_readOne) (Y := mX3_isName) (d2 := d - 1) (As := [.int (gi ν 271 5)]) (st := []) dX3_readOne_48 mlRX3_100 cv_X3_isName (ct_Rd_isName (by omega) he2) (by omega) rfl rfl (Nat.le_of_ble_eq_true rfl) ?_
    refine z_if_eq 97 dX3_readOne_51 rfl (fun hc3 => ?_) (fun hc3 => ?_)
    · replace h := oT hc3 h
      refine z_aload_n dX3_readOne_97 0 rfl ?_
      refine y_getI dX3_readOne_98 zk_271 flRX3_43 ?_
      refine z_bipush (M := mX3_readOne) (v := 40) dX3_readOne_101 rfl ?_
      refine z_icmp_eq 142 dX3_readOne_103 rfl (fun hc4 => ?_) (fun hc4 => ?_)
      · replace h := oT hc4 h
        exact t_Rd_readOne_142 hb0 hr0 hr1 hr2 hr3 hr4 hr5 hr6 hr7 hd0  ν _ h
      · replace h := oF hc4 h
        refine z_aload_n dX3_readOne_106 0 rfl ?_
        refine y_getI dX3_readOne_107 zk_271 flRX3_43 ?_
        refine z_bipush (M := mX3_readOne) (v := 15) dX3_readOne_110 rfl ?_
        refine z_icmp_eq 142 dX3_readOne_112 rfl (fun hc5 => ?_) (fun hc5 => ?_)
        · replace h := oT hc5 h
          exact t_Rd_readOne_142 hb0 hr0 hr1 hr2 hr3 hr4 hr5 hr6 hr7 hd0  ν _ h
        · replace h := oF hc5 h
          refine z_aload_n dX3_readOne_115 0 rfl ?_
          refine y_getI dX3_readOne_116 zk_271 flRX3_43 ?_
          refine z_bipush (M := mX3_readOne) (v := 45) dX3_readOne_119 rfl ?_
          refine z_icmp_eq 142 dX3_readOne_121 rfl (fun hc6 => ?_) (fun hc6 => ?_)
          · replace h := oT hc6 h
            exact t_Rd_readOne_142 hb0 hr0 hr1 hr2 hr3 hr4 hr5 hr6 hr7 hd0  ν _ h
          · replace h := oF hc6 h
            refine z_aload_n dX3_readOne_124 0 rfl ?_
            refine y_getI dX3_readOne_125 zk_271 flRX3_43 ?_
            refine z_bipush (M := mX3_readOne) (v := 13) dX3_readOne_128 rfl ?_
            refine z_icmp_eq 142 dX3_readOne_130 rfl (fun hc7 => ?_) (fun hc7 => ?_)
            · replace h := oT hc7 h
              exact t_Rd_readOne_142 hb0 hr0 hr1 hr2 hr3 hr4 hr5 hr6 hr7 hd0  ν _ h
            · replace h := oF hc7 h
              refine z_aload_n dX3_readOne_133 0 rfl ?_
              refine y_getI dX3_readOne_134 zk_271 flRX3_43 ?_
              refine z_bipush (M := mX3_readOne) (v := 14) dX3_readOne_137 rfl ?_
              refine z_icmp_ne 153 dX3_readOne_139 rfl (fun hc8 => ?_) (fun hc8 => ?_)
              · replace h := oT hc8 h
                refine z_aload_n dX3_readOne_153 0 rfl ?_
                refine z_iconst (M := mX3_readOne) (v := 1) dX3_readOne_154 rfl ?_
                obtain ⟨v9, he9, h⟩ := obind h
                refine y_Vv (M := mX3_readOne) (Y := mX3_fail) (d2 := d - 1) (As := [.int (1 : Int32)]) (st := []) dX3_readOne_155 mlRX3_50 cv_X3_fail zk_271 (ct_Rd_fail (by omega) he9) (by omega) rfl rfl (Nat.le_of_ble_eq_true rfl) ?_
                cases h
                exact z_vret dX3_readOne_158 rfl
              · replace h := oFn hc8 h
                exact t_Rd_readOne_142 hb0 hr0 hr1 hr2 hr3 hr4 hr5 hr6 hr7 hd0  ν _ h
    · replace h := oF hc3 h
      refine z_aload_n dX3_readOne_54 0 rfl ?_
      refine y_getI dX3_readOne_55 zk_271 flRX3_43 ?_
      refine z_bipush (M := mX3_readOne) (v := 26) dX3_readOne_58 rfl ?_
      refine z_icmp_ne 78 dX3_readOne_60 rfl (fun hc10 => ?_) (fun hc10 => ?_)
      · replace h := oT hc10 h
        exact t_Rd_readOne_78 hb0 hr0 hr1 hr2 hr3 hr4 hr5 hr6 hr7 hd0  ν _ h
      · replace h := oFn hc10 h
        refine z_aload_n dX3_readOne_63 0 rfl ?_
        refine y_getI dX3_readOne_64 zk_271 flRX3_57 ?_
        refine z_if_eq 78 dX3_readOne_67 rfl (fun hc11 => ?_) (fun hc11 => ?_)
        · replace h := oT hc11 h
          exact t_Rd_readOne_78 hb0 hr0 hr1 hr2 hr3 hr4 hr5 hr6 hr7 hd0  ν _ h
        · replace h := oF hc11 h
          refine z_aload_n dX3_readOne_70 0 rfl ?_
          refine z_iconst (M := mX3_readOne) (v := 5) dX3_readOne_71 rfl ?_
          obtain ⟨v12, he12, h⟩ := obind h
          refine y_Vv (M := mX3_readOne) (Y := mX3_fail) (d2 := d - 1) (As := [.int (5 : Int32)]) (st := []) dX3_readOne_72 mlRX3_50 cv_X3_fail zk_271 (ct_Rd_fail (by omega) he12) (by omega) rfl rfl (Nat.le_of_ble_eq_true rfl) ?_
          refine z_goto 158 dX3_readOne_75 rfl ?_
          cases h
          exact z_vret dX3_readOne_158 rfl
  · replace h := oFn hc1 h
    refine z_aload_n dX3_readOne_8 0 rfl ?_
    refine y_getI dX3_readOne_9 zk_271 flRX3_84 ?_
    refine z_sipush (M := mX3_readOne) (v := 9999) dX3_readOne_12 rfl ?_
    refine z_icmp_le 26 dX3_readOne_15 rfl (fun hc13 => ?_) (fun hc13 => ?_)
    · replace h := oT hc13 h
      refine z_aload_n dX3_readOne_26 0 rfl ?_
      obtain ⟨hT14, h⟩ := oif h
      refine y_getT dX3_readOne_27 zk_271 flRX3_25 (zkT_ok hT14) ?_
      refine z_aload_n dX3_readOne_30 0 rfl ?_
      refine y_getI dX3_readOne_31 zk_271 flRX3_84 ?_
      obtain ⟨v15, he15, h⟩ := obind h
      refine y_Vv (M := mX3_readOne) (Y := mX9_addCode) (d2 := d - 1) (As := [.int (gi ν 271 7)]) (st := []) dX3_readOne_34 mlRX3_94 cv_X9_addCode (zkT_ok hT14) (ct_Tx_addCode (by omega) (zkT_ok hT14) he15) (by omega) rfl rfl (Nat.le_of_ble_eq_true rfl) ?_
      refine z_aload_n dX3_readOne_37 0 rfl ?_
      obtain ⟨v16, he16, h⟩ := obind h
      refine y_Vv (M := mX3_readOne) (Y := mX3_next) (d2 := d - 1) (As := []) (st := []) dX3_readOne_38 mlRX3_40 cv_X3_next zk_271 (ct_Rd_next (by omega) he16) (by omega) rfl rfl (Nat.le_of_ble_eq_true rfl) ?_
      refine z_goto 158 dX3_readOne_41 rfl ?_
      cases h
      exact z_vret dX3_readOne_158 rfl
    · replace h := oF hc13 h
      refine z_aload_n dX3_readOne_18 0 rfl ?_
      refine z_iconst (M := mX3_readOne) (v := 2) dX3_readOne_19 rfl ?_
      obtain ⟨v17, he17, h⟩ := obind h
      refine y_Vv (M := mX3_readOne) (Y := mX3_fail) (d2 := d - 1) (As := [.int (2 : Int32)]) (st := []) dX3_readOne_20 mlRX3_50 cv_X3_fail zk_271 (ct_Rd_fail (by omega) he17) (by omega) rfl rfl (Nat.le_of_ble_eq_true rfl) ?_
      refine z_goto 158 dX3_readOne_23 rfl ?_
      cases h
      exact z_vret dX3_readOne_158 rfl
theorem ct_Rd_readOne_o {g : GG} {d : Nat} {ν : Nm} {r : Nm} {d2 : Nat} {rc : Nat → Int32 → Nm → Option Nm} (hb0 : 10 ≤ d2) (hr0 : ∀ (ν : Nm) (r : Nm), rc 0 0 ν = some r → Ct g d2 mX3_readSum [.ref 271] (zem ν) (none, zem r)) (hr1 : ∀ (ν : Nm) (r : Nm), rc 1 0 ν = some r → Ct g d2 mX3_readProduct [.ref 271] (zem ν) (none, zem r)) (hr2 : ∀ (ν : Nm) (r : Nm), rc 2 0 ν = some r → Ct g d2 mX3_readOne [.ref 271] (zem ν) (none, zem r)) (hr3 : ∀ (a0 : Int32) (ν : Nm) (r : Nm), rc 3 a0 ν = some r → Ct g d2 mX3_readOpening [.ref 271, .int a0] (zem ν) (none, zem r)) (hr4 : ∀ (ν : Nm) (r : Nm), rc 4 0 ν = some r → Ct g d2 mX3_readIf [.ref 271] (zem ν) (none, zem r)) (hr5 : ∀ (ν : Nm) (r : Nm), rc 5 0 ν = some r → Ct g d2 mX3_readEither [.ref 271] (zem ν) (none, zem r)) (hr6 : ∀ (ν : Nm) (r : Nm), rc 6 0 ν = some r → Ct g d2 mX3_readBoth [.ref 271] (zem ν) (none, zem r)) (hr7 : ∀ (ν : Nm) (r : Nm), rc 7 0 ν = some r → Ct g d2 mX3_readAsk [.ref 271] (zem ν) (none, zem r)) (hd0 : d2 + 1 ≤ d)  (h : Rd_readOne rc ν = some r) : Ct g d mX3_readOne [.ref 271] (zem ν) (none, zem r) := y_entry in_X3_readOne (Nat.le_of_ble_eq_true rfl) rfl (t_Rd_readOne hb0 hr0 hr1 hr2 hr3 hr4 hr5 hr6 hr7 hd0 ν r h)
-- FuseMinutes$Reader.readOpening(I)V
theorem dX3_readOpening_0 : decode cX3_readOpening 0 = .ok (.aload_n 0, 1) := by decide +kernel
theorem dX3_readOpening_1 : decode cX3_readOpening 1 = .ok (.invokevirtual 106, 3) := by decide +kernel
theorem dX3_readOpening_4 : decode cX3_readOpening 4 = .ok (.ifCond .ne 4, 3) := by decide +kernel
theorem dX3_readOpening_7 : decode cX3_readOpening 7 = .ok (.return_, 1) := by decide +kernel
theorem dX3_readOpening_8 : decode cX3_readOpening 8 = .ok (.iload_n 1, 1) := by decide +kernel
theorem dX3_readOpening_9 : decode cX3_readOpening 9 = .ok (.bipush 40, 2) := by decide +kernel
theorem dX3_readOpening_11 : decode cX3_readOpening 11 = .ok (.if_icmp .ne 16, 3) := by decide +kernel
theorem dX3_readOpening_14 : decode cX3_readOpening 14 = .ok (.aload_n 0, 1) := by decide +kernel
theorem dX3_readOpening_15 : decode cX3_readOpening 15 = .ok (.invokevirtual 64, 3) := by decide +kernel
theorem dX3_readOpening_18 : decode cX3_readOpening 18 = .ok (.aload_n 0, 1) := by decide +kernel
theorem dX3_readOpening_19 : decode cX3_readOpening 19 = .ok (.bipush 41, 2) := by decide +kernel
theorem dX3_readOpening_21 : decode cX3_readOpening 21 = .ok (.invokevirtual 77, 3) := by decide +kernel
theorem dX3_readOpening_24 : decode cX3_readOpening 24 = .ok (.goto 41, 3) := by decide +kernel
theorem dX3_readOpening_27 : decode cX3_readOpening 27 = .ok (.iload_n 1, 1) := by decide +kernel
theorem dX3_readOpening_28 : decode cX3_readOpening 28 = .ok (.bipush 15, 2) := by decide +kernel
theorem dX3_readOpening_30 : decode cX3_readOpening 30 = .ok (.if_icmp .ne 10, 3) := by decide +kernel
theorem dX3_readOpening_33 : decode cX3_readOpening 33 = .ok (.aload_n 0, 1) := by decide +kernel
theorem dX3_readOpening_34 : decode cX3_readOpening 34 = .ok (.invokevirtual 110, 3) := by decide +kernel
theorem dX3_readOpening_37 : decode cX3_readOpening 37 = .ok (.goto 28, 3) := by decide +kernel
theorem dX3_readOpening_40 : decode cX3_readOpening 40 = .ok (.aload_n 0, 1) := by decide +kernel
theorem dX3_readOpening_41 : decode cX3_readOpening 41 = .ok (.invokevirtual 97, 3) := by decide +kernel
theorem dX3_readOpening_44 : decode cX3_readOpening 44 = .ok (.aload_n 0, 1) := by decide +kernel
theorem dX3_readOpening_45 : decode cX3_readOpening 45 = .ok (.getfield 25, 3) := by decide +kernel
theorem dX3_readOpening_48 : decode cX3_readOpening 48 = .ok (.iload_n 1, 1) := by decide +kernel
theorem dX3_readOpening_49 : decode cX3_readOpening 49 = .ok (.bipush 45, 2) := by decide +kernel
theorem dX3_readOpening_51 : decode cX3_readOpening 51 = .ok (.if_icmp .ne 9, 3) := by decide +kernel
theorem dX3_readOpening_54 : decode cX3_readOpening 54 = .ok (.sipush (-130), 3) := by decide +kernel
theorem dX3_readOpening_57 : decode cX3_readOpening 57 = .ok (.goto 5, 3) := by decide +kernel
theorem dX3_readOpening_60 : decode cX3_readOpening 60 = .ok (.iload_n 1, 1) := by decide +kernel
theorem dX3_readOpening_61 : decode cX3_readOpening 61 = .ok (.ineg, 1) := by decide +kernel
theorem dX3_readOpening_62 : decode cX3_readOpening 62 = .ok (.invokevirtual 94, 3) := by decide +kernel
theorem dX3_readOpening_65 : decode cX3_readOpening 65 = .ok (.aload_n 0, 1) := by decide +kernel
theorem dX3_readOpening_66 : decode cX3_readOpening 66 = .ok (.dup, 1) := by decide +kernel
theorem dX3_readOpening_67 : decode cX3_readOpening 67 = .ok (.getfield 37, 3) := by decide +kernel
theorem dX3_readOpening_70 : decode cX3_readOpening 70 = .ok (.iconst 1, 1) := by decide +kernel
theorem dX3_readOpening_71 : decode cX3_readOpening 71 = .ok (.isub, 1) := by decide +kernel
theorem dX3_readOpening_72 : decode cX3_readOpening 72 = .ok (.putfield 37, 3) := by decide +kernel
theorem dX3_readOpening_75 : decode cX3_readOpening 75 = .ok (.return_, 1) := by decide +kernel
def Rd_readOpening_65 (rc : Nat → Int32 → Nm → Option Nm) (ν : Nm) : Option Nm :=
  some (si ν 271 8 ((gi ν 271 8) - (1 : Int32)))
set_option maxRecDepth 100000 in
set_option maxHeartbeats 4000000 in
theorem t_Rd_readOpening_65 {g : GG} {d : Nat} {d2 : Nat} {rc : Nat → Int32 → Nm → Option Nm} (hb0 : 10 ≤ d2) (hr0 : ∀ (ν : Nm) (r : Nm), rc 0 0 ν = some r → Ct g d2 mX3_readSum [.ref 271] (zem ν) (none, zem r)) (hr1 : ∀ (ν : Nm) (r : Nm), rc 1 0 ν = some r → Ct g d2 mX3_readProduct [.ref 271] (zem ν) (none, zem r)) (hr2 : ∀ (ν : Nm) (r : Nm), rc 2 0 ν = some r → Ct g d2 mX3_readOne [.ref 271] (zem ν) (none, zem r)) (hr3 : ∀ (a0 : Int32) (ν : Nm) (r : Nm), rc 3 a0 ν = some r → Ct g d2 mX3_readOpening [.ref 271, .int a0] (zem ν) (none, zem r)) (hr4 : ∀ (ν : Nm) (r : Nm), rc 4 0 ν = some r → Ct g d2 mX3_readIf [.ref 271] (zem ν) (none, zem r)) (hr5 : ∀ (ν : Nm) (r : Nm), rc 5 0 ν = some r → Ct g d2 mX3_readEither [.ref 271] (zem ν) (none, zem r)) (hr6 : ∀ (ν : Nm) (r : Nm), rc 6 0 ν = some r → Ct g d2 mX3_readBoth [.ref 271] (zem ν) (none, zem r)) (hr7 : ∀ (ν : Nm) (r : Nm), rc 7 0 ν = some r → Ct g d2 mX3_readAsk [.ref 271] (zem ν) (none, zem r)) (hd0 : d2 + 1 ≤ d) : ∀ (ν : Nm) (r : Nm), Rd_readOpening_65 rc ν = some r → Z g d (0, 0) mX3_readOpening 333 0 0 65 [(0, .ref 271)] [] (zem ν) (zF g (none, zem r)) := by
  intro ν r h
  unfold Rd_readOpening_65 at h
  refine z_aload_n dX3_readOpening_65 0 rfl ?_
  refine z_dup dX3_readOpening_66 rfl ?_
  refine y_getI dX3_readOpening_67 zk_271 flRX3_37 ?_
  refine z_iconst (M := mX3_readOpening) (v := 1) dX3_readOpening_70 rfl ?_
  refine z_isub dX3_readOpening_71 ?_
  refine y_putI dX3_readOpening_72 zk_271 flRX3_37 ⟨rfl, rfl⟩ ?_
  cases h
  exact z_vret dX3_readOpening_75 rfl
def Rd_readOpening_62 (rc : Nat → Int32 → Nm → Option Nm) (s0 : Int32) (s1 : Nat) (ν : Nm) : Option Nm :=
  (Tx_addCode s1 s0 ν).bind fun v1 =>
  Rd_readOpening_65 rc v1
set_option maxRecDepth 100000 in
set_option maxHeartbeats 4000000 in
theorem t_Rd_readOpening_62 {g : GG} {d : Nat} {d2 : Nat} {rc : Nat → Int32 → Nm → Option Nm} (hb0 : 10 ≤ d2) (hr0 : ∀ (ν : Nm) (r : Nm), rc 0 0 ν = some r → Ct g d2 mX3_readSum [.ref 271] (zem ν) (none, zem r)) (hr1 : ∀ (ν : Nm) (r : Nm), rc 1 0 ν = some r → Ct g d2 mX3_readProduct [.ref 271] (zem ν) (none, zem r)) (hr2 : ∀ (ν : Nm) (r : Nm), rc 2 0 ν = some r → Ct g d2 mX3_readOne [.ref 271] (zem ν) (none, zem r)) (hr3 : ∀ (a0 : Int32) (ν : Nm) (r : Nm), rc 3 a0 ν = some r → Ct g d2 mX3_readOpening [.ref 271, .int a0] (zem ν) (none, zem r)) (hr4 : ∀ (ν : Nm) (r : Nm), rc 4 0 ν = some r → Ct g d2 mX3_readIf [.ref 271] (zem ν) (none, zem r)) (hr5 : ∀ (ν : Nm) (r : Nm), rc 5 0 ν = some r → Ct g d2 mX3_readEither [.ref 271] (zem ν) (none, zem r)) (hr6 : ∀ (ν : Nm) (r : Nm), rc 6 0 ν = some r → Ct g d2 mX3_readBoth [.ref 271] (zem ν) (none, zem r)) (hr7 : ∀ (ν : Nm) (r : Nm), rc 7 0 ν = some r → Ct g d2 mX3_readAsk [.ref 271] (zem ν) (none, zem r)) (hd0 : d2 + 1 ≤ d) : ∀ (s0 : Int32) (s1 : Nat) (ν : Nm) (r : Nm), zk 333 s1 (7, 0) → Rd_readOpening_62 rc s0 s1 ν = some r → Z g d (0, 0) mX3_readOpening 333 0 0 62 [(0, .ref 271)] [.int s0, .ref s1] (zem ν) (zF g (none, zem r)) := by
  intro s0 s1 ν r hs1 h
  unfold Rd_readOpening_62 at h
  obtain ⟨v1, he1, h⟩ := obind h
  refine y_Vv (M := mX3_readOpening) (Y := mX9_addCode) (d2 := d - 1) (As := [.int s0]) (st := []) dX3_readOpening_62 mlRX3_94 cv_X9_addCode hs1 (ct_Tx_addCode (by omega) hs1 he1) (by omega) rfl rfl (Nat.le_of_ble_eq_true rfl) ?_
  exact t_Rd_readOpening_65 hb0 hr0 hr1 hr2 hr3 hr4 hr5 hr6 hr7 hd0  v1 _ h
def Rd_readOpening (rc : Nat → Int32 → Nm → Option Nm) (x1 : Int32) (ν : Nm) : Option Nm :=
  (Rd_opens ν).bind fun v1 =>
  (if ¬ (b2i v1.1) = 0 then
    (if ¬ x1 = (40 : Int32) then
      (if ¬ x1 = (15 : Int32) then
        (rc 2 0 v1.2).bind fun v5 =>
        if zkT (gx v5) then
        (if ¬ x1 = (45 : Int32) then
          Rd_readOpening_62 rc (-x1) (gx v5) v5
        else
          Rd_readOpening_62 rc (-130 : Int32) (gx v5) v5)
        else none
      else
        (rc 4 0 v1.2).bind fun v8 =>
        Rd_readOpening_65 rc v8)
    else
      (rc 0 0 v1.2).bind fun v9 =>
      (Rd_expect (41 : Int32) v9).bind fun v10 =>
      Rd_readOpening_65 rc v10)
  else
    some v1.2)
set_option maxRecDepth 100000 in
set_option maxHeartbeats 4000000 in
theorem t_Rd_readOpening {g : GG} {d : Nat} {d2 : Nat} {rc : Nat → Int32 → Nm → Option Nm} (hb0 : 10 ≤ d2) (hr0 : ∀ (ν : Nm) (r : Nm), rc 0 0 ν = some r → Ct g d2 mX3_readSum [.ref 271] (zem ν) (none, zem r)) (hr1 : ∀ (ν : Nm) (r : Nm), rc 1 0 ν = some r → Ct g d2 mX3_readProduct [.ref 271] (zem ν) (none, zem r)) (hr2 : ∀ (ν : Nm) (r : Nm), rc 2 0 ν = some r → Ct g d2 mX3_readOne [.ref 271] (zem ν) (none, zem r)) (hr3 : ∀ (a0 : Int32) (ν : Nm) (r : Nm), rc 3 a0 ν = some r → Ct g d2 mX3_readOpening [.ref 271, .int a0] (zem ν) (none, zem r)) (hr4 : ∀ (ν : Nm) (r : Nm), rc 4 0 ν = some r → Ct g d2 mX3_readIf [.ref 271] (zem ν) (none, zem r)) (hr5 : ∀ (ν : Nm) (r : Nm), rc 5 0 ν = some r → Ct g d2 mX3_readEither [.ref 271] (zem ν) (none, zem r)) (hr6 : ∀ (ν : Nm) (r : Nm), rc 6 0 ν = some r → Ct g d2 mX3_readBoth [.ref 271] (zem ν) (none, zem r)) (hr7 : ∀ (ν : Nm) (r : Nm), rc 7 0 ν = some r → Ct g d2 mX3_readAsk [.ref 271] (zem ν) (none, zem r)) (hd0 : d2 + 1 ≤ d) : ∀ (x1 : Int32) (ν : Nm) (r : Nm), Rd_readOpening rc x1 ν = some r → Z g d (0, 0) mX3_readOpening 333 0 0 0 [(0, .ref 271), (1, .int x1)] [] (zem ν) (zF g (none, zem r)) := by
  intro x1 ν r h
  unfold Rd_readOpening at h
  refine z_aload_n dX3_readOpening_0 0 rfl ?_
  obtain ⟨v1, he1, h⟩ := obind h
  refine y_Vi (M := mX3_readOpening) (Y := mX3_opens) (d2 := d - 1) (As := []) (st := []) dX3_readOpening_1 mlRX3_106 cv_X3_opens zk_271 (ct_Rd_opens (by omega) he1) (by omega) rfl rfl (Nat.le_of_ble_eq_true rfl) ?_
  refine z_if_ne 8 dX3_readOpening_4 rfl (fun hc2 => ?_) (fun hc2 => ?_)
  · replace h := oT hc2 h
    refine z_iload_n dX3_readOpening_8 1 rfl ?_
    refine z_bipush (M := mX3_readOpening) (v := 40) dX3_readOpening_9 rfl ?_
    refine z_icmp_ne 27 dX3_readOpening_11 rfl (fun hc3 => ?_) (fun hc3 => ?_)
    · replace h := oT hc3 h
      refine z_iload_n dX3_readOpening_27 1 rfl ?_
      refine z_bipush (M := mX3_readOpening) (v := 15) dX3_readOpening_28 rfl ?_
      refine z_icmp_ne 40 dX3_readOpening_30 rfl (fun hc4 => ?_) (fun hc4 => ?_)
      · replace h := oT hc4 h
        refine z_aload_n dX3_readOpening_40 0 rfl ?_
        obtain ⟨v5, he5, h⟩ := obind h
        refine y_Vv (M := mX3_readOpening) (Y := mX3_readOne) (d2 := d2) (As := []) (st := []) dX3_readOpening_41 mlRX3_97 cv_X3_readOne zk_271 (hr2 v1.2 _ he5) (by omega) rfl rfl (Nat.le_of_ble_eq_true rfl) ?_
        refine z_aload_n dX3_readOpening_44 0 rfl ?_
        obtain ⟨hT6, h⟩ := oif h
        refine y_getT dX3_readOpening_45 zk_271 flRX3_25 (zkT_ok hT6) ?_
        refine z_iload_n dX3_readOpening_48 1 rfl ?_
        refine z_bipush (M := mX3_readOpening) (v := 45) dX3_readOpening_49 rfl ?_
        refine z_icmp_ne 60 dX3_readOpening_51 rfl (fun hc7 => ?_) (fun hc7 => ?_)
        · replace h := oT hc7 h
          refine z_iload_n dX3_readOpening_60 1 rfl ?_
          refine z_ineg dX3_readOpening_61 ?_
          refine z_lv (lv2 := [(0, .ref 271)]) [0] rfl ?_
          exact t_Rd_readOpening_62 hb0 hr0 hr1 hr2 hr3 hr4 hr5 hr6 hr7 hd0  (-x1) (gx v5) v5 _ (zkT_ok hT6) h
        · replace h := oFn hc7 h
          refine z_sipush (M := mX3_readOpening) (v := -130) dX3_readOpening_54 rfl ?_
          refine z_goto 62 dX3_readOpening_57 rfl ?_
          refine z_lv (lv2 := [(0, .ref 271)]) [0] rfl ?_
          exact t_Rd_readOpening_62 hb0 hr0 hr1 hr2 hr3 hr4 hr5 hr6 hr7 hd0  (-130 : Int32) (gx v5) v5 _ (zkT_ok hT6) h
      · replace h := oFn hc4 h
        refine z_aload_n dX3_readOpening_33 0 rfl ?_
        obtain ⟨v8, he8, h⟩ := obind h
        refine y_Vv (M := mX3_readOpening) (Y := mX3_readIf) (d2 := d2) (As := []) (st := []) dX3_readOpening_34 mlRX3_110 cv_X3_readIf zk_271 (hr4 v1.2 _ he8) (by omega) rfl rfl (Nat.le_of_ble_eq_true rfl) ?_
        refine z_goto 65 dX3_readOpening_37 rfl ?_
        refine z_lv (lv2 := [(0, .ref 271)]) [0] rfl ?_
        exact t_Rd_readOpening_65 hb0 hr0 hr1 hr2 hr3 hr4 hr5 hr6 hr7 hd0  v8 _ h
    · replace h := oFn hc3 h
      refine z_aload_n dX3_readOpening_14 0 rfl ?_
      obtain ⟨v9, he9, h⟩ := obind h
      refine y_Vv (M := mX3_readOpening) (Y := mX3_readSum) (d2 := d2) (As := []) (st := []) dX3_readOpening_15 mlRX3_64 cv_X3_readSum zk_271 (hr0 v1.2 _ he9) (by omega) rfl rfl (Nat.le_of_ble_eq_true rfl) ?_
      refine z_aload_n dX3_readOpening_18 0 rfl ?_
      refine z_bipush (M := mX3_readOpening) (v := 41) dX3_readOpening_19 rfl ?_
      obtain ⟨v10, he10, h⟩ := obind h
      refine y_Vv (M := mX3_readOpening) (Y := mX3_expect) (d2 := d - 1) (As := [.int (41 : Int32)]) (st := []) dX3_readOpening_21 mlRX3_77 cv_X3_expect zk_271 (ct_Rd_expect (by omega) he10) (by omega) rfl rfl (Nat.le_of_ble_eq_true rfl) ?_
      refine z_goto 65 dX3_readOpening_24 rfl ?_
      refine z_lv (lv2 := [(0, .ref 271)]) [0] rfl ?_
      exact t_Rd_readOpening_65 hb0 hr0 hr1 hr2 hr3 hr4 hr5 hr6 hr7 hd0  v10 _ h
  · replace h := oFn hc2 h
    cases h
    exact z_vret dX3_readOpening_7 rfl
theorem ct_Rd_readOpening_o {g : GG} {d : Nat} {x1 : Int32} {ν : Nm} {r : Nm} {d2 : Nat} {rc : Nat → Int32 → Nm → Option Nm} (hb0 : 10 ≤ d2) (hr0 : ∀ (ν : Nm) (r : Nm), rc 0 0 ν = some r → Ct g d2 mX3_readSum [.ref 271] (zem ν) (none, zem r)) (hr1 : ∀ (ν : Nm) (r : Nm), rc 1 0 ν = some r → Ct g d2 mX3_readProduct [.ref 271] (zem ν) (none, zem r)) (hr2 : ∀ (ν : Nm) (r : Nm), rc 2 0 ν = some r → Ct g d2 mX3_readOne [.ref 271] (zem ν) (none, zem r)) (hr3 : ∀ (a0 : Int32) (ν : Nm) (r : Nm), rc 3 a0 ν = some r → Ct g d2 mX3_readOpening [.ref 271, .int a0] (zem ν) (none, zem r)) (hr4 : ∀ (ν : Nm) (r : Nm), rc 4 0 ν = some r → Ct g d2 mX3_readIf [.ref 271] (zem ν) (none, zem r)) (hr5 : ∀ (ν : Nm) (r : Nm), rc 5 0 ν = some r → Ct g d2 mX3_readEither [.ref 271] (zem ν) (none, zem r)) (hr6 : ∀ (ν : Nm) (r : Nm), rc 6 0 ν = some r → Ct g d2 mX3_readBoth [.ref 271] (zem ν) (none, zem r)) (hr7 : ∀ (ν : Nm) (r : Nm), rc 7 0 ν = some r → Ct g d2 mX3_readAsk [.ref 271] (zem ν) (none, zem r)) (hd0 : d2 + 1 ≤ d)  (h : Rd_readOpening rc x1 ν = some r) : Ct g d mX3_readOpening [.ref 271, .int x1] (zem ν) (none, zem r) := y_entry in_X3_readOpening (Nat.le_of_ble_eq_true rfl) rfl (t_Rd_readOpening hb0 hr0 hr1 hr2 hr3 hr4 hr5 hr6 hr7 hd0 x1 ν r h)
-- FuseMinutes$Reader.readIf()V
theorem dX3_readIf_0 : decode cX3_readIf 0 = .ok (.aload_n 0, 1) := by decide +kernel
theorem dX3_readIf_1 : decode cX3_readIf 1 = .ok (.invokevirtual 113, 3) := by decide +kernel
theorem dX3_readIf_4 : decode cX3_readIf 4 = .ok (.aload_n 0, 1) := by decide +kernel
theorem dX3_readIf_5 : decode cX3_readIf 5 = .ok (.bipush 16, 2) := by decide +kernel
theorem dX3_readIf_7 : decode cX3_readIf 7 = .ok (.invokevirtual 77, 3) := by decide +kernel
theorem dX3_readIf_10 : decode cX3_readIf 10 = .ok (.aload_n 0, 1) := by decide +kernel
theorem dX3_readIf_11 : decode cX3_readIf 11 = .ok (.invokevirtual 64, 3) := by decide +kernel
theorem dX3_readIf_14 : decode cX3_readIf 14 = .ok (.aload_n 0, 1) := by decide +kernel
theorem dX3_readIf_15 : decode cX3_readIf 15 = .ok (.bipush 17, 2) := by decide +kernel
theorem dX3_readIf_17 : decode cX3_readIf 17 = .ok (.invokevirtual 77, 3) := by decide +kernel
theorem dX3_readIf_20 : decode cX3_readIf 20 = .ok (.aload_n 0, 1) := by decide +kernel
theorem dX3_readIf_21 : decode cX3_readIf 21 = .ok (.invokevirtual 64, 3) := by decide +kernel
theorem dX3_readIf_24 : decode cX3_readIf 24 = .ok (.aload_n 0, 1) := by decide +kernel
theorem dX3_readIf_25 : decode cX3_readIf 25 = .ok (.bipush 18, 2) := by decide +kernel
theorem dX3_readIf_27 : decode cX3_readIf 27 = .ok (.invokevirtual 77, 3) := by decide +kernel
theorem dX3_readIf_30 : decode cX3_readIf 30 = .ok (.aload_n 0, 1) := by decide +kernel
theorem dX3_readIf_31 : decode cX3_readIf 31 = .ok (.getfield 25, 3) := by decide +kernel
theorem dX3_readIf_34 : decode cX3_readIf 34 = .ok (.bipush (-15), 2) := by decide +kernel
theorem dX3_readIf_36 : decode cX3_readIf 36 = .ok (.invokevirtual 94, 3) := by decide +kernel
theorem dX3_readIf_39 : decode cX3_readIf 39 = .ok (.return_, 1) := by decide +kernel
def Rd_readIf (rc : Nat → Int32 → Nm → Option Nm) (ν : Nm) : Option Nm :=
  (rc 5 0 ν).bind fun v1 =>
  (Rd_expect (16 : Int32) v1).bind fun v2 =>
  (rc 0 0 v2).bind fun v3 =>
  (Rd_expect (17 : Int32) v3).bind fun v4 =>
  (rc 0 0 v4).bind fun v5 =>
  (Rd_expect (18 : Int32) v5).bind fun v6 =>
  if zkT (gx v6) then
  (Tx_addCode (gx v6) (-15 : Int32) v6).bind fun v8 =>
  some v8
  else none
set_option maxRecDepth 100000 in
set_option maxHeartbeats 4000000 in
theorem t_Rd_readIf {g : GG} {d : Nat} {d2 : Nat} {rc : Nat → Int32 → Nm → Option Nm} (hb0 : 10 ≤ d2) (hr0 : ∀ (ν : Nm) (r : Nm), rc 0 0 ν = some r → Ct g d2 mX3_readSum [.ref 271] (zem ν) (none, zem r)) (hr1 : ∀ (ν : Nm) (r : Nm), rc 1 0 ν = some r → Ct g d2 mX3_readProduct [.ref 271] (zem ν) (none, zem r)) (hr2 : ∀ (ν : Nm) (r : Nm), rc 2 0 ν = some r → Ct g d2 mX3_readOne [.ref 271] (zem ν) (none, zem r)) (hr3 : ∀ (a0 : Int32) (ν : Nm) (r : Nm), rc 3 a0 ν = some r → Ct g d2 mX3_readOpening [.ref 271, .int a0] (zem ν) (none, zem r)) (hr4 : ∀ (ν : Nm) (r : Nm), rc 4 0 ν = some r → Ct g d2 mX3_readIf [.ref 271] (zem ν) (none, zem r)) (hr5 : ∀ (ν : Nm) (r : Nm), rc 5 0 ν = some r → Ct g d2 mX3_readEither [.ref 271] (zem ν) (none, zem r)) (hr6 : ∀ (ν : Nm) (r : Nm), rc 6 0 ν = some r → Ct g d2 mX3_readBoth [.ref 271] (zem ν) (none, zem r)) (hr7 : ∀ (ν : Nm) (r : Nm), rc 7 0 ν = some r → Ct g d2 mX3_readAsk [.ref 271] (zem ν) (none, zem r)) (hd0 : d2 + 1 ≤ d) : ∀ (ν : Nm) (r : Nm), Rd_readIf rc ν = some r → Z g d (0, 0) mX3_readIf 333 0 0 0 [(0, .ref 271)] [] (zem ν) (zF g (none, zem r)) := by
  intro ν r h
  unfold Rd_readIf at h
  refine z_aload_n dX3_readIf_0 0 rfl ?_
  obtain ⟨v1, he1, h⟩ := obind h
  refine y_Vv (M := mX3_readIf) (Y := mX3_readEither) (d2 := d2) (As := []) (st := []) dX3_readIf_1 mlRX3_113 cv_X3_readEither zk_271 (hr5 ν _ he1) (by omega) rfl rfl (Nat.le_of_ble_eq_true rfl) ?_
  refine z_aload_n dX3_readIf_4 0 rfl ?_
  refine z_bipush (M := mX3_readIf) (v := 16) dX3_readIf_5 rfl ?_
  obtain ⟨v2, he2, h⟩ := obind h
  refine y_Vv (M := mX3_readIf) (Y := mX3_expect) (d2 := d - 1) (As := [.int (16 : Int32)]) (st := []) dX3_readIf_7 mlRX3_77 cv_X3_expect zk_271 (ct_Rd_expect (by omega) he2) (by omega) rfl rfl (Nat.le_of_ble_eq_true rfl) ?_
  refine z_aload_n dX3_readIf_10 0 rfl ?_
  obtain ⟨v3, he3, h⟩ := obind h
  refine y_Vv (M := mX3_readIf) (Y := mX3_readSum) (d2 := d2) (As := []) (st := []) dX3_readIf_11 mlRX3_64 cv_X3_readSum zk_271 (hr0 v2 _ he3) (by omega) rfl rfl (Nat.le_of_ble_eq_true rfl) ?_
  refine z_aload_n dX3_readIf_14 0 rfl ?_
  refine z_bipush (M := mX3_readIf) (v := 17) dX3_readIf_15 rfl ?_
  obtain ⟨v4, he4, h⟩ := obind h
  refine y_Vv (M := mX3_readIf) (Y := mX3_expect) (d2 := d - 1) (As := [.int (17 : Int32)]) (st := []) dX3_readIf_17 mlRX3_77 cv_X3_expect zk_271 (ct_Rd_expect (by omega) he4) (by omega) rfl rfl (Nat.le_of_ble_eq_true rfl) ?_
  refine z_aload_n dX3_readIf_20 0 rfl ?_
  obtain ⟨v5, he5, h⟩ := obind h
  refine y_Vv (M := mX3_readIf) (Y := mX3_readSum) (d2 := d2) (As := []) (st := []) dX3_readIf_21 mlRX3_64 cv_X3_readSum zk_271 (hr0 v4 _ he5) (by omega) rfl rfl (Nat.le_of_ble_eq_true rfl) ?_
  refine z_aload_n dX3_readIf_24 0 rfl ?_
  refine z_bipush (M := mX3_readIf) (v := 18) dX3_readIf_25 rfl ?_
  obtain ⟨v6, he6, h⟩ := obind h
  refine y_Vv (M := mX3_readIf) (Y := mX3_expect) (d2 := d - 1) (As := [.int (18 : Int32)]) (st := []) dX3_readIf_27 mlRX3_77 cv_X3_expect zk_271 (ct_Rd_expect (by omega) he6) (by omega) rfl rfl (Nat.le_of_ble_eq_true rfl) ?_
  refine z_aload_n dX3_readIf_30 0 rfl ?_
  obtain ⟨hT7, h⟩ := oif h
  refine y_getT dX3_readIf_31 zk_271 flRX3_25 (zkT_ok hT7) ?_
  refine z_bipush (M := mX3_readIf) (v := -15) dX3_readIf_34 rfl ?_
  obtain ⟨v8, he8, h⟩ := obind h
  refine y_Vv (M := mX3_readIf) (Y := mX9_addCode) (d2 := d - 1) (As := [.int (-15 : Int32)]) (st := []) dX3_readIf_36 mlRX3_94 cv_X9_addCode (zkT_ok hT7) (ct_Tx_addCode (by omega) (zkT_ok hT7) he8) (by omega) rfl rfl (Nat.le_of_ble_eq_true rfl) ?_
  cases h
  exact z_vret dX3_readIf_39 rfl
theorem ct_Rd_readIf_o {g : GG} {d : Nat} {ν : Nm} {r : Nm} {d2 : Nat} {rc : Nat → Int32 → Nm → Option Nm} (hb0 : 10 ≤ d2) (hr0 : ∀ (ν : Nm) (r : Nm), rc 0 0 ν = some r → Ct g d2 mX3_readSum [.ref 271] (zem ν) (none, zem r)) (hr1 : ∀ (ν : Nm) (r : Nm), rc 1 0 ν = some r → Ct g d2 mX3_readProduct [.ref 271] (zem ν) (none, zem r)) (hr2 : ∀ (ν : Nm) (r : Nm), rc 2 0 ν = some r → Ct g d2 mX3_readOne [.ref 271] (zem ν) (none, zem r)) (hr3 : ∀ (a0 : Int32) (ν : Nm) (r : Nm), rc 3 a0 ν = some r → Ct g d2 mX3_readOpening [.ref 271, .int a0] (zem ν) (none, zem r)) (hr4 : ∀ (ν : Nm) (r : Nm), rc 4 0 ν = some r → Ct g d2 mX3_readIf [.ref 271] (zem ν) (none, zem r)) (hr5 : ∀ (ν : Nm) (r : Nm), rc 5 0 ν = some r → Ct g d2 mX3_readEither [.ref 271] (zem ν) (none, zem r)) (hr6 : ∀ (ν : Nm) (r : Nm), rc 6 0 ν = some r → Ct g d2 mX3_readBoth [.ref 271] (zem ν) (none, zem r)) (hr7 : ∀ (ν : Nm) (r : Nm), rc 7 0 ν = some r → Ct g d2 mX3_readAsk [.ref 271] (zem ν) (none, zem r)) (hd0 : d2 + 1 ≤ d)  (h : Rd_readIf rc ν = some r) : Ct g d mX3_readIf [.ref 271] (zem ν) (none, zem r) := y_entry in_X3_readIf (Nat.le_of_ble_eq_true rfl) rfl (t_Rd_readIf hb0 hr0 hr1 hr2 hr3 hr4 hr5 hr6 hr7 hd0 ν r h)
-- FuseMinutes$Reader.readEither()V
theorem dX3_readEither_0 : decode cX3_readEither 0 = .ok (.aload_n 0, 1) := by decide +kernel
theorem dX3_readEither_1 : decode cX3_readEither 1 = .ok (.invokevirtual 116, 3) := by decide +kernel
theorem dX3_readEither_4 : decode cX3_readEither 4 = .ok (.iconst 0, 1) := by decide +kernel
theorem dX3_readEither_5 : decode cX3_readEither 5 = .ok (.istore_n 1, 1) := by decide +kernel
theorem dX3_readEither_6 : decode cX3_readEither 6 = .ok (.iload_n 1, 1) := by decide +kernel
theorem dX3_readEither_7 : decode cX3_readEither 7 = .ok (.sipush 300, 3) := by decide +kernel
theorem dX3_readEither_10 : decode cX3_readEither 10 = .ok (.if_icmp .ge 35, 3) := by decide +kernel
theorem dX3_readEither_13 : decode cX3_readEither 13 = .ok (.aload_n 0, 1) := by decide +kernel
theorem dX3_readEither_14 : decode cX3_readEither 14 = .ok (.getfield 43, 3) := by decide +kernel
theorem dX3_readEither_17 : decode cX3_readEither 17 = .ok (.bipush 19, 2) := by decide +kernel
theorem dX3_readEither_19 : decode cX3_readEither 19 = .ok (.if_icmp .ne 26, 3) := by decide +kernel
theorem dX3_readEither_22 : decode cX3_readEither 22 = .ok (.aload_n 0, 1) := by decide +kernel
theorem dX3_readEither_23 : decode cX3_readEither 23 = .ok (.invokevirtual 40, 3) := by decide +kernel
theorem dX3_readEither_26 : decode cX3_readEither 26 = .ok (.aload_n 0, 1) := by decide +kernel
theorem dX3_readEither_27 : decode cX3_readEither 27 = .ok (.invokevirtual 116, 3) := by decide +kernel
theorem dX3_readEither_30 : decode cX3_readEither 30 = .ok (.aload_n 0, 1) := by decide +kernel
theorem dX3_readEither_31 : decode cX3_readEither 31 = .ok (.getfield 25, 3) := by decide +kernel
theorem dX3_readEither_34 : decode cX3_readEither 34 = .ok (.bipush (-19), 2) := by decide +kernel
theorem dX3_readEither_36 : decode cX3_readEither 36 = .ok (.invokevirtual 94, 3) := by decide +kernel
theorem dX3_readEither_39 : decode cX3_readEither 39 = .ok (.iinc 1 1, 3) := by decide +kernel
theorem dX3_readEither_42 : decode cX3_readEither 42 = .ok (.goto (-36), 3) := by decide +kernel
theorem dX3_readEither_45 : decode cX3_readEither 45 = .ok (.return_, 1) := by decide +kernel
def Rd_readEither_6 (rc : Nat → Int32 → Nm → Option Nm) : Nat → Int32 → Nm → Option Nm
  | 0, _, _ => none
  | f + 1, x1, ν =>
    (if (300 : Int32) ≤ x1 then
      some ν
    else
      (if ¬ (gi ν 271 5) = (19 : Int32) then
        some ν
      else
        (Rd_next ν).bind fun v3 =>
        (rc 6 0 v3).bind fun v4 =>
        if zkT (gx v4) then
        (Tx_addCode (gx v4) (-19 : Int32) v4).bind fun v6 =>
        (Rd_readEither_6 rc f) (x1 + (1 : Int32)) v6
        else none))
set_option maxRecDepth 100000 in
set_option maxHeartbeats 4000000 in
theorem t_Rd_readEither_6 {g : GG} {d : Nat} {d2 : Nat} {rc : Nat → Int32 → Nm → Option Nm} (hb0 : 10 ≤ d2) (hr0 : ∀ (ν : Nm) (r : Nm), rc 0 0 ν = some r → Ct g d2 mX3_readSum [.ref 271] (zem ν) (none, zem r)) (hr1 : ∀ (ν : Nm) (r : Nm), rc 1 0 ν = some r → Ct g d2 mX3_readProduct [.ref 271] (zem ν) (none, zem r)) (hr2 : ∀ (ν : Nm) (r : Nm), rc 2 0 ν = some r → Ct g d2 mX3_readOne [.ref 271] (zem ν) (none, zem r)) (hr3 : ∀ (a0 : Int32) (ν : Nm) (r : Nm), rc 3 a0 ν = some r → Ct g d2 mX3_readOpening [.ref 271, .int a0] (zem ν) (none, zem r)) (hr4 : ∀ (ν : Nm) (r : Nm), rc 4 0 ν = some r → Ct g d2 mX3_readIf [.ref 271] (zem ν) (none, zem r)) (hr5 : ∀ (ν : Nm) (r : Nm), rc 5 0 ν = some r → Ct g d2 mX3_readEither [.ref 271] (zem ν) (none, zem r)) (hr6 : ∀ (ν : Nm) (r : Nm), rc 6 0 ν = some r → Ct g d2 mX3_readBoth [.ref 271] (zem ν) (none, zem r)) (hr7 : ∀ (ν : Nm) (r : Nm), rc 7 0 ν = some r → Ct g d2 mX3_readAsk [.ref 271] (zem ν) (none, zem r)) (hd0 : d2 + 1 ≤ d) : ∀ (f : Nat), ∀ (x1 : Int32) (ν : Nm) (r : Nm), Rd_readEither_6 rc f x1 ν = some r → Z g d (0, 0) mX3_readEither 333 0 0 6 [(0, .ref 271), (1, .int x1)] [] (zem ν) (zF g (none, zem r)) := by
  intro f
  induction f with
  | zero =>
    intro x1 ν r h
    cases h
  | succ f ih =>
    intro x1 ν r h
    rw [Rd_readEither_6] at h
    refine z_iload_n dX3_readEither_6 1 rfl ?_
    refine z_sipush (M := mX3_readEither) (v := 300) dX3_readEither_7 rfl ?_
    refine z_icmp_ge 45 dX3_readEither_10 rfl (fun hc1 => ?_) (fun hc1 => ?_)
    · replace h := oT hc1 h
      cases h
      exact z_vret dX3_readEither_45 rfl
    · replace h := oF hc1 h
      refine z_aload_n dX3_readEither_13 0 rfl ?_
      refine y_getI dX3_readEither_14 zk_271 flRX3_43 ?_
      refine z_bipush (M := mX3_readEither) (v := 19) dX3_readEither_17 rfl ?_
      refine z_icmp_ne 45 dX3_readEither_19 rfl (fun hc2 => ?_) (fun hc2 => ?_)
      · replace h := oT hc2 h
        cases h
        exact z_vret dX3_readEither_45 rfl
      · replace h := oFn hc2 h
        refine z_aload_n dX3_readEither_22 0 rfl ?_
        obtain ⟨v3, he3, h⟩ := obind h
        refine y_Vv (M := mX3_readEither) (Y := mX3_next) (d2 := d - 1) (As := []) (st := []) dX3_readEither_23 mlRX3_40 cv_X3_next zk_271 (ct_Rd_next (by omega) he3) (by omega) rfl rfl (Nat.le_of_ble_eq_true rfl) ?_
        refine z_aload_n dX3_readEither_26 0 rfl ?_
        obtain ⟨v4, he4, h⟩ := obind h
        refine y_Vv (M := mX3_readEither) (Y := mX3_readBoth) (d2 := d2) (As := []) (st := []) dX3_readEither_27 mlRX3_116 cv_X3_readBoth zk_271 (hr6 v3 _ he4) (by omega) rfl rfl (Nat.le_of_ble_eq_true rfl) ?_
        refine z_aload_n dX3_readEither_30 0 rfl ?_
        obtain ⟨hT5, h⟩ := oif h
        refine y_getT dX3_readEither_31 zk_271 flRX3_25 (zkT_ok hT5) ?_
        refine z_bipush (M := mX3_readEither) (v := -19) dX3_readEither_34 rfl ?_
        obtain ⟨v6, he6, h⟩ := obind h
        refine y_Vv (M := mX3_readEither) (Y := mX9_addCode) (d2 := d - 1) (As := [.int (-19 : Int32)]) (st := []) dX3_readEither_36 mlRX3_94 cv_X9_addCode (zkT_ok hT5) (ct_Tx_addCode (by omega) (zkT_ok hT5) he6) (by omega) rfl rfl (Nat.le_of_ble_eq_true rfl) ?_
        refine z_iinc (M := mX3_readEither) (v := (x1 + (1 : Int32))) (lv2 := [(1, .int (x1 + (1 : Int32))), (0, .ref 271)]) dX3_readEither_39 1 rfl rfl (Nat.le_of_ble_eq_true rfl) rfl ?_
        refine z_goto 6 dX3_readEither_42 rfl ?_
        refine z_lv (lv2 := [(0, .ref 271), (1, .int (x1 + (1 : Int32)))]) [1, 0] rfl ?_
        exact ih (x1 + (1 : Int32)) v6 _ h
def Rd_readEither (rc : Nat → Int32 → Nm → Option Nm) (ν : Nm) : Option Nm :=
  (rc 6 0 ν).bind fun v1 =>
  Rd_readEither_6 rc FU (0 : Int32) v1
set_option maxRecDepth 100000 in
set_option maxHeartbeats 4000000 in
theorem t_Rd_readEither {g : GG} {d : Nat} {d2 : Nat} {rc : Nat → Int32 → Nm → Option Nm} (hb0 : 10 ≤ d2) (hr0 : ∀ (ν : Nm) (r : Nm), rc 0 0 ν = some r → Ct g d2 mX3_readSum [.ref 271] (zem ν) (none, zem r)) (hr1 : ∀ (ν : Nm) (r : Nm), rc 1 0 ν = some r → Ct g d2 mX3_readProduct [.ref 271] (zem ν) (none, zem r)) (hr2 : ∀ (ν : Nm) (r : Nm), rc 2 0 ν = some r → Ct g d2 mX3_readOne [.ref 271] (zem ν) (none, zem r)) (hr3 : ∀ (a0 : Int32) (ν : Nm) (r : Nm), rc 3 a0 ν = some r → Ct g d2 mX3_readOpening [.ref 271, .int a0] (zem ν) (none, zem r)) (hr4 : ∀ (ν : Nm) (r : Nm), rc 4 0 ν = some r → Ct g d2 mX3_readIf [.ref 271] (zem ν) (none, zem r)) (hr5 : ∀ (ν : Nm) (r : Nm), rc 5 0 ν = some r → Ct g d2 mX3_readEither [.ref 271] (zem ν) (none, zem r)) (hr6 : ∀ (ν : Nm) (r : Nm), rc 6 0 ν = some r → Ct g d2 mX3_readBoth [.ref 271] (zem ν) (none, zem r)) (hr7 : ∀ (ν : Nm) (r : Nm), rc 7 0 ν = some r → Ct g d2 mX3_readAsk [.ref 271] (zem ν) (none, zem r)) (hd0 : d2 + 1 ≤ d) : ∀ (ν : Nm) (r : Nm), Rd_readEither rc ν = some r → Z g d (0, 0) mX3_readEither 333 0 0 0 [(0, .ref 271)] [] (zem ν) (zF g (none, zem r)) := by
  intro ν r h
  unfold Rd_readEither at h
  refine z_aload_n dX3_readEither_0 0 rfl ?_
  obtain ⟨v1, he1, h⟩ := obind h
  refine y_Vv (M := mX3_readEither) (Y := mX3_readBoth) (d2 := d2) (As := []) (st := []) dX3_readEither_1 mlRX3_116 cv_X3_readBoth zk_271 (hr6 ν _ he1) (by omega) rfl rfl (Nat.le_of_ble_eq_true rfl) ?_
  refine z_iconst (M := mX3_readEither) (v := 0) dX3_readEither_4 rfl ?_
  refine z_istore_n (M := mX3_readEither) (lv2 := [(1, .int (0 : Int32)), (0, .ref 271)]) dX3_readEither_5 (Nat.le_of_ble_eq_true rfl) rfl ?_
  refine z_lv (lv2 := [(0, .ref 271), (1, .int (0 : Int32))]) [1, 0] rfl ?_
  exact t_Rd_readEither_6 hb0 hr0 hr1 hr2 hr3 hr4 hr5 hr6 hr7 hd0 FU (0 : Int32) v1 _ h
theorem ct_Rd_readEither_o {g : GG} {d : Nat} {ν : Nm} {r : Nm} {d2 : Nat} {rc : Nat → Int32 → Nm → Option Nm} (hb0 : 10 ≤ d2) (hr0 : ∀ (ν : Nm) (r : Nm), rc 0 0 ν = some r → Ct g d2 mX3_readSum [.ref 271] (zem ν) (none, zem r)) (hr1 : ∀ (ν : Nm) (r : Nm), rc 1 0 ν = some r → Ct g d2 mX3_readProduct [.ref 271] (zem ν) (none, zem r)) (hr2 : ∀ (ν : Nm) (r : Nm), rc 2 0 ν = some r → Ct g d2 mX3_readOne [.ref 271] (zem ν) (none, zem r)) (hr3 : ∀ (a0 : Int32) (ν : Nm) (r : Nm), rc 3 a0 ν = some r → Ct g d2 mX3_readOpening [.ref 271, .int a0] (zem ν) (none, zem r)) (hr4 : ∀ (ν : Nm) (r : Nm), rc 4 0 ν = some r → Ct g d2 mX3_readIf [.ref 271] (zem ν) (none, zem r)) (hr5 : ∀ (ν : Nm) (r : Nm), rc 5 0 ν = some r → Ct g d2 mX3_readEither [.ref 271] (zem ν) (none, zem r)) (hr6 : ∀ (ν : Nm) (r : Nm), rc 6 0 ν = some r → Ct g d2 mX3_readBoth [.ref 271] (zem ν) (none, zem r)) (hr7 : ∀ (ν : Nm) (r : Nm), rc 7 0 ν = some r → Ct g d2 mX3_readAsk [.ref 271] (zem ν) (none, zem r)) (hd0 : d2 + 1 ≤ d)  (h : Rd_readEither rc ν = some r) : Ct g d mX3_readEither [.ref 271] (zem ν) (none, zem r) := y_entry in_X3_readEither (Nat.le_of_ble_eq_true rfl) rfl (t_Rd_readEither hb0 hr0 hr1 hr2 hr3 hr4 hr5 hr6 hr7 hd0 ν r h)
-- FuseMinutes$Reader.readBoth()V
theorem dX3_readBoth_0 : decode cX3_readBoth 0 = .ok (.aload_n 0, 1) := by decide +kernel
theorem dX3_readBoth_1 : decode cX3_readBoth 1 = .ok (.invokevirtual 119, 3) := by decide +kernel
theorem dX3_readBoth_4 : decode cX3_readBoth 4 = .ok (.iconst 0, 1) := by decide +kernel
theorem dX3_readBoth_5 : decode cX3_readBoth 5 = .ok (.istore_n 1, 1) := by decide +kernel
theorem dX3_readBoth_6 : decode cX3_readBoth 6 = .ok (.iload_n 1, 1) := by decide +kernel
theorem dX3_readBoth_7 : decode cX3_readBoth 7 = .ok (.sipush 300, 3) := by decide +kernel
theorem dX3_readBoth_10 : decode cX3_readBoth 10 = .ok (.if_icmp .ge 35, 3) := by decide +kernel
theorem dX3_readBoth_13 : decode cX3_readBoth 13 = .ok (.aload_n 0, 1) := by decide +kernel
theorem dX3_readBoth_14 : decode cX3_readBoth 14 = .ok (.getfield 43, 3) := by decide +kernel
theorem dX3_readBoth_17 : decode cX3_readBoth 17 = .ok (.bipush 20, 2) := by decide +kernel
theorem dX3_readBoth_19 : decode cX3_readBoth 19 = .ok (.if_icmp .ne 26, 3) := by decide +kernel
theorem dX3_readBoth_22 : decode cX3_readBoth 22 = .ok (.aload_n 0, 1) := by decide +kernel
theorem dX3_readBoth_23 : decode cX3_readBoth 23 = .ok (.invokevirtual 40, 3) := by decide +kernel
theorem dX3_readBoth_26 : decode cX3_readBoth 26 = .ok (.aload_n 0, 1) := by decide +kernel
theorem dX3_readBoth_27 : decode cX3_readBoth 27 = .ok (.invokevirtual 119, 3) := by decide +kernel
theorem dX3_readBoth_30 : decode cX3_readBoth 30 = .ok (.aload_n 0, 1) := by decide +kernel
theorem dX3_readBoth_31 : decode cX3_readBoth 31 = .ok (.getfield 25, 3) := by decide +kernel
theorem dX3_readBoth_34 : decode cX3_readBoth 34 = .ok (.bipush (-20), 2) := by decide +kernel
theorem dX3_readBoth_36 : decode cX3_readBoth 36 = .ok (.invokevirtual 94, 3) := by decide +kernel
theorem dX3_readBoth_39 : decode cX3_readBoth 39 = .ok (.iinc 1 1, 3) := by decide +kernel
theorem dX3_readBoth_42 : decode cX3_readBoth 42 = .ok (.goto (-36), 3) := by decide +kernel
theorem dX3_readBoth_45 : decode cX3_readBoth 45 = .ok (.return_, 1) := by decide +kernel
def Rd_readBoth_6 (rc : Nat → Int32 → Nm → Option Nm) : Nat → Int32 → Nm → Option Nm
  | 0, _, _ => none
  | f + 1, x1, ν =>
    (if (300 : Int32) ≤ x1 then
      some ν
    else
      (if ¬ (gi ν 271 5) = (20 : Int32) then
        some ν
      else
        (Rd_next ν).bind fun v3 =>
        (rc 7 0 v3).bind fun v4 =>
        if zkT (gx v4) then
        (Tx_addCode (gx v4) (-20 : Int32) v4).bind fun v6 =>
        (Rd_readBoth_6 rc f) (x1 + (1 : Int32)) v6
        else none))
set_option maxRecDepth 100000 in
set_option maxHeartbeats 4000000 in
theorem t_Rd_readBoth_6 {g : GG} {d : Nat} {d2 : Nat} {rc : Nat → Int32 → Nm → Option Nm} (hb0 : 10 ≤ d2) (hr0 : ∀ (ν : Nm) (r : Nm), rc 0 0 ν = some r → Ct g d2 mX3_readSum [.ref 271] (zem ν) (none, zem r)) (hr1 : ∀ (ν : Nm) (r : Nm), rc 1 0 ν = some r → Ct g d2 mX3_readProduct [.ref 271] (zem ν) (none, zem r)) (hr2 : ∀ (ν : Nm) (r : Nm), rc 2 0 ν = some r → Ct g d2 mX3_readOne [.ref 271] (zem ν) (none, zem r)) (hr3 : ∀ (a0 : Int32) (ν : Nm) (r : Nm), rc 3 a0 ν = some r → Ct g d2 mX3_readOpening [.ref 271, .int a0] (zem ν) (none, zem r)) (hr4 : ∀ (ν : Nm) (r : Nm), rc 4 0 ν = some r → Ct g d2 mX3_readIf [.ref 271] (zem ν) (none, zem r)) (hr5 : ∀ (ν : Nm) (r : Nm), rc 5 0 ν = some r → Ct g d2 mX3_readEither [.ref 271] (zem ν) (none, zem r)) (hr6 : ∀ (ν : Nm) (r : Nm), rc 6 0 ν = some r → Ct g d2 mX3_readBoth [.ref 271] (zem ν) (none, zem r)) (hr7 : ∀ (ν : Nm) (r : Nm), rc 7 0 ν = some r → Ct g d2 mX3_readAsk [.ref 271] (zem ν) (none, zem r)) (hd0 : d2 + 1 ≤ d) : ∀ (f : Nat), ∀ (x1 : Int32) (ν : Nm) (r : Nm), Rd_readBoth_6 rc f x1 ν = some r → Z g d (0, 0) mX3_readBoth 333 0 0 6 [(0, .ref 271), (1, .int x1)] [] (zem ν) (zF g (none, zem r)) := by
  intro f
  induction f with
  | zero =>
    intro x1 ν r h
    cases h
  | succ f ih =>
    intro x1 ν r h
    rw [Rd_readBoth_6] at h
    refine z_iload_n dX3_readBoth_6 1 rfl ?_
    refine z_sipush (M := mX3_readBoth) (v := 300) dX3_readBoth_7 rfl ?_
    refine z_icmp_ge 45 dX3_readBoth_10 rfl (fun hc1 => ?_) (fun hc1 => ?_)
    · replace h := oT hc1 h
      cases h
      exact z_vret dX3_readBoth_45 rfl
    · replace h := oF hc1 h
      refine z_aload_n dX3_readBoth_13 0 rfl ?_
      refine y_getI dX3_readBoth_14 zk_271 flRX3_43 ?_
      refine z_bipush (M := mX3_readBoth) (v := 20) dX3_readBoth_17 rfl ?_
      refine z_icmp_ne 45 dX3_readBoth_19 rfl (fun hc2 => ?_) (fun hc2 => ?_)
      · replace h := oT hc2 h
        cases h
        exact z_vret dX3_readBoth_45 rfl
      · replace h := oFn hc2 h
        refine z_aload_n dX3_readBoth_22 0 rfl ?_
        obtain ⟨v3, he3, h⟩ := obind h
        refine y_Vv (M := mX3_readBoth) (Y := mX3_next) (d2 := d - 1) (As := []) (st := []) dX3_readBoth_23 mlRX3_40 cv_X3_next zk_271 (ct_Rd_next (by omega) he3) (by omega) rfl rfl (Nat.le_of_ble_eq_true rfl) ?_
        refine z_aload_n dX3_readBoth_26 0 rfl ?_
        obtain ⟨v4, he4, h⟩ := obind h
        refine y_Vv (M := mX3_readBoth) (Y := mX3_readAsk) (d2 := d2) (As := []) (st := []) dX3_readBoth_27 mlRX3_119 cv_X3_readAsk zk_271 (hr7 v3 _ he4) (by omega) rfl rfl (Nat.le_of_ble_eq_true rfl) ?_
        refine z_aload_n dX3_readBoth_30 0 rfl ?_
        obtain ⟨hT5, h⟩ := oif h
        refine y_getT dX3_readBoth_31 zk_271 flRX3_25 (zkT_ok hT5) ?_
        refine z_bipush (M := mX3_readBoth) (v := -20) dX3_readBoth_34 rfl ?_
        obtain ⟨v6, he6, h⟩ := obind h
        refine y_Vv (M := mX3_readBoth) (Y := mX9_addCode) (d2 := d - 1) (As := [.int (-20 : Int32)]) (st := []) dX3_readBoth_36 mlRX3_94 cv_X9_addCode (zkT_ok hT5) (ct_Tx_addCode (by omega) (zkT_ok hT5) he6) (by omega) rfl rfl (Nat.le_of_ble_eq_true rfl) ?_
        refine z_iinc (M := mX3_readBoth) (v := (x1 + (1 : Int32))) (lv2 := [(1, .int (x1 + (1 : Int32))), (0, .ref 271)]) dX3_readBoth_39 1 rfl rfl (Nat.le_of_ble_eq_true rfl) rfl ?_
        refine z_goto 6 dX3_readBoth_42 rfl ?_
        refine z_lv (lv2 := [(0, .ref 271), (1, .int (x1 + (1 : Int32)))]) [1, 0] rfl ?_
        exact ih (x1 + (1 : Int32)) v6 _ h
def Rd_readBoth (rc : Nat → Int32 → Nm → Option Nm) (ν : Nm) : Option Nm :=
  (rc 7 0 ν).bind fun v1 =>
  Rd_readBoth_6 rc FU (0 : Int32) v1
set_option maxRecDepth 100000 in
set_option maxHeartbeats 4000000 in
theorem t_Rd_readBoth {g : GG} {d : Nat} {d2 : Nat} {rc : Nat → Int32 → Nm → Option Nm} (hb0 : 10 ≤ d2) (hr0 : ∀ (ν : Nm) (r : Nm), rc 0 0 ν = some r → Ct g d2 mX3_readSum [.ref 271] (zem ν) (none, zem r)) (hr1 : ∀ (ν : Nm) (r : Nm), rc 1 0 ν = some r → Ct g d2 mX3_readProduct [.ref 271] (zem ν) (none, zem r)) (hr2 : ∀ (ν : Nm) (r : Nm), rc 2 0 ν = some r → Ct g d2 mX3_readOne [.ref 271] (zem ν) (none, zem r)) (hr3 : ∀ (a0 : Int32) (ν : Nm) (r : Nm), rc 3 a0 ν = some r → Ct g d2 mX3_readOpening [.ref 271, .int a0] (zem ν) (none, zem r)) (hr4 : ∀ (ν : Nm) (r : Nm), rc 4 0 ν = some r → Ct g d2 mX3_readIf [.ref 271] (zem ν) (none, zem r)) (hr5 : ∀ (ν : Nm) (r : Nm), rc 5 0 ν = some r → Ct g d2 mX3_readEither [.ref 271] (zem ν) (none, zem r)) (hr6 : ∀ (ν : Nm) (r : Nm), rc 6 0 ν = some r → Ct g d2 mX3_readBoth [.ref 271] (zem ν) (none, zem r)) (hr7 : ∀ (ν : Nm) (r : Nm), rc 7 0 ν = some r → Ct g d2 mX3_readAsk [.ref 271] (zem ν) (none, zem r)) (hd0 : d2 + 1 ≤ d) : ∀ (ν : Nm) (r : Nm), Rd_readBoth rc ν = some r → Z g d (0, 0) mX3_readBoth 333 0 0 0 [(0, .ref 271)] [] (zem ν) (zF g (none, zem r)) := by
  intro ν r h
  unfold Rd_readBoth at h
  refine z_aload_n dX3_readBoth_0 0 rfl ?_
  obtain ⟨v1, he1, h⟩ := obind h
  refine y_Vv (M := mX3_readBoth) (Y := mX3_readAsk) (d2 := d2) (As := []) (st := []) dX3_readBoth_1 mlRX3_119 cv_X3_readAsk zk_271 (hr7 ν _ he1) (by omega) rfl rfl (Nat.le_of_ble_eq_true rfl) ?_
  refine z_iconst (M := mX3_readBoth) (v := 0) dX3_readBoth_4 rfl ?_
  refine z_istore_n (M := mX3_readBoth) (lv2 := [(1, .int (0 : Int32)), (0, .ref 271)]) dX3_readBoth_5 (Nat.le_of_ble_eq_true rfl) rfl ?_
  refine z_lv (lv2 := [(0, .ref 271), (1, .int (0 : Int32))]) [1, 0] rfl ?_
  exact t_Rd_readBoth_6 hb0 hr0 hr1 hr2 hr3 hr4 hr5 hr6 hr7 hd0 FU (0 : Int32) v1 _ h
theorem ct_Rd_readBoth_o {g : GG} {d : Nat} {ν : Nm} {r : Nm} {d2 : Nat} {rc : Nat → Int32 → Nm → Option Nm} (hb0 : 10 ≤ d2) (hr0 : ∀ (ν : Nm) (r : Nm), rc 0 0 ν = some r → Ct g d2 mX3_readSum [.ref 271] (zem ν) (none, zem r)) (hr1 : ∀ (ν : Nm) (r : Nm), rc 1 0 ν = some r → Ct g d2 mX3_readProduct [.ref 271] (zem ν) (none, zem r)) (hr2 : ∀ (ν : Nm) (r : Nm), rc 2 0 ν = some r → Ct g d2 mX3_readOne [.ref 271] (zem ν) (none, zem r)) (hr3 : ∀ (a0 : Int32) (ν : Nm) (r : Nm), rc 3 a0 ν = some r → Ct g d2 mX3_readOpening [.ref 271, .int a0] (zem ν) (none, zem r)) (hr4 : ∀ (ν : Nm) (r : Nm), rc 4 0 ν = some r → Ct g d2 mX3_readIf [.ref 271] (zem ν) (none, zem r)) (hr5 : ∀ (ν : Nm) (r : Nm), rc 5 0 ν = some r → Ct g d2 mX3_readEither [.ref 271] (zem ν) (none, zem r)) (hr6 : ∀ (ν : Nm) (r : Nm), rc 6 0 ν = some r → Ct g d2 mX3_readBoth [.ref 271] (zem ν) (none, zem r)) (hr7 : ∀ (ν : Nm) (r : Nm), rc 7 0 ν = some r → Ct g d2 mX3_readAsk [.ref 271] (zem ν) (none, zem r)) (hd0 : d2 + 1 ≤ d)  (h : Rd_readBoth rc ν = some r) : Ct g d mX3_readBoth [.ref 271] (zem ν) (none, zem r) := y_entry in_X3_readBoth (Nat.le_of_ble_eq_true rfl) rfl (t_Rd_readBoth hb0 hr0 hr1 hr2 hr3 hr4 hr5 hr6 hr7 hd0 ν r h)
-- FuseMinutes$Reader.readAsk()V
theorem dX3_readAsk_0 : decode cX3_readAsk 0 = .ok (.aload_n 0, 1) := by decide +kernel
theorem dX3_readAsk_1 : decode cX3_readAsk 1 = .ok (.getfield 43, 3) := by decide +kernel
theorem dX3_readAsk_4 : decode cX3_readAsk 4 = .ok (.bipush 21, 2) := by decide +kernel
theorem dX3_readAsk_6 : decode cX3_readAsk 6 = .ok (.if_icmp .ne 34, 3) := by decide +kernel
theorem dX3_readAsk_9 : decode cX3_readAsk 9 = .ok (.aload_n 0, 1) := by decide +kernel
theorem dX3_readAsk_10 : decode cX3_readAsk 10 = .ok (.invokevirtual 106, 3) := by decide +kernel
theorem dX3_readAsk_13 : decode cX3_readAsk 13 = .ok (.ifCond .eq 26, 3) := by decide +kernel
theorem dX3_readAsk_16 : decode cX3_readAsk 16 = .ok (.aload_n 0, 1) := by decide +kernel
theorem dX3_readAsk_17 : decode cX3_readAsk 17 = .ok (.invokevirtual 119, 3) := by decide +kernel
theorem dX3_readAsk_20 : decode cX3_readAsk 20 = .ok (.aload_n 0, 1) := by decide +kernel
theorem dX3_readAsk_21 : decode cX3_readAsk 21 = .ok (.getfield 25, 3) := by decide +kernel
theorem dX3_readAsk_24 : decode cX3_readAsk 24 = .ok (.bipush (-21), 2) := by decide +kernel
theorem dX3_readAsk_26 : decode cX3_readAsk 26 = .ok (.invokevirtual 94, 3) := by decide +kernel
theorem dX3_readAsk_29 : decode cX3_readAsk 29 = .ok (.aload_n 0, 1) := by decide +kernel
theorem dX3_readAsk_30 : decode cX3_readAsk 30 = .ok (.dup, 1) := by decide +kernel
theorem dX3_readAsk_31 : decode cX3_readAsk 31 = .ok (.getfield 37, 3) := by decide +kernel
theorem dX3_readAsk_34 : decode cX3_readAsk 34 = .ok (.iconst 1, 1) := by decide +kernel
theorem dX3_readAsk_35 : decode cX3_readAsk 35 = .ok (.isub, 1) := by decide +kernel
theorem dX3_readAsk_36 : decode cX3_readAsk 36 = .ok (.putfield 37, 3) := by decide +kernel
theorem dX3_readAsk_39 : decode cX3_readAsk 39 = .ok (.return_, 1) := by decide +kernel
theorem dX3_readAsk_40 : decode cX3_readAsk 40 = .ok (.aload_n 0, 1) := by decide +kernel
theorem dX3_readAsk_41 : decode cX3_readAsk 41 = .ok (.invokevirtual 64, 3) := by decide +kernel
theorem dX3_readAsk_44 : decode cX3_readAsk 44 = .ok (.aload_n 0, 1) := by decide +kernel
theorem dX3_readAsk_45 : decode cX3_readAsk 45 = .ok (.getfield 43, 3) := by decide +kernel
theorem dX3_readAsk_48 : decode cX3_readAsk 48 = .ok (.istore_n 1, 1) := by decide +kernel
theorem dX3_readAsk_49 : decode cX3_readAsk 49 = .ok (.iload_n 1, 1) := by decide +kernel
theorem dX3_readAsk_50 : decode cX3_readAsk 50 = .ok (.invokestatic 122, 3) := by decide +kernel
theorem dX3_readAsk_53 : decode cX3_readAsk 53 = .ok (.ifCond .eq 23, 3) := by decide +kernel
theorem dX3_readAsk_56 : decode cX3_readAsk 56 = .ok (.aload_n 0, 1) := by decide +kernel
theorem dX3_readAsk_57 : decode cX3_readAsk 57 = .ok (.invokevirtual 40, 3) := by decide +kernel
theorem dX3_readAsk_60 : decode cX3_readAsk 60 = .ok (.aload_n 0, 1) := by decide +kernel
theorem dX3_readAsk_61 : decode cX3_readAsk 61 = .ok (.invokevirtual 64, 3) := by decide +kernel
theorem dX3_readAsk_64 : decode cX3_readAsk 64 = .ok (.aload_n 0, 1) := by decide +kernel
theorem dX3_readAsk_65 : decode cX3_readAsk 65 = .ok (.getfield 25, 3) := by decide +kernel
theorem dX3_readAsk_68 : decode cX3_readAsk 68 = .ok (.iload_n 1, 1) := by decide +kernel
theorem dX3_readAsk_69 : decode cX3_readAsk 69 = .ok (.ineg, 1) := by decide +kernel
theorem dX3_readAsk_70 : decode cX3_readAsk 70 = .ok (.invokevirtual 94, 3) := by decide +kernel
theorem dX3_readAsk_73 : decode cX3_readAsk 73 = .ok (.goto 8, 3) := by decide +kernel
theorem dX3_readAsk_76 : decode cX3_readAsk 76 = .ok (.aload_n 0, 1) := by decide +kernel
theorem dX3_readAsk_77 : decode cX3_readAsk 77 = .ok (.iconst 1, 1) := by decide +kernel
theorem dX3_readAsk_78 : decode cX3_readAsk 78 = .ok (.invokevirtual 50, 3) := by decide +kernel
theorem dX3_readAsk_81 : decode cX3_readAsk 81 = .ok (.return_, 1) := by decide +kernel
def Rd_readAsk (rc : Nat → Int32 → Nm → Option Nm) (ν : Nm) : Option Nm :=
  (if ¬ (gi ν 271 5) = (21 : Int32) then
    (rc 0 0 ν).bind fun v2 =>
    (Rd_compares (gi v2 271 5)).bind fun v3 =>
    (if (b2i v3) = 0 then
      (Rd_fail (1 : Int32) v2).bind fun v5 =>
      some v5
    else
      (Rd_next v2).bind fun v6 =>
      (rc 0 0 v6).bind fun v7 =>
      if zkT (gx v7) then
      (Tx_addCode (gx v7) (-(gi v2 271 5)) v7).bind fun v9 =>
      some v9
      else none)
  else
    (Rd_opens ν).bind fun v10 =>
    (if (b2i v10.1) = 0 then
      some v10.2
    else
      (rc 7 0 v10.2).bind fun v12 =>
      if zkT (gx v12) then
      (Tx_addCode (gx v12) (-21 : Int32) v12).bind fun v14 =>
      some (si v14 271 8 ((gi v14 271 8) - (1 : Int32)))
      else none))
set_option maxRecDepth 100000 in
set_option maxHeartbeats 4000000 in
theorem t_Rd_readAsk {g : GG} {d : Nat} {d2 : Nat} {rc : Nat → Int32 → Nm → Option Nm} (hb0 : 10 ≤ d2) (hr0 : ∀ (ν : Nm) (r : Nm), rc 0 0 ν = some r → Ct g d2 mX3_readSum [.ref 271] (zem ν) (none, zem r)) (hr1 : ∀ (ν : Nm) (r : Nm), rc 1 0 ν = some r → Ct g d2 mX3_readProduct [.ref 271] (zem ν) (none, zem r)) (hr2 : ∀ (ν : Nm) (r : Nm), rc 2 0 ν = some r → Ct g d2 mX3_readOne [.ref 271] (zem ν) (none, zem r)) (hr3 : ∀ (a0 : Int32) (ν : Nm) (r : Nm), rc 3 a0 ν = some r → Ct g d2 mX3_readOpening [.ref 271, .int a0] (zem ν) (none, zem r)) (hr4 : ∀ (ν : Nm) (r : Nm), rc 4 0 ν = some r → Ct g d2 mX3_readIf [.ref 271] (zem ν) (none, zem r)) (hr5 : ∀ (ν : Nm) (r : Nm), rc 5 0 ν = some r → Ct g d2 mX3_readEither [.ref 271] (zem ν) (none, zem r)) (hr6 : ∀ (ν : Nm) (r : Nm), rc 6 0 ν = some r → Ct g d2 mX3_readBoth [.ref 271] (zem ν) (none, zem r)) (hr7 : ∀ (ν : Nm) (r : Nm), rc 7 0 ν = some r → Ct g d2 mX3_readAsk [.ref 271] (zem ν) (none, zem r)) (hd0 : d2 + 1 ≤ d) : ∀ (ν : Nm) (r : Nm), Rd_readAsk rc ν = some r → Z g d (0, 0) mX3_readAsk 333 0 0 0 [(0, .ref 271)] [] (zem ν) (zF g (none, zem r)) := by
  intro ν r h
  unfold Rd_readAsk at h
  refine z_aload_n dX3_readAsk_0 0 rfl ?_
  refine y_getI dX3_readAsk_1 zk_271 flRX3_43 ?_
  refine z_bipush (M := mX3_readAsk) (v := 21) dX3_readAsk_4 rfl ?_
  refine z_icmp_ne 40 dX3_readAsk_6 rfl (fun hc1 => ?_) (fun hc1 => ?_)
  · replace h := oT hc1 h
    refine z_aload_n dX3_readAsk_40 0 rfl ?_
    obtain ⟨v2, he2, h⟩ := obind h
    refine y_Vv (M := mX3_readAsk) (Y := mX3_readSum) (d2 := d2) (As := []) (st := []) dX3_readAsk_41 mlRX3_64 cv_X3_readSum zk_271 (hr0 ν _ he2) (by omega) rfl rfl (Nat.le_of_ble_eq_true rfl) ?_
    refine z_aload_n dX3_readAsk_44 0 rfl ?_
    refine y_getI dX3_readAsk_45 zk_271 flRX3_43 ?_
    refine z_istore_n (M := mX3_readAsk) (lv2 := [(1, .int (gi v2 271 5)), (0, .ref 271)]) dX3_readAsk_48 (Nat.le_of_ble_eq_true rfl) rfl ?_
    refine z_iload_n dX3_readAsk_49 0 rfl ?_
    obtain ⟨v3, he3, h⟩ := obind h
    refine y_Si (M := mX3_readAsk) (Y := mX3_compares) (d2 := d - 1) (As := [.int (gi v2 271 5)]) (st := []) dX3_readAsk_50 mlRX3_122 cv_X3_compares (ct_Rd_compares (by omega) he3) (by omega) rfl rfl (Nat.le_of_ble_eq_true rfl) ?_
    refine z_if_eq 76 dX3_readAsk_53 rfl (fun hc4 => ?_) (fun hc4 => ?_)
    · replace h := oT hc4 h
      refine z_aload_n dX3_readAsk_76 1 rfl ?_
      refine z_iconst (M := mX3_readAsk) (v := 1) dX3_readAsk_77 rfl ?_
      obtain ⟨v5, he5, h⟩ := obind h
      refine y_Vv (M := mX3_readAsk) (Y := mX3_fail) (d2 := d - 1) (As := [.int (1 : Int32)]) (st := []) dX3_readAsk_78 mlRX3_50 cv_X3_fail zk_271 (ct_Rd_fail (by omega) he5) (by omega) rfl rfl (Nat.le_of_ble_eq_true rfl) ?_
      cases h
      exact z_vret dX3_readAsk_81 rfl
    · replace h := oF hc4 h
      refine z_aload_n dX3_readAsk_56 1 rfl ?_
      obtain ⟨v6, he6, h⟩ := obind h
      refine y_Vv (M := mX3_readAsk) (Y := mX3_next) (d2 := d - 1) (As := []) (st := []) dX3_readAsk_57 mlRX3_40 cv_X3_next zk_271 (ct_Rd_next (by omega) he6) (by omega) rfl rfl (Nat.le_of_ble_eq_true rfl) ?_
      refine z_aload_n dX3_readAsk_60 1 rfl ?_
      obtain ⟨v7, he7, h⟩ := obind h
      refine y_Vv (M := mX3_readAsk) (Y := mX3_readSum) (d2 := d2) (As := []) (st := []) dX3_readAsk_61 mlRX3_64 cv_X3_readSum zk_271 (hr0 v6 _ he7) (by omega) rfl rfl (Nat.le_of_ble_eq_true rfl) ?_
      refine z_aload_n dX3_readAsk_64 1 rfl ?_
      obtain ⟨hT8, h⟩ := oif h
      refine y_getT dX3_readAsk_65 zk_271 flRX3_25 (zkT_ok hT8) ?_
      refine z_iload_n dX3_readAsk_68 0 rfl ?_
      refine z_ineg dX3_readAsk_69 ?_
      obtain ⟨v9, he9, h⟩ := obind h
      refine y_Vv (M := mX3_readAsk) (Y := mX9_addCode) (d2 := d - 1) (As := [.int (-(gi v2 271 5))]) (st := []) dX3_readAsk_70 mlRX3_94 cv_X9_addCode (zkT_ok hT8) (ct_Tx_addCode (by omega) (zkT_ok hT8) he9) (by omega) rfl rfl (Nat.le_of_ble_eq_true rfl) ?_
      refine z_goto 81 dX3_readAsk_73 rfl ?_
      cases h
      exact z_vret dX3_readAsk_81 rfl
  · replace h := oFn hc1 h
    refine z_aload_n dX3_readAsk_9 0 rfl ?_
    obtain ⟨v10, he10, h⟩ := obind h
    refine y_Vi (M := mX3_readAsk) (Y := mX3_opens) (d2 := d - 1) (As := []) (st := []) dX3_readAsk_10 mlRX3_106 cv_X3_opens zk_271 (ct_Rd_opens (by omega) he10) (by omega) rfl rfl (Nat.le_of_ble_eq_true rfl) ?_
    refine z_if_eq 39 dX3_readAsk_13 rfl (fun hc11 => ?_) (fun hc11 => ?_)
    · replace h := oT hc11 h
      cases h
      exact z_vret dX3_readAsk_39 rfl
    · replace h := oF hc11 h
      refine z_aload_n dX3_readAsk_16 0 rfl ?_
      obtain ⟨v12, he12, h⟩ := obind h
      refine y_Vv (M := mX3_readAsk) (Y := mX3_readAsk) (d2 := d2) (As := []) (st := []) dX3_readAsk_17 mlRX3_119 cv_X3_readAsk zk_271 (hr7 v10.2 _ he12) (by omega) rfl rfl (Nat.le_of_ble_eq_true rfl) ?_
      refine z_aload_n dX3_readAsk_20 0 rfl ?_
      obtain ⟨hT13, h⟩ := oif h
      refine y_getT dX3_readAsk_21 zk_271 flRX3_25 (zkT_ok hT13) ?_
      refine z_bipush (M := mX3_readAsk) (v := -21) dX3_readAsk_24 rfl ?_
      obtain ⟨v14, he14, h⟩ := obind h
      refine y_Vv (M := mX3_readAsk) (Y := mX9_addCode) (d2 := d - 1) (As := [.int (-21 : Int32)]) (st := []) dX3_readAsk_26 mlRX3_94 cv_X9_addCode (zkT_ok hT13) (ct_Tx_addCode (by omega) (zkT_ok hT13) he14) (by omega) rfl rfl (Nat.le_of_ble_eq_true rfl) ?_
      refine z_aload_n dX3_readAsk_29 0 rfl ?_
      refine z_dup dX3_readAsk_30 rfl ?_
      refine y_getI dX3_readAsk_31 zk_271 flRX3_37 ?_
      refine z_iconst (M := mX3_readAsk) (v := 1) dX3_readAsk_34 rfl ?_
      refine z_isub dX3_readAsk_35 ?_
      refine y_putI dX3_readAsk_36 zk_271 flRX3_37 ⟨rfl, rfl⟩ ?_
      cases h
      exact z_vret dX3_readAsk_39 rfl
theorem ct_Rd_readAsk_o {g : GG} {d : Nat} {ν : Nm} {r : Nm} {d2 : Nat} {rc : Nat → Int32 → Nm → Option Nm} (hb0 : 10 ≤ d2) (hr0 : ∀ (ν : Nm) (r : Nm), rc 0 0 ν = some r → Ct g d2 mX3_readSum [.ref 271] (zem ν) (none, zem r)) (hr1 : ∀ (ν : Nm) (r : Nm), rc 1 0 ν = some r → Ct g d2 mX3_readProduct [.ref 271] (zem ν) (none, zem r)) (hr2 : ∀ (ν : Nm) (r : Nm), rc 2 0 ν = some r → Ct g d2 mX3_readOne [.ref 271] (zem ν) (none, zem r)) (hr3 : ∀ (a0 : Int32) (ν : Nm) (r : Nm), rc 3 a0 ν = some r → Ct g d2 mX3_readOpening [.ref 271, .int a0] (zem ν) (none, zem r)) (hr4 : ∀ (ν : Nm) (r : Nm), rc 4 0 ν = some r → Ct g d2 mX3_readIf [.ref 271] (zem ν) (none, zem r)) (hr5 : ∀ (ν : Nm) (r : Nm), rc 5 0 ν = some r → Ct g d2 mX3_readEither [.ref 271] (zem ν) (none, zem r)) (hr6 : ∀ (ν : Nm) (r : Nm), rc 6 0 ν = some r → Ct g d2 mX3_readBoth [.ref 271] (zem ν) (none, zem r)) (hr7 : ∀ (ν : Nm) (r : Nm), rc 7 0 ν = some r → Ct g d2 mX3_readAsk [.ref 271] (zem ν) (none, zem r)) (hd0 : d2 + 1 ≤ d)  (h : Rd_readAsk rc ν = some r) : Ct g d mX3_readAsk [.ref 271] (zem ν) (none, zem r) := y_entry in_X3_readAsk (Nat.le_of_ble_eq_true rfl) rfl (t_Rd_readAsk hb0 hr0 hr1 hr2 hr3 hr4 hr5 hr6 hr7 hd0 ν r h)
def G_rd : Nat → Nat → Int32 → Nm → Option Nm
  | 0, _, _, _ => none
  | f + 1, t, a0, ν => if t = 0 then Rd_readSum (G_rd f) ν else if t = 1 then Rd_readProduct (G_rd f) ν else if t = 2 then Rd_readOne (G_rd f) ν else if t = 3 then Rd_readOpening (G_rd f) a0 ν else if t = 4 then Rd_readIf (G_rd f) ν else if t = 5 then Rd_readEither (G_rd f) ν else if t = 6 then Rd_readBoth (G_rd f) ν else if t = 7 then Rd_readAsk (G_rd f) ν else none
theorem g_rd {g : GG} : ∀ (f d : Nat), 10 + f ≤ d → (∀ (ν : Nm) (r : Nm), G_rd f 0 0 ν = some r → Ct g d mX3_readSum [.ref 271] (zem ν) (none, zem r)) ∧ (∀ (ν : Nm) (r : Nm), G_rd f 1 0 ν = some r → Ct g d mX3_readProduct [.ref 271] (zem ν) (none, zem r)) ∧ (∀ (ν : Nm) (r : Nm), G_rd f 2 0 ν = some r → Ct g d mX3_readOne [.ref 271] (zem ν) (none, zem r)) ∧ (∀ (a0 : Int32) (ν : Nm) (r : Nm), G_rd f 3 a0 ν = some r → Ct g d mX3_readOpening [.ref 271, .int a0] (zem ν) (none, zem r)) ∧ (∀ (ν : Nm) (r : Nm), G_rd f 4 0 ν = some r → Ct g d mX3_readIf [.ref 271] (zem ν) (none, zem r)) ∧ (∀ (ν : Nm) (r : Nm), G_rd f 5 0 ν = some r → Ct g d mX3_readEither [.ref 271] (zem ν) (none, zem r)) ∧ (∀ (ν : Nm) (r : Nm), G_rd f 6 0 ν = some r → Ct g d mX3_readBoth [.ref 271] (zem ν) (none, zem r)) ∧ (∀ (ν : Nm) (r : Nm), G_rd f 7 0 ν = some r → Ct g d mX3_readAsk [.ref 271] (zem ν) (none, zem r)) := by
  intro f
  induction f with
  | zero =>
    intro d _
    refine ⟨?_, ?_, ?_, ?_, ?_, ?_, ?_, ?_⟩
    · intro ν r h
      cases h
    · intro ν r h
      cases h
    · intro ν r h
      cases h
    · intro a0 ν r h
      cases h
    · intro ν r h
      cases h
    · intro ν r h
      cases h
    · intro ν r h
      cases h
    · intro ν r h
      cases h
  | succ f ih =>
    intro d hd
    obtain ⟨i0, i1, i2, i3, i4, i5, i6, i7⟩ := ih (d - 1) (by omega)
    refine ⟨?_, ?_, ?_, ?_, ?_, ?_, ?_, ?_⟩
    · intro ν r h
      exact ct_Rd_readSum_o (d2 := d - 1) (rc := G_rd f) (by omega) i0 i1 i2 i3 i4 i5 i6 i7 (by omega) (by simpa [G_rd] using h)
    · intro ν r h
      exact ct_Rd_readProduct_o (d2 := d - 1) (rc := G_rd f) (by omega) i0 i1 i2 i3 i4 i5 i6 i7 (by omega) (by simpa [G_rd] using h)
    · intro ν r h
      exact ct_Rd_readOne_o (d2 := d - 1) (rc := G_rd f) (by omega) i0 i1 i2 i3 i4 i5 i6 i7 (by omega) (by simpa [G_rd] using h)
    · intro a0 ν r h
      exact ct_Rd_readOpening_o (d2 := d - 1) (rc := G_rd f) (by omega) i0 i1 i2 i3 i4 i5 i6 i7 (by omega) (by simpa [G_rd] using h)
    · intro ν r h
      exact ct_Rd_readIf_o (d2 := d - 1) (rc := G_rd f) (by omega) i0 i1 i2 i3 i4 i5 i6 i7 (by omega) (by simpa [G_rd] using h)
    · intro ν r h
      exact ct_Rd_readEither_o (d2 := d - 1) (rc := G_rd f) (by omega) i0 i1 i2 i3 i4 i5 i6 i7 (by omega) (by simpa [G_rd] using h)
    · intro ν r h
      exact ct_Rd_readBoth_o (d2 := d - 1) (rc := G_rd f) (by omega) i0 i1 i2 i3 i4 i5 i6 i7 (by omega) (by simpa [G_rd] using h)
    · intro ν r h
      exact ct_Rd_readAsk_o (d2 := d - 1) (rc := G_rd f) (by omega) i0 i1 i2 i3 i4 i5 i6 i7 (by omega) (by simpa [G_rd] using h)
theorem ct_Rd_readSum {g : GG} {d : Nat} {ν : Nm} {r : Nm} (hd0 : 210 ≤ d) (h : G_rd FR 0 0 ν = some r) : Ct g d mX3_readSum [.ref 271] (zem ν) (none, zem r) := (g_rd FR d (by unfold FR; omega)).1 ν r h
theorem ct_Rd_readProduct {g : GG} {d : Nat} {ν : Nm} {r : Nm} (hd0 : 210 ≤ d) (h : G_rd FR 1 0 ν = some r) : Ct g d mX3_readProduct [.ref 271] (zem ν) (none, zem r) := (g_rd FR d (by unfold FR; omega)).2.1 ν r h
theorem ct_Rd_readOne {g : GG} {d : Nat} {ν : Nm} {r : Nm} (hd0 : 210 ≤ d) (h : G_rd FR 2 0 ν = some r) : Ct g d mX3_readOne [.ref 271] (zem ν) (none, zem r) := (g_rd FR d (by unfold FR; omega)).2.2.1 ν r h
theorem ct_Rd_readOpening {g : GG} {d : Nat} {a0 : Int32} {ν : Nm} {r : Nm} (hd0 : 210 ≤ d) (h : G_rd FR 3 a0 ν = some r) : Ct g d mX3_readOpening [.ref 271, .int a0] (zem ν) (none, zem r) := (g_rd FR d (by unfold FR; omega)).2.2.2.1 a0 ν r h
theorem ct_Rd_readIf {g : GG} {d : Nat} {ν : Nm} {r : Nm} (hd0 : 210 ≤ d) (h : G_rd FR 4 0 ν = some r) : Ct g d mX3_readIf [.ref 271] (zem ν) (none, zem r) := (g_rd FR d (by unfold FR; omega)).2.2.2.2.1 ν r h
theorem ct_Rd_readEither {g : GG} {d : Nat} {ν : Nm} {r : Nm} (hd0 : 210 ≤ d) (h : G_rd FR 5 0 ν = some r) : Ct g d mX3_readEither [.ref 271] (zem ν) (none, zem r) := (g_rd FR d (by unfold FR; omega)).2.2.2.2.2.1 ν r h
theorem ct_Rd_readBoth {g : GG} {d : Nat} {ν : Nm} {r : Nm} (hd0 : 210 ≤ d) (h : G_rd FR 6 0 ν = some r) : Ct g d mX3_readBoth [.ref 271] (zem ν) (none, zem r) := (g_rd FR d (by unfold FR; omega)).2.2.2.2.2.2.1 ν r h
theorem ct_Rd_readAsk {g : GG} {d : Nat} {ν : Nm} {r : Nm} (hd0 : 210 ≤ d) (h : G_rd FR 7 0 ν = some r) : Ct g d mX3_readAsk [.ref 271] (zem ν) (none, zem r) := (g_rd FR d (by unfold FR; omega)).2.2.2.2.2.2.2 ν r h
-- FuseMinutes$Reader.readClause(I)V
theorem dX3_readClause_0 : decode cX3_readClause 0 = .ok (.aload_n 0, 1) := by decide +kernel
theorem dX3_readClause_1 : decode cX3_readClause 1 = .ok (.getfield 43, 3) := by decide +kernel
theorem dX3_readClause_4 : decode cX3_readClause 4 = .ok (.istore_n 2, 1) := by decide +kernel
theorem dX3_readClause_5 : decode cX3_readClause 5 = .ok (.iload_n 2, 1) := by decide +kernel
theorem dX3_readClause_6 : decode cX3_readClause 6 = .ok (.iconst 2, 1) := by decide +kernel
theorem dX3_readClause_7 : decode cX3_readClause 7 = .ok (.if_icmp .eq 8, 3) := by decide +kernel
theorem dX3_readClause_10 : decode cX3_readClause 10 = .ok (.iload_n 2, 1) := by decide +kernel
theorem dX3_readClause_11 : decode cX3_readClause 11 = .ok (.iconst 3, 1) := by decide +kernel
theorem dX3_readClause_12 : decode cX3_readClause 12 = .ok (.if_icmp .ne 7, 3) := by decide +kernel
theorem dX3_readClause_15 : decode cX3_readClause 15 = .ok (.iconst 1, 1) := by decide +kernel
theorem dX3_readClause_16 : decode cX3_readClause 16 = .ok (.goto 4, 3) := by decide +kernel
theorem dX3_readClause_19 : decode cX3_readClause 19 = .ok (.iconst 0, 1) := by decide +kernel
theorem dX3_readClause_20 : decode cX3_readClause 20 = .ok (.istore_n 3, 1) := by decide +kernel
theorem dX3_readClause_21 : decode cX3_readClause 21 = .ok (.iload_n 2, 1) := by decide +kernel
theorem dX3_readClause_22 : decode cX3_readClause 22 = .ok (.iconst 2, 1) := by decide +kernel
theorem dX3_readClause_23 : decode cX3_readClause 23 = .ok (.if_icmp .lt 14, 3) := by decide +kernel
theorem dX3_readClause_26 : decode cX3_readClause 26 = .ok (.iload_n 2, 1) := by decide +kernel
theorem dX3_readClause_27 : decode cX3_readClause 27 = .ok (.bipush 12, 2) := by decide +kernel
theorem dX3_readClause_29 : decode cX3_readClause 29 = .ok (.if_icmp .gt 8, 3) := by decide +kernel
theorem dX3_readClause_32 : decode cX3_readClause 32 = .ok (.iload_n 2, 1) := by decide +kernel
theorem dX3_readClause_33 : decode cX3_readClause 33 = .ok (.iconst 5, 1) := by decide +kernel
theorem dX3_readClause_34 : decode cX3_readClause 34 = .ok (.if_icmp .ne 11, 3) := by decide +kernel
theorem dX3_readClause_37 : decode cX3_readClause 37 = .ok (.aload_n 0, 1) := by decide +kernel
theorem dX3_readClause_38 : decode cX3_readClause 38 = .ok (.iconst 1, 1) := by decide +kernel
theorem dX3_readClause_39 : decode cX3_readClause 39 = .ok (.invokevirtual 50, 3) := by decide +kernel
theorem dX3_readClause_42 : decode cX3_readClause 42 = .ok (.goto 124, 3) := by decide +kernel
theorem dX3_readClause_45 : decode cX3_readClause 45 = .ok (.iload_n 3, 1) := by decide +kernel
theorem dX3_readClause_46 : decode cX3_readClause 46 = .ok (.ifCond .eq 24, 3) := by decide +kernel
theorem dX3_readClause_49 : decode cX3_readClause 49 = .ok (.aload_n 0, 1) := by decide +kernel
theorem dX3_readClause_50 : decode cX3_readClause 50 = .ok (.getfield 25, 3) := by decide +kernel
theorem dX3_readClause_53 : decode cX3_readClause 53 = .ok (.iload_n 2, 1) := by decide +kernel
theorem dX3_readClause_54 : decode cX3_readClause 54 = .ok (.iconst 2, 1) := by decide +kernel
theorem dX3_readClause_55 : decode cX3_readClause 55 = .ok (.isub, 1) := by decide +kernel
theorem dX3_readClause_56 : decode cX3_readClause 56 = .ok (.invokevirtual 53, 3) := by decide +kernel
theorem dX3_readClause_59 : decode cX3_readClause 59 = .ok (.ifCond .eq 11, 3) := by decide +kernel
theorem dX3_readClause_62 : decode cX3_readClause 62 = .ok (.aload_n 0, 1) := by decide +kernel
theorem dX3_readClause_63 : decode cX3_readClause 63 = .ok (.iconst 4, 1) := by decide +kernel
theorem dX3_readClause_64 : decode cX3_readClause 64 = .ok (.invokevirtual 50, 3) := by decide +kernel
theorem dX3_readClause_67 : decode cX3_readClause 67 = .ok (.goto 99, 3) := by decide +kernel
theorem dX3_readClause_70 : decode cX3_readClause 70 = .ok (.iload_n 1, 1) := by decide +kernel
theorem dX3_readClause_71 : decode cX3_readClause 71 = .ok (.bipush 24, 2) := by decide +kernel
theorem dX3_readClause_73 : decode cX3_readClause 73 = .ok (.if_icmp .lt 12, 3) := by decide +kernel
theorem dX3_readClause_76 : decode cX3_readClause 76 = .ok (.aload_n 0, 1) := by decide +kernel
theorem dX3_readClause_77 : decode cX3_readClause 77 = .ok (.bipush 6, 2) := by decide +kernel
theorem dX3_readClause_79 : decode cX3_readClause 79 = .ok (.invokevirtual 50, 3) := by decide +kernel
theorem dX3_readClause_82 : decode cX3_readClause 82 = .ok (.goto 84, 3) := by decide +kernel
theorem dX3_readClause_85 : decode cX3_readClause 85 = .ok (.aload_n 0, 1) := by decide +kernel
theorem dX3_readClause_86 : decode cX3_readClause 86 = .ok (.invokevirtual 40, 3) := by decide +kernel
theorem dX3_readClause_89 : decode cX3_readClause 89 = .ok (.iload_n 3, 1) := by decide +kernel
theorem dX3_readClause_90 : decode cX3_readClause 90 = .ok (.ifCond .eq 65, 3) := by decide +kernel
theorem dX3_readClause_93 : decode cX3_readClause 93 = .ok (.aload_n 0, 1) := by decide +kernel
theorem dX3_readClause_94 : decode cX3_readClause 94 = .ok (.iload_n 2, 1) := by decide +kernel
theorem dX3_readClause_95 : decode cX3_readClause 95 = .ok (.iconst 2, 1) := by decide +kernel
theorem dX3_readClause_96 : decode cX3_readClause 96 = .ok (.isub, 1) := by decide +kernel
theorem dX3_readClause_97 : decode cX3_readClause 97 = .ok (.putfield 57, 3) := by decide +kernel
theorem dX3_readClause_100 : decode cX3_readClause 100 = .ok (.aload_n 0, 1) := by decide +kernel
theorem dX3_readClause_101 : decode cX3_readClause 101 = .ok (.getfield 25, 3) := by decide +kernel
theorem dX3_readClause_104 : decode cX3_readClause 104 = .ok (.getfield 60, 3) := by decide +kernel
theorem dX3_readClause_107 : decode cX3_readClause 107 = .ok (.aload_n 0, 1) := by decide +kernel
theorem dX3_readClause_108 : decode cX3_readClause 108 = .ok (.getfield 57, 3) := by decide +kernel
theorem dX3_readClause_111 : decode cX3_readClause 111 = .ok (.aload_n 0, 1) := by decide +kernel
theorem dX3_readClause_112 : decode cX3_readClause 112 = .ok (.getfield 25, 3) := by decide +kernel
theorem dX3_readClause_115 : decode cX3_readClause 115 = .ok (.getfield 63, 3) := by decide +kernel
theorem dX3_readClause_118 : decode cX3_readClause 118 = .ok (.iastore, 1) := by decide +kernel
theorem dX3_readClause_119 : decode cX3_readClause 119 = .ok (.aload_n 0, 1) := by decide +kernel
theorem dX3_readClause_120 : decode cX3_readClause 120 = .ok (.invokevirtual 64, 3) := by decide +kernel
theorem dX3_readClause_123 : decode cX3_readClause 123 = .ok (.aload_n 0, 1) := by decide +kernel
theorem dX3_readClause_124 : decode cX3_readClause 124 = .ok (.getfield 25, 3) := by decide +kernel
theorem dX3_readClause_127 : decode cX3_readClause 127 = .ok (.getfield 67, 3) := by decide +kernel
theorem dX3_readClause_130 : decode cX3_readClause 130 = .ok (.aload_n 0, 1) := by decide +kernel
theorem dX3_readClause_131 : decode cX3_readClause 131 = .ok (.getfield 57, 3) := by decide +kernel
theorem dX3_readClause_134 : decode cX3_readClause 134 = .ok (.aload_n 0, 1) := by decide +kernel
theorem dX3_readClause_135 : decode cX3_readClause 135 = .ok (.getfield 25, 3) := by decide +kernel
theorem dX3_readClause_138 : decode cX3_readClause 138 = .ok (.getfield 63, 3) := by decide +kernel
theorem dX3_readClause_141 : decode cX3_readClause 141 = .ok (.iastore, 1) := by decide +kernel
theorem dX3_readClause_142 : decode cX3_readClause 142 = .ok (.aload_n 0, 1) := by decide +kernel
theorem dX3_readClause_143 : decode cX3_readClause 143 = .ok (.getfield 25, 3) := by decide +kernel
theorem dX3_readClause_146 : decode cX3_readClause 146 = .ok (.iload_n 2, 1) := by decide +kernel
theorem dX3_readClause_147 : decode cX3_readClause 147 = .ok (.iconst 0, 1) := by decide +kernel
theorem dX3_readClause_148 : decode cX3_readClause 148 = .ok (.iconst 0, 1) := by decide +kernel
theorem dX3_readClause_149 : decode cX3_readClause 149 = .ok (.invokevirtual 70, 3) := by decide +kernel
theorem dX3_readClause_152 : decode cX3_readClause 152 = .ok (.goto 8, 3) := by decide +kernel
theorem dX3_readClause_155 : decode cX3_readClause 155 = .ok (.aload_n 0, 1) := by decide +kernel
theorem dX3_readClause_156 : decode cX3_readClause 156 = .ok (.iload_n 2, 1) := by decide +kernel
theorem dX3_readClause_157 : decode cX3_readClause 157 = .ok (.invokevirtual 74, 3) := by decide +kernel
theorem dX3_readClause_160 : decode cX3_readClause 160 = .ok (.aload_n 0, 1) := by decide +kernel
theorem dX3_readClause_161 : decode cX3_readClause 161 = .ok (.bipush 59, 2) := by decide +kernel
theorem dX3_readClause_163 : decode cX3_readClause 163 = .ok (.invokevirtual 77, 3) := by decide +kernel
theorem dX3_readClause_166 : decode cX3_readClause 166 = .ok (.return_, 1) := by decide +kernel
def Rd_readClause_37 (ν : Nm) : Option Nm :=
  (Rd_fail (1 : Int32) ν).bind fun v1 =>
  some v1
set_option maxRecDepth 100000 in
set_option maxHeartbeats 4000000 in
theorem t_Rd_readClause_37 {g : GG} {d : Nat} (hd0 : 211 ≤ d) : ∀ (ν : Nm) (r : Nm), Rd_readClause_37 ν = some r → Z g d (0, 0) mX3_readClause 333 0 0 37 [(0, .ref 271)] [] (zem ν) (zF g (none, zem r)) := by
  intro ν r h
  unfold Rd_readClause_37 at h
  refine z_aload_n dX3_readClause_37 0 rfl ?_
  refine z_iconst (M := mX3_readClause) (v := 1) dX3_readClause_38 rfl ?_
  obtain ⟨v1, he1, h⟩ := obind h
  refine y_Vv (M := mX3_readClause) (Y := mX3_fail) (d2 := d - 1) (As := [.int (1 : Int32)]) (st := []) dX3_readClause_39 mlRX3_50 cv_X3_fail zk_271 (ct_Rd_fail (dle (Nat.le_of_ble_eq_true rfl) hd0) he1) (dps (Nat.le_of_ble_eq_true rfl) hd0) rfl rfl (Nat.le_of_ble_eq_true rfl) ?_
  refine z_goto 166 dX3_readClause_42 rfl ?_
  cases h
  exact z_vret dX3_readClause_166 rfl
def Rd_readClause_160 (ν : Nm) : Option Nm :=
  (Rd_expect (59 : Int32) ν).bind fun v1 =>
  some v1
set_option maxRecDepth 100000 in
set_option maxHeartbeats 4000000 in
theorem t_Rd_readClause_160 {g : GG} {d : Nat} (hd0 : 211 ≤ d) : ∀ (ν : Nm) (r : Nm), Rd_readClause_160 ν = some r → Z g d (0, 0) mX3_readClause 333 0 0 160 [(0, .ref 271)] [] (zem ν) (zF g (none, zem r)) := by
  intro ν r h
  unfold Rd_readClause_160 at h
  refine z_aload_n dX3_readClause_160 0 rfl ?_
  refine z_bipush (M := mX3_readClause) (v := 59) dX3_readClause_161 rfl ?_
  obtain ⟨v1, he1, h⟩ := obind h
  refine y_Vv (M := mX3_readClause) (Y := mX3_expect) (d2 := d - 1) (As := [.int (59 : Int32)]) (st := []) dX3_readClause_163 mlRX3_77 cv_X3_expect zk_271 (ct_Rd_expect (dle (Nat.le_of_ble_eq_true rfl) hd0) he1) (dps (Nat.le_of_ble_eq_true rfl) hd0) rfl rfl (Nat.le_of_ble_eq_true rfl) ?_
  cases h
  exact z_vret dX3_readClause_166 rfl
def Rd_readClause_119 (x2 : Int32) (ν : Nm) : Option Nm :=
  (G_rd FR 0 0 ν).bind fun v1 =>
  if zkT (gx v1) then
  if zkT (gx v1) then
  if inb (gi v1 271 9) 2 then
  if zkT (gx (si v1 ((gx v1) + 6) (gi v1 271 9).toNatClampNeg (gi v1 (gx v1) 5))) then
  (Tx_addClause (gx (si v1 ((gx v1) + 6) (gi v1 271 9).toNatClampNeg (gi v1 (gx v1) 5))) x2 (0 : Int32) (0 : Int32) (si v1 ((gx v1) + 6) (gi v1 271 9).toNatClampNeg (gi v1 (gx v1) 5))).bind fun v6 =>
  Rd_readClause_160 v6
  else none
  else none
  else none
  else none
set_option maxRecDepth 100000 in
set_option maxHeartbeats 4000000 in
theorem t_Rd_readClause_119 {g : GG} {d : Nat} (hd0 : 211 ≤ d) : ∀ (x2 : Int32) (ν : Nm) (r : Nm), Rd_readClause_119 x2 ν = some r → Z g d (0, 0) mX3_readClause 333 0 0 119 [(0, .ref 271), (2, .int x2)] [] (zem ν) (zF g (none, zem r)) := by
  intro x2 ν r h
  unfold Rd_readClause_119 at h
  refine z_aload_n dX3_readClause_119 0 rfl ?_
  obtain ⟨v1, he1, h⟩ := obind h
  refine y_Vv (M := mX3_readClause) (Y := mX3_readSum) (d2 := d - 1) (As := []) (st := []) dX3_readClause_120 mlRX3_64 cv_X3_readSum zk_271 (ct_Rd_readSum (dle (Nat.le_of_ble_eq_true rfl) hd0) he1) (dps (Nat.le_of_ble_eq_true rfl) hd0) rfl rfl (Nat.le_of_ble_eq_true rfl) ?_
  refine z_aload_n dX3_readClause_123 0 rfl ?_
  obtain ⟨hT2, h⟩ := oif h
  refine y_getT dX3_readClause_124 zk_271 flRX3_25 (zkT_ok hT2) ?_
  refine y_getR (M := mX3_readClause) (r := ((gx v1) + 6)) dX3_readClause_127 (zkT_ok hT2) flRX3_67 fr_7_7.1 (fr_7_7.2 _) ?_
  refine z_aload_n dX3_readClause_130 0 rfl ?_
  refine y_getI dX3_readClause_131 zk_271 flRX3_57 ?_
  refine z_aload_n dX3_readClause_134 0 rfl ?_
  obtain ⟨hT3, h⟩ := oif h
  refine y_getT dX3_readClause_135 zk_271 flRX3_25 (zkT_ok hT3) ?_
  refine y_getI dX3_readClause_138 (zkT_ok hT3) flRX3_63 ?_
  obtain ⟨hi4, h⟩ := oif h
  refine y_iast (M := mX3_readClause) (jj := (gi v1 271 9).toNatClampNeg) dX3_readClause_141 (zko_7_7 (zkT_ok hT2)) hi4 rfl ?_
  refine z_aload_n dX3_readClause_142 0 rfl ?_
  obtain ⟨hT5, h⟩ := oif h
  refine y_getT dX3_readClause_143 zk_271 flRX3_25 (zkT_ok hT5) ?_
  refine z_iload_n dX3_readClause_146 1 rfl ?_
  refine z_iconst (M := mX3_readClause) (v := 0) dX3_readClause_147 rfl ?_
  refine z_iconst (M := mX3_readClause) (v := 0) dX3_readClause_148 rfl ?_
  obtain ⟨v6, he6, h⟩ := obind h
  refine y_Vv (M := mX3_readClause) (Y := mX9_addClause) (d2 := d - 1) (As := [.int x2, .int (0 : Int32), .int (0 : Int32)]) (st := []) dX3_readClause_149 mlRX3_70 cv_X9_addClause (zkT_ok hT5) (ct_Tx_addClause (dle (Nat.le_of_ble_eq_true rfl) hd0) (zkT_ok hT5) he6) (dps (Nat.le_of_ble_eq_true rfl) hd0) rfl rfl (Nat.le_of_ble_eq_true rfl) ?_
  refine z_goto 160 dX3_readClause_152 rfl ?_
  refine z_lv (lv2 := [(0, .ref 271)]) [0] rfl ?_
  exact t_Rd_readClause_160 hd0  v6 _ h
def Rd_readClause_70 (x1 : Int32) (x2 : Int32) (x3 : Int32) (ν : Nm) : Option Nm :=
  (if x1 < (24 : Int32) then
    (Rd_next ν).bind fun v2 =>
    (if x3 = 0 then
      (Rd_readAct x2 v2).bind fun v4 =>
      Rd_readClause_160 v4
    else
      if zkT (gx (si v2 271 9 (x2 - (2 : Int32)))) then
      if zkT (gx (si v2 271 9 (x2 - (2 : Int32)))) then
      if inb (gi (si v2 271 9 (x2 - (2 : Int32))) 271 9) 2 then
      Rd_readClause_119 x2 (si (si v2 271 9 (x2 - (2 : Int32))) ((gx (si v2 271 9 (x2 - (2 : Int32)))) + 5) (gi (si v2 271 9 (x2 - (2 : Int32))) 271 9).toNatClampNeg (gi (si v2 271 9 (x2 - (2 : Int32))) (gx (si v2 271 9 (x2 - (2 : Int32)))) 5))
      else none
      else none
      else none)
  else
    (Rd_fail (6 : Int32) ν).bind fun v8 =>
    some v8)
set_option maxRecDepth 100000 in
set_option maxHeartbeats 4000000 in
theorem t_Rd_readClause_70 {g : GG} {d : Nat} (hd0 : 211 ≤ d) : ∀ (x1 : Int32) (x2 : Int32) (x3 : Int32) (ν : Nm) (r : Nm), Rd_readClause_70 x1 x2 x3 ν = some r → Z g d (0, 0) mX3_readClause 333 0 0 70 [(0, .ref 271), (1, .int x1), (2, .int x2), (3, .int x3)] [] (zem ν) (zF g (none, zem r)) := by
  intro x1 x2 x3 ν r h
  unfold Rd_readClause_70 at h
  refine z_iload_n dX3_readClause_70 1 rfl ?_
  refine z_bipush (M := mX3_readClause) (v := 24) dX3_readClause_71 rfl ?_
  refine z_icmp_lt 85 dX3_readClause_73 rfl (fun hc1 => ?_) (fun hc1 => ?_)
  · replace h := oT hc1 h
    refine z_aload_n dX3_readClause_85 0 rfl ?_
    obtain ⟨v2, he2, h⟩ := obind h
    refine y_Vv (M := mX3_readClause) (Y := mX3_next) (d2 := d - 1) (As := []) (st := []) dX3_readClause_86 mlRX3_40 cv_X3_next zk_271 (ct_Rd_next (dle (Nat.le_of_ble_eq_true rfl) hd0) he2) (dps (Nat.le_of_ble_eq_true rfl) hd0) rfl rfl (Nat.le_of_ble_eq_true rfl) ?_
    refine z_iload_n dX3_readClause_89 3 rfl ?_
    refine z_if_eq 155 dX3_readClause_90 rfl (fun hc3 => ?_) (fun hc3 => ?_)
    · replace h := oT hc3 h
      refine z_aload_n dX3_readClause_155 0 rfl ?_
      refine z_iload_n dX3_readClause_156 2 rfl ?_
      obtain ⟨v4, he4, h⟩ := obind h
      refine y_Vv (M := mX3_readClause) (Y := mX3_readAct) (d2 := d - 1) (As := [.int x2]) (st := []) dX3_readClause_157 mlRX3_74 cv_X3_readAct zk_271 (ct_Rd_readAct (dle (Nat.le_of_ble_eq_true rfl) hd0) he4) (dps (Nat.le_of_ble_eq_true rfl) hd0) rfl rfl (Nat.le_of_ble_eq_true rfl) ?_
      refine z_lv (lv2 := [(0, .ref 271)]) [0] rfl ?_
      exact t_Rd_readClause_160 hd0  v4 _ h
    · replace h := oF hc3 h
      refine z_aload_n dX3_readClause_93 0 rfl ?_
      refine z_iload_n dX3_readClause_94 2 rfl ?_
      refine z_iconst (M := mX3_readClause) (v := 2) dX3_readClause_95 rfl ?_
      refine z_isub dX3_readClause_96 ?_
      refine y_putI dX3_readClause_97 zk_271 flRX3_57 ⟨rfl, rfl⟩ ?_
      refine z_aload_n dX3_readClause_100 0 rfl ?_
      obtain ⟨hT5, h⟩ := oif h
      refine y_getT dX3_readClause_101 zk_271 flRX3_25 (zkT_ok hT5) ?_
      refine y_getR (M := mX3_readClause) (r := ((gx (si v2 271 9 (x2 - (2 : Int32)))) + 5)) dX3_readClause_104 (zkT_ok hT5) flRX3_60 fr_7_6.1 (fr_7_6.2 _) ?_
      refine z_aload_n dX3_readClause_107 0 rfl ?_
      refine y_getI dX3_readClause_108 zk_271 flRX3_57 ?_
      refine z_aload_n dX3_readClause_111 0 rfl ?_
      obtain ⟨hT6, h⟩ := oif h
      refine y_getT dX3_readClause_112 zk_271 flRX3_25 (zkT_ok hT6) ?_
      refine y_getI dX3_readClause_115 (zkT_ok hT6) flRX3_63 ?_
      obtain ⟨hi7, h⟩ := oif h
      refine y_iast (M := mX3_readClause) (jj := (gi (si v2 271 9 (x2 - (2 : Int32))) 271 9).toNatClampNeg) dX3_readClause_118 (zko_7_6 (zkT_ok hT5)) hi7 rfl ?_
      refine z_lv (lv2 := [(0, .ref 271), (2, .int x2)]) [0, 2] rfl ?_
      exact t_Rd_readClause_119 hd0  x2 (si (si v2 271 9 (x2 - (2 : Int32))) ((gx (si v2 271 9 (x2 - (2 : Int32)))) + 5) (gi (si v2 271 9 (x2 - (2 : Int32))) 271 9).toNatClampNeg (gi (si v2 271 9 (x2 - (2 : Int32))) (gx (si v2 271 9 (x2 - (2 : Int32)))) 5)) _ h
  · replace h := oF hc1 h
    refine z_aload_n dX3_readClause_76 0 rfl ?_
    refine z_bipush (M := mX3_readClause) (v := 6) dX3_readClause_77 rfl ?_
    obtain ⟨v8, he8, h⟩ := obind h
    refine y_Vv (M := mX3_readClause) (Y := mX3_fail) (d2 := d - 1) (As := [.int (6 : Int32)]) (st := []) dX3_readClause_79 mlRX3_50 cv_X3_fail zk_271 (ct_Rd_fail (dle (Nat.le_of_ble_eq_true rfl) hd0) he8) (dps (Nat.le_of_ble_eq_true rfl) hd0) rfl rfl (Nat.le_of_ble_eq_true rfl) ?_
    refine z_goto 166 dX3_readClause_82 rfl ?_
    cases h
    exact z_vret dX3_readClause_166 rfl
def Rd_readClause_20 (x1 : Int32) (x2 : Int32) (s0 : Int32) (ν : Nm) : Option Nm :=
  (if x2 < (2 : Int32) then
    Rd_readClause_37 ν
  else
    (if (12 : Int32) < x2 then
      Rd_readClause_37 ν
    else
      (if ¬ x2 = (5 : Int32) then
        (if s0 = 0 then
          Rd_readClause_70 x1 x2 s0 ν
        else
          if zkT (gx ν) then
          (Tx_rules ν (gx ν) (x2 - (2 : Int32))).bind fun v6 =>
          (if (b2i v6) = 0 then
            Rd_readClause_70 x1 x2 s0 ν
          else
            (Rd_fail (4 : Int32) ν).bind fun v8 =>
            some v8)
          else none)
      else
        Rd_readClause_37 ν)))
set_option maxRecDepth 100000 in
set_option maxHeartbeats 4000000 in
theorem t_Rd_readClause_20 {g : GG} {d : Nat} (hd0 : 211 ≤ d) : ∀ (x1 : Int32) (x2 : Int32) (s0 : Int32) (ν : Nm) (r : Nm), Rd_readClause_20 x1 x2 s0 ν = some r → Z g d (0, 0) mX3_readClause 333 0 0 20 [(0, .ref 271), (1, .int x1), (2, .int x2)] [.int s0] (zem ν) (zF g (none, zem r)) := by
  intro x1 x2 s0 ν r h
  unfold Rd_readClause_20 at h
  refine z_istore_n (M := mX3_readClause) (lv2 := [(3, .int s0), (0, .ref 271), (1, .int x1), (2, .int x2)]) dX3_readClause_20 (Nat.le_of_ble_eq_true rfl) rfl ?_
  refine z_iload_n dX3_readClause_21 3 rfl ?_
  refine z_iconst (M := mX3_readClause) (v := 2) dX3_readClause_22 rfl ?_
  refine z_icmp_lt 37 dX3_readClause_23 rfl (fun hc1 => ?_) (fun hc1 => ?_)
  · replace h := oT hc1 h
    refine z_lv (lv2 := [(0, .ref 271)]) [1] rfl ?_
    exact t_Rd_readClause_37 hd0  ν _ h
  · replace h := oF hc1 h
    refine z_iload_n dX3_readClause_26 3 rfl ?_
    refine z_bipush (M := mX3_readClause) (v := 12) dX3_readClause_27 rfl ?_
    refine z_icmp_gt 37 dX3_readClause_29 rfl (fun hc2 => ?_) (fun hc2 => ?_)
    · replace h := oT hc2 h
      refine z_lv (lv2 := [(0, .ref 271)]) [1] rfl ?_
      exact t_Rd_readClause_37 hd0  ν _ h
    · replace h := oF hc2 h
      refine z_iload_n dX3_readClause_32 3 rfl ?_
      refine z_iconst (M := mX3_readClause) (v := 5) dX3_readClause_33 rfl ?_
      refine z_icmp_ne 45 dX3_readClause_34 rfl (fun hc3 => ?_) (fun hc3 => ?_)
      · replace h := oT hc3 h
        refine z_iload_n dX3_readClause_45 0 rfl ?_
        refine z_if_eq 70 dX3_readClause_46 rfl (fun hc4 => ?_) (fun hc4 => ?_)
        · replace h := oT hc4 h
          refine z_lv (lv2 := [(0, .ref 271), (1, .int x1), (2, .int x2), (3, .int s0)]) [1, 2, 3, 0] rfl ?_
          exact t_Rd_readClause_70 hd0  x1 x2 s0 ν _ h
        · replace h := oF hc4 h
          refine z_aload_n dX3_readClause_49 1 rfl ?_
          obtain ⟨hT5, h⟩ := oif h
          refine y_getT dX3_readClause_50 zk_271 flRX3_25 (zkT_ok hT5) ?_
          refine z_iload_n dX3_readClause_53 3 rfl ?_
          refine z_iconst (M := mX3_readClause) (v := 2) dX3_readClause_54 rfl ?_
          refine z_isub dX3_readClause_55 ?_
          obtain ⟨v6, he6, h⟩ := obind h
          refine y_Vi (M := mX3_readClause) (Y := mX9_rules) (d2 := d - 1) (As := [.int (x2 - (2 : Int32))]) (st := []) dX3_readClause_56 mlRX3_53 cv_X9_rules (zkT_ok hT5) (ct_Tx_rules (dle (Nat.le_of_ble_eq_true rfl) hd0) (zkT_ok hT5) he6) (dps (Nat.le_of_ble_eq_true rfl) hd0) rfl rfl (Nat.le_of_ble_eq_true rfl) ?_
          refine z_if_eq 70 dX3_readClause_59 rfl (fun hc7 => ?_) (fun hc7 => ?_)
          · replace h := oT hc7 h
            refine z_lv (lv2 := [(0, .ref 271), (1, .int x1), (2, .int x2), (3, .int s0)]) [1, 2, 3, 0] rfl ?_
            exact t_Rd_readClause_70 hd0  x1 x2 s0 ν _ h
          · replace h := oF hc7 h
            refine z_aload_n dX3_readClause_62 1 rfl ?_
            refine z_iconst (M := mX3_readClause) (v := 4) dX3_readClause_63 rfl ?_
            obtain ⟨v8, he8, h⟩ := obind h
            refine y_Vv (M := mX3_readClause) (Y := mX3_fail) (d2 := d - 1) (As := [.int (4 : Int32)]) (st := []) dX3_readClause_64 mlRX3_50 cv_X3_fail zk_271 (ct_Rd_fail (dle (Nat.le_of_ble_eq_true rfl) hd0) he8) (dps (Nat.le_of_ble_eq_true rfl) hd0) rfl rfl (Nat.le_of_ble_eq_true rfl) ?_
            refine z_goto 166 dX3_readClause_67 rfl ?_
            cases h
            exact z_vret dX3_readClause_166 rfl
      · replace h := oFn hc3 h
        refine z_lv (lv2 := [(0, .ref 271)]) [1] rfl ?_
        exact t_Rd_readClause_37 hd0  ν _ h
def Rd_readClause_15 (x1 : Int32) (x2 : Int32) (ν : Nm) : Option Nm :=
  Rd_readClause_20 x1 x2 (1 : Int32) ν
set_option maxRecDepth 100000 in
set_option maxHeartbeats 4000000 in
theorem t_Rd_readClause_15 {g : GG} {d : Nat} (hd0 : 211 ≤ d) : ∀ (x1 : Int32) (x2 : Int32) (ν : Nm) (r : Nm), Rd_readClause_15 x1 x2 ν = some r → Z g d (0, 0) mX3_readClause 333 0 0 15 [(0, .ref 271), (1, .int x1), (2, .int x2)] [] (zem ν) (zF g (none, zem r)) := by
  intro x1 x2 ν r h
  unfold Rd_readClause_15 at h
  refine z_iconst (M := mX3_readClause) (v := 1) dX3_readClause_15 rfl ?_
  refine z_goto 20 dX3_readClause_16 rfl ?_
  exact t_Rd_readClause_20 hd0  x1 x2 (1 : Int32) ν _ h
def Rd_readClause (x1 : Int32) (ν : Nm) : Option Nm :=
  (if (gi ν 271 5) = (2 : Int32) then
    Rd_readClause_15 x1 (gi ν 271 5) ν
  else
    (if ¬ (gi ν 271 5) = (3 : Int32) then
      Rd_readClause_20 x1 (gi ν 271 5) (0 : Int32) ν
    else
      Rd_readClause_15 x1 (gi ν 271 5) ν))
set_option maxRecDepth 100000 in
set_option maxHeartbeats 4000000 in
theorem t_Rd_readClause {g : GG} {d : Nat} (hd0 : 211 ≤ d) : ∀ (x1 : Int32) (ν : Nm) (r : Nm), Rd_readClause x1 ν = some r → Z g d (0, 0) mX3_readClause 333 0 0 0 [(0, .ref 271), (1, .int x1)] [] (zem ν) (zF g (none, zem r)) := by
  intro x1 ν r h
  unfold Rd_readClause at h
  refine z_aload_n dX3_readClause_0 0 rfl ?_
  refine y_getI dX3_readClause_1 zk_271 flRX3_43 ?_
  refine z_istore_n (M := mX3_readClause) (lv2 := [(2, .int (gi ν 271 5)), (0, .ref 271), (1, .int x1)]) dX3_readClause_4 (Nat.le_of_ble_eq_true rfl) rfl ?_
  refine z_iload_n dX3_readClause_5 0 rfl ?_
  refine z_iconst (M := mX3_readClause) (v := 2) dX3_readClause_6 rfl ?_
  refine z_icmp_eq 15 dX3_readClause_7 rfl (fun hc1 => ?_) (fun hc1 => ?_)
  · replace h := oT hc1 h
    refine z_lv (lv2 := [(0, .ref 271), (1, .int x1), (2, .int (gi ν 271 5))]) [1, 2, 0] rfl ?_
    exact t_Rd_readClause_15 hd0  x1 (gi ν 271 5) ν _ h
  · replace h := oF hc1 h
    refine z_iload_n dX3_readClause_10 0 rfl ?_
    refine z_iconst (M := mX3_readClause) (v := 3) dX3_readClause_11 rfl ?_
    refine z_icmp_ne 19 dX3_readClause_12 rfl (fun hc2 => ?_) (fun hc2 => ?_)
    · replace h := oT hc2 h
      refine z_iconst (M := mX3_readClause) (v := 0) dX3_readClause_19 rfl ?_
      refine z_lv (lv2 := [(0, .ref 271), (1, .int x1), (2, .int (gi ν 271 5))]) [1, 2, 0] rfl ?_
      exact t_Rd_readClause_20 hd0  x1 (gi ν 271 5) (0 : Int32) ν _ h
    · replace h := oFn hc2 h
      refine z_lv (lv2 := [(0, .ref 271), (1, .int x1), (2, .int (gi ν 271 5))]) [1, 2, 0] rfl ?_
      exact t_Rd_readClause_15 hd0  x1 (gi ν 271 5) ν _ h
theorem ct_Rd_readClause {g : GG} {d : Nat} {x1 : Int32} {ν : Nm} {r : Nm} (hd0 : 211 ≤ d)  (h : Rd_readClause x1 ν = some r) : Ct g d mX3_readClause [.ref 271, .int x1] (zem ν) (none, zem r) := y_entry in_X3_readClause (Nat.le_of_ble_eq_true rfl) rfl (t_Rd_readClause hd0 x1 ν r h)
-- FuseMinutes$Reader.readInto(LFuseMinutes$Text;)V
theorem dX3_readInto_0 : decode cX3_readInto 0 = .ok (.aload_n 0, 1) := by decide +kernel
theorem dX3_readInto_1 : decode cX3_readInto 1 = .ok (.aload_n 1, 1) := by decide +kernel
theorem dX3_readInto_2 : decode cX3_readInto 2 = .ok (.putfield 25, 3) := by decide +kernel
theorem dX3_readInto_5 : decode cX3_readInto 5 = .ok (.aload_n 0, 1) := by decide +kernel
theorem dX3_readInto_6 : decode cX3_readInto 6 = .ok (.getfield 25, 3) := by decide +kernel
theorem dX3_readInto_9 : decode cX3_readInto 9 = .ok (.invokevirtual 29, 3) := by decide +kernel
theorem dX3_readInto_12 : decode cX3_readInto 12 = .ok (.aload_n 0, 1) := by decide +kernel
theorem dX3_readInto_13 : decode cX3_readInto 13 = .ok (.iconst 0, 1) := by decide +kernel
theorem dX3_readInto_14 : decode cX3_readInto 14 = .ok (.putfield 15, 3) := by decide +kernel
theorem dX3_readInto_17 : decode cX3_readInto 17 = .ok (.aload_n 0, 1) := by decide +kernel
theorem dX3_readInto_18 : decode cX3_readInto 18 = .ok (.iconst (-1), 1) := by decide +kernel
theorem dX3_readInto_19 : decode cX3_readInto 19 = .ok (.putfield 19, 3) := by decide +kernel
theorem dX3_readInto_22 : decode cX3_readInto 22 = .ok (.aload_n 0, 1) := by decide +kernel
theorem dX3_readInto_23 : decode cX3_readInto 23 = .ok (.iconst 0, 1) := by decide +kernel
theorem dX3_readInto_24 : decode cX3_readInto 24 = .ok (.putfield 34, 3) := by decide +kernel
theorem dX3_readInto_27 : decode cX3_readInto 27 = .ok (.aload_n 0, 1) := by decide +kernel
theorem dX3_readInto_28 : decode cX3_readInto 28 = .ok (.iconst 0, 1) := by decide +kernel
theorem dX3_readInto_29 : decode cX3_readInto 29 = .ok (.putfield 37, 3) := by decide +kernel
theorem dX3_readInto_32 : decode cX3_readInto 32 = .ok (.aload_n 0, 1) := by decide +kernel
theorem dX3_readInto_33 : decode cX3_readInto 33 = .ok (.invokevirtual 40, 3) := by decide +kernel
theorem dX3_readInto_36 : decode cX3_readInto 36 = .ok (.iconst 0, 1) := by decide +kernel
theorem dX3_readInto_37 : decode cX3_readInto 37 = .ok (.istore_n 2, 1) := by decide +kernel
theorem dX3_readInto_38 : decode cX3_readInto 38 = .ok (.iload_n 2, 1) := by decide +kernel
theorem dX3_readInto_39 : decode cX3_readInto 39 = .ok (.sipush 300, 3) := by decide +kernel
theorem dX3_readInto_42 : decode cX3_readInto 42 = .ok (.if_icmp .ge 24, 3) := by decide +kernel
theorem dX3_readInto_45 : decode cX3_readInto 45 = .ok (.aload_n 0, 1) := by decide +kernel
theorem dX3_readInto_46 : decode cX3_readInto 46 = .ok (.getfield 43, 3) := by decide +kernel
theorem dX3_readInto_49 : decode cX3_readInto 49 = .ok (.sipush 131, 3) := by decide +kernel
theorem dX3_readInto_52 : decode cX3_readInto 52 = .ok (.if_icmp .eq 14, 3) := by decide +kernel
theorem dX3_readInto_55 : decode cX3_readInto 55 = .ok (.aload_n 0, 1) := by decide +kernel
theorem dX3_readInto_56 : decode cX3_readInto 56 = .ok (.iload_n 2, 1) := by decide +kernel
theorem dX3_readInto_57 : decode cX3_readInto 57 = .ok (.invokevirtual 46, 3) := by decide +kernel
theorem dX3_readInto_60 : decode cX3_readInto 60 = .ok (.iinc 2 1, 3) := by decide +kernel
theorem dX3_readInto_63 : decode cX3_readInto 63 = .ok (.goto (-25), 3) := by decide +kernel
theorem dX3_readInto_66 : decode cX3_readInto 66 = .ok (.return_, 1) := by decide +kernel
def Rd_readInto_38 : Nat → Int32 → Nm → Option Nm
  | 0, _, _ => none
  | f + 1, x2, ν =>
    (if (300 : Int32) ≤ x2 then
      some ν
    else
      (if (gi ν 271 5) = (131 : Int32) then
        some ν
      else
        (Rd_readClause x2 ν).bind fun v3 =>
        (Rd_readInto_38 f) (x2 + (1 : Int32)) v3))
set_option maxRecDepth 100000 in
set_option maxHeartbeats 4000000 in
theorem t_Rd_readInto_38 {g : GG} {d : Nat} (hd0 : 212 ≤ d) : ∀ (f : Nat), ∀ (x2 : Int32) (ν : Nm) (r : Nm), Rd_readInto_38 f x2 ν = some r → Z g d (0, 0) mX3_readInto 333 0 0 38 [(0, .ref 271), (2, .int x2)] [] (zem ν) (zF g (none, zem r)) := by
  intro f
  induction f with
  | zero =>
    intro x2 ν r h
    cases h
  | succ f ih =>
    intro x2 ν r h
    rw [Rd_readInto_38] at h
    refine z_iload_n dX3_readInto_38 1 rfl ?_
    refine z_sipush (M := mX3_readInto) (v := 300) dX3_readInto_39 rfl ?_
    refine z_icmp_ge 66 dX3_readInto_42 rfl (fun hc1 => ?_) (fun hc1 => ?_)
    · replace h := oT hc1 h
      cases h
      exact z_vret dX3_readInto_66 rfl
    · replace h := oF hc1 h
      refine z_aload_n dX3_readInto_45 0 rfl ?_
      refine y_getI dX3_readInto_46 zk_271 flRX3_43 ?_
      refine z_sipush (M := mX3_readInto) (v := 131) dX3_readInto_49 rfl ?_
      refine z_icmp_eq 66 dX3_readInto_52 rfl (fun hc2 => ?_) (fun hc2 => ?_)
      · replace h := oT hc2 h
        cases h
        exact z_vret dX3_readInto_66 rfl
      · replace h := oF hc2 h
        refine z_aload_n dX3_readInto_55 0 rfl ?_
        refine z_iload_n dX3_readInto_56 1 rfl ?_
        obtain ⟨v3, he3, h⟩ := obind h
        refine y_Vv (M := mX3_readInto) (Y := mX3_readClause) (d2 := d - 1) (As := [.int x2]) (st := []) dX3_readInto_57 mlRX3_46 cv_X3_readClause zk_271 (ct_Rd_readClause (dle (Nat.le_of_ble_eq_true rfl) hd0) he3) (dps (Nat.le_of_ble_eq_true rfl) hd0) rfl rfl (Nat.le_of_ble_eq_true rfl) ?_
        refine z_iinc (M := mX3_readInto) (v := (x2 + (1 : Int32))) (lv2 := [(2, .int (x2 + (1 : Int32))), (0, .ref 271)]) dX3_readInto_60 1 rfl rfl (Nat.le_of_ble_eq_true rfl) rfl ?_
        refine z_goto 38 dX3_readInto_63 rfl ?_
        refine z_lv (lv2 := [(0, .ref 271), (2, .int (x2 + (1 : Int32)))]) [1, 0] rfl ?_
        exact ih (x2 + (1 : Int32)) v3 _ h
def Rd_readInto (x1 : Nat) (ν : Nm) : Option Nm :=
  if zkT (gx (sx ν x1)) then
  (Tx_clear (gx (sx ν x1)) (sx ν x1)).bind fun v2 =>
  (Rd_next (si (si (si (si v2 271 2 (0 : Int32)) 271 3 (-1 : Int32)) 271 4 (0 : Int32)) 271 8 (0 : Int32))).bind fun v3 =>
  Rd_readInto_38 FU (0 : Int32) v3
  else none
set_option maxRecDepth 100000 in
set_option maxHeartbeats 4000000 in
theorem t_Rd_readInto {g : GG} {d : Nat} (hd0 : 212 ≤ d) : ∀ (x1 : Nat) (ν : Nm) (r : Nm), zk 333 x1 (7, 0) → Rd_readInto x1 ν = some r → Z g d (0, 0) mX3_readInto 333 0 0 0 [(0, .ref 271), (1, .ref x1)] [] (zem ν) (zF g (none, zem r)) := by
  intro x1 ν r hq1 h
  unfold Rd_readInto at h
  refine z_aload_n dX3_readInto_0 0 rfl ?_
  refine z_aload_n dX3_readInto_1 1 rfl ?_
  refine y_putT dX3_readInto_2 zk_271 flRX3_25 hq1 (fun _ => ⟨rfl, rfl⟩) ?_
  refine z_aload_n dX3_readInto_5 0 rfl ?_
  obtain ⟨hT1, h⟩ := oif h
  refine y_getT dX3_readInto_6 zk_271 flRX3_25 (zkT_ok hT1) ?_
  obtain ⟨v2, he2, h⟩ := obind h
  refine y_Vv (M := mX3_readInto) (Y := mX9_clear) (d2 := d - 1) (As := []) (st := []) dX3_readInto_9 mlRX3_29 cv_X9_clear (zkT_ok hT1) (ct_Tx_clear (dle (Nat.le_of_ble_eq_true rfl) hd0) (zkT_ok hT1) he2) (dps (Nat.le_of_ble_eq_true rfl) hd0) rfl rfl (Nat.le_of_ble_eq_true rfl) ?_
  refine z_aload_n dX3_readInto_12 0 rfl ?_
  refine z_iconst (M := mX3_readInto) (v := 0) dX3_readInto_13 rfl ?_
  refine y_putI dX3_readInto_14 zk_271 flRX3_15 ⟨rfl, rfl⟩ ?_
  refine z_aload_n dX3_readInto_17 0 rfl ?_
  refine z_iconst (M := mX3_readInto) (v := -1) dX3_readInto_18 rfl ?_
  refine y_putI dX3_readInto_19 zk_271 flRX3_19 ⟨rfl, rfl⟩ ?_
  refine z_aload_n dX3_readInto_22 0 rfl ?_
  refine z_iconst (M := mX3_readInto) (v := 0) dX3_readInto_23 rfl ?_
  refine y_putI dX3_readInto_24 zk_271 flRX3_34 ⟨rfl, rfl⟩ ?_
  refine z_aload_n dX3_readInto_27 0 rfl ?_
  refine z_iconst (M := mX3_readInto) (v := 0) dX3_readInto_28 rfl ?_
  refine y_putI dX3_readInto_29 zk_271 flRX3_37 ⟨rfl, rfl⟩ ?_
  refine z_aload_n dX3_readInto_32 0 rfl ?_
  obtain ⟨v3, he3, h⟩ := obind h
  refine y_Vv (M := mX3_readInto) (Y := mX3_next) (d2 := d - 1) (As := []) (st := []) dX3_readInto_33 mlRX3_40 cv_X3_next zk_271 (ct_Rd_next (dle (Nat.le_of_ble_eq_true rfl) hd0) he3) (dps (Nat.le_of_ble_eq_true rfl) hd0) rfl rfl (Nat.le_of_ble_eq_true rfl) ?_
  refine z_iconst (M := mX3_readInto) (v := 0) dX3_readInto_36 rfl ?_
  refine z_istore_n (M := mX3_readInto) (lv2 := [(2, .int (0 : Int32)), (0, .ref 271), (1, .ref x1)]) dX3_readInto_37 (Nat.le_of_ble_eq_true rfl) rfl ?_
  refine z_lv (lv2 := [(0, .ref 271), (2, .int (0 : Int32))]) [1, 0] rfl ?_
  exact t_Rd_readInto_38 hd0 FU (0 : Int32) v3 _ h
theorem ct_Rd_readInto {g : GG} {d : Nat} {x1 : Nat} {ν : Nm} {r : Nm} (hd0 : 212 ≤ d) (hq1 : zk 333 x1 (7, 0)) (h : Rd_readInto x1 ν = some r) : Ct g d mX3_readInto [.ref 271, .ref x1] (zem ν) (none, zem r) := y_entry in_X3_readInto (Nat.le_of_ble_eq_true rfl) rfl (t_Rd_readInto hd0 x1 ν r hq1 h)
